theorem dX10_meet_206 : decode cX10_meet 206 = .ok (.invokestatic 113, 3) := by decide +kernel
theorem dX10_meet_209 : decode cX10_meet 209 = .ok (.ifCond .ne 4, 3) := by decide +kernel
theorem dX10_meet_212 : decode cX10_meet 212 = .ok (.return_, 1) := by decide +kernel
theorem dX10_meet_213 : decode cX10_meet 213 = .ok (.aload_n 0, 1) := by decide +kernel
theorem dX10_meet_214 : decode cX10_meet 214 = .ok (.iload 8, 2) := by decide +kernel
theorem dX10_meet_216 : decode cX10_meet 216 = .ok (.ifCond .eq 22, 3) := by decide +kernel
theorem dX10_meet_219 : decode cX10_meet 219 = .ok (.iload 8, 2) := by decide +kernel
theorem dX10_meet_221 : decode cX10_meet 221 = .ok (.iload 7, 2) := by decide +kernel
theorem dX10_meet_223 : decode cX10_meet 223 = .ok (.if_icmp .eq 15, 3) := by decide +kernel
theorem dX10_meet_226 : decode cX10_meet 226 = .ok (.iload 9, 2) := by decide +kernel
theorem dX10_meet_228 : decode cX10_meet 228 = .ok (.ifCond .eq 10, 3) := by decide +kernel
theorem dX10_meet_231 : decode cX10_meet 231 = .ok (.iload 9, 2) := by decide +kernel
theorem dX10_meet_233 : decode cX10_meet 233 = .ok (.iload 7, 2) := by decide +kernel
theorem dX10_meet_235 : decode cX10_meet 235 = .ok (.if_icmp .ne 7, 3) := by decide +kernel
theorem dX10_meet_238 : decode cX10_meet 238 = .ok (.iconst 2, 1) := by decide +kernel
theorem dX10_meet_239 : decode cX10_meet 239 = .ok (.goto 4, 3) := by decide +kernel
theorem dX10_meet_242 : decode cX10_meet 242 = .ok (.iconst 1, 1) := by decide +kernel
theorem dX10_meet_243 : decode cX10_meet 243 = .ok (.putfield 140, 3) := by decide +kernel
theorem dX10_meet_246 : decode cX10_meet 246 = .ok (.aload_n 0, 1) := by decide +kernel
theorem dX10_meet_247 : decode cX10_meet 247 = .ok (.aload_n 0, 1) := by decide +kernel
theorem dX10_meet_248 : decode cX10_meet 248 = .ok (.getfield 9, 3) := by decide +kernel
theorem dX10_meet_251 : decode cX10_meet 251 = .ok (.iload_n 1, 1) := by decide +kernel
theorem dX10_meet_252 : decode cX10_meet 252 = .ok (.iaload, 1) := by decide +kernel
theorem dX10_meet_253 : decode cX10_meet 253 = .ok (.i2l, 1) := by decide +kernel
theorem dX10_meet_254 : decode cX10_meet 254 = .ok (.iload 7, 2) := by decide +kernel
theorem dX10_meet_256 : decode cX10_meet 256 = .ok (.i2l, 1) := by decide +kernel
theorem dX10_meet_257 : decode cX10_meet 257 = .ok (.lmul, 1) := by decide +kernel
theorem dX10_meet_258 : decode cX10_meet 258 = .ok (.iload 8, 2) := by decide +kernel
theorem dX10_meet_260 : decode cX10_meet 260 = .ok (.i2l, 1) := by decide +kernel
theorem dX10_meet_261 : decode cX10_meet 261 = .ok (.iload_n 3, 1) := by decide +kernel
theorem dX10_meet_262 : decode cX10_meet 262 = .ok (.i2l, 1) := by decide +kernel
theorem dX10_meet_263 : decode cX10_meet 263 = .ok (.lmul, 1) := by decide +kernel
theorem dX10_meet_264 : decode cX10_meet 264 = .ok (.ladd, 1) := by decide +kernel
theorem dX10_meet_265 : decode cX10_meet 265 = .ok (.putfield 143, 3) := by decide +kernel
theorem dX10_meet_268 : decode cX10_meet 268 = .ok (.aload_n 0, 1) := by decide +kernel
theorem dX10_meet_269 : decode cX10_meet 269 = .ok (.aload_n 0, 1) := by decide +kernel
theorem dX10_meet_270 : decode cX10_meet 270 = .ok (.getfield 13, 3) := by decide +kernel
theorem dX10_meet_273 : decode cX10_meet 273 = .ok (.iload_n 1, 1) := by decide +kernel
theorem dX10_meet_274 : decode cX10_meet 274 = .ok (.iaload, 1) := by decide +kernel
theorem dX10_meet_275 : decode cX10_meet 275 = .ok (.i2l, 1) := by decide +kernel
theorem dX10_meet_276 : decode cX10_meet 276 = .ok (.iload 7, 2) := by decide +kernel
theorem dX10_meet_278 : decode cX10_meet 278 = .ok (.i2l, 1) := by decide +kernel
theorem dX10_meet_279 : decode cX10_meet 279 = .ok (.lmul, 1) := by decide +kernel
theorem dX10_meet_280 : decode cX10_meet 280 = .ok (.iload 8, 2) := by decide +kernel
theorem dX10_meet_282 : decode cX10_meet 282 = .ok (.i2l, 1) := by decide +kernel
theorem dX10_meet_283 : decode cX10_meet 283 = .ok (.iload 4, 2) := by decide +kernel
theorem dX10_meet_285 : decode cX10_meet 285 = .ok (.i2l, 1) := by decide +kernel
theorem dX10_meet_286 : decode cX10_meet 286 = .ok (.lmul, 1) := by decide +kernel
theorem dX10_meet_287 : decode cX10_meet 287 = .ok (.ladd, 1) := by decide +kernel
theorem dX10_meet_288 : decode cX10_meet 288 = .ok (.putfield 147, 3) := by decide +kernel
theorem dX10_meet_291 : decode cX10_meet 291 = .ok (.aload_n 0, 1) := by decide +kernel
theorem dX10_meet_292 : decode cX10_meet 292 = .ok (.iload 7, 2) := by decide +kernel
theorem dX10_meet_294 : decode cX10_meet 294 = .ok (.i2l, 1) := by decide +kernel
theorem dX10_meet_295 : decode cX10_meet 295 = .ok (.putfield 150, 3) := by decide +kernel
theorem dX10_meet_298 : decode cX10_meet 298 = .ok (.return_, 1) := by decide +kernel
theorem dX10_lowest_0 : decode cX10_lowest 0 = .ok (.lload_n 0, 1) := by decide +kernel
theorem dX10_lowest_1 : decode cX10_lowest 1 = .ok (.invokestatic 161, 3) := by decide +kernel
theorem dX10_lowest_4 : decode cX10_lowest 4 = .ok (.lload_n 2, 1) := by decide +kernel
theorem dX10_lowest_5 : decode cX10_lowest 5 = .ok (.invokestatic 117, 3) := by decide +kernel
theorem dX10_lowest_8 : decode cX10_lowest 8 = .ok (.lstore 5, 2) := by decide +kernel
theorem dX10_lowest_10 : decode cX10_lowest 10 = .ok (.iload 4, 2) := by decide +kernel
theorem dX10_lowest_12 : decode cX10_lowest 12 = .ok (.ifCond .eq 7, 3) := by decide +kernel
theorem dX10_lowest_15 : decode cX10_lowest 15 = .ok (.lload_n 2, 1) := by decide +kernel
theorem dX10_lowest_16 : decode cX10_lowest 16 = .ok (.goto 4, 3) := by decide +kernel
theorem dX10_lowest_19 : decode cX10_lowest 19 = .ok (.lload_n 0, 1) := by decide +kernel
theorem dX10_lowest_20 : decode cX10_lowest 20 = .ok (.lload 5, 2) := by decide +kernel
theorem dX10_lowest_22 : decode cX10_lowest 22 = .ok (.ldiv, 1) := by decide +kernel
theorem dX10_lowest_23 : decode cX10_lowest 23 = .ok (.lreturn, 1) := by decide +kernel
theorem dX10_cross_0 : decode cX10_cross 0 = .ok (.aload_n 0, 1) := by decide +kernel
theorem dX10_cross_1 : decode cX10_cross 1 = .ok (.iload_n 1, 1) := by decide +kernel
theorem dX10_cross_2 : decode cX10_cross 2 = .ok (.invokevirtual 129, 3) := by decide +kernel
theorem dX10_cross_5 : decode cX10_cross 5 = .ok (.ifCond .eq 25, 3) := by decide +kernel
theorem dX10_cross_8 : decode cX10_cross 8 = .ok (.aload_n 0, 1) := by decide +kernel
theorem dX10_cross_9 : decode cX10_cross 9 = .ok (.iload_n 2, 1) := by decide +kernel
theorem dX10_cross_10 : decode cX10_cross 10 = .ok (.invokevirtual 129, 3) := by decide +kernel
theorem dX10_cross_13 : decode cX10_cross 13 = .ok (.ifCond .eq 17, 3) := by decide +kernel
theorem dX10_cross_16 : decode cX10_cross 16 = .ok (.iload_n 1, 1) := by decide +kernel
theorem dX10_cross_17 : decode cX10_cross 17 = .ok (.iload_n 2, 1) := by decide +kernel
theorem dX10_cross_18 : decode cX10_cross 18 = .ok (.if_icmp .eq 12, 3) := by decide +kernel
theorem dX10_cross_21 : decode cX10_cross 21 = .ok (.iload_n 3, 1) := by decide +kernel
theorem dX10_cross_22 : decode cX10_cross 22 = .ok (.iconst 0, 1) := by decide +kernel
theorem dX10_cross_23 : decode cX10_cross 23 = .ok (.iconst 4, 1) := by decide +kernel
theorem dX10_cross_24 : decode cX10_cross 24 = .ok (.invokestatic 113, 3) := by decide +kernel
theorem dX10_cross_27 : decode cX10_cross 27 = .ok (.ifCond .ne 6, 3) := by decide +kernel
theorem dX10_cross_30 : decode cX10_cross 30 = .ok (.bipush (-2), 2) := by decide +kernel
theorem dX10_cross_32 : decode cX10_cross 32 = .ok (.ireturn, 1) := by decide +kernel
theorem dX10_cross_33 : decode cX10_cross 33 = .ok (.aload_n 0, 1) := by decide +kernel
theorem dX10_cross_34 : decode cX10_cross 34 = .ok (.iload_n 1, 1) := by decide +kernel
theorem dX10_cross_35 : decode cX10_cross 35 = .ok (.iload_n 2, 1) := by decide +kernel
theorem dX10_cross_36 : decode cX10_cross 36 = .ok (.invokevirtual 165, 3) := by decide +kernel
theorem dX10_cross_39 : decode cX10_cross 39 = .ok (.iload_n 3, 1) := by decide +kernel
theorem dX10_cross_40 : decode cX10_cross 40 = .ok (.ifCond .ne 8, 3) := by decide +kernel
theorem dX10_cross_43 : decode cX10_cross 43 = .ok (.aload_n 0, 1) := by decide +kernel
theorem dX10_cross_44 : decode cX10_cross 44 = .ok (.getfield 140, 3) := by decide +kernel
theorem dX10_cross_47 : decode cX10_cross 47 = .ok (.ireturn, 1) := by decide +kernel
theorem dX10_cross_48 : decode cX10_cross 48 = .ok (.aload_n 0, 1) := by decide +kernel
theorem dX10_cross_49 : decode cX10_cross 49 = .ok (.getfield 140, 3) := by decide +kernel
theorem dX10_cross_52 : decode cX10_cross 52 = .ok (.ifCond .eq 11, 3) := by decide +kernel
theorem dX10_cross_55 : decode cX10_cross 55 = .ok (.aload_n 0, 1) := by decide +kernel
theorem dX10_cross_56 : decode cX10_cross 56 = .ok (.getfield 140, 3) := by decide +kernel
theorem dX10_cross_59 : decode cX10_cross 59 = .ok (.iconst 3, 1) := by decide +kernel
theorem dX10_cross_60 : decode cX10_cross 60 = .ok (.if_icmp .ne 6, 3) := by decide +kernel
theorem dX10_cross_63 : decode cX10_cross 63 = .ok (.bipush (-3), 2) := by decide +kernel
theorem dX10_cross_65 : decode cX10_cross 65 = .ok (.ireturn, 1) := by decide +kernel
theorem dX10_cross_66 : decode cX10_cross 66 = .ok (.iload_n 3, 1) := by decide +kernel
theorem dX10_cross_67 : decode cX10_cross 67 = .ok (.iconst 3, 1) := by decide +kernel
theorem dX10_cross_68 : decode cX10_cross 68 = .ok (.if_icmp .ge 10, 3) := by decide +kernel
theorem dX10_cross_71 : decode cX10_cross 71 = .ok (.aload_n 0, 1) := by decide +kernel
theorem dX10_cross_72 : decode cX10_cross 72 = .ok (.getfield 143, 3) := by decide +kernel
theorem dX10_cross_75 : decode cX10_cross 75 = .ok (.goto 7, 3) := by decide +kernel
theorem dX10_cross_78 : decode cX10_cross 78 = .ok (.aload_n 0, 1) := by decide +kernel
theorem dX10_cross_79 : decode cX10_cross 79 = .ok (.getfield 147, 3) := by decide +kernel
theorem dX10_cross_82 : decode cX10_cross 82 = .ok (.aload_n 0, 1) := by decide +kernel
theorem dX10_cross_83 : decode cX10_cross 83 = .ok (.getfield 150, 3) := by decide +kernel
theorem dX10_cross_86 : decode cX10_cross 86 = .ok (.iload_n 3, 1) := by decide +kernel
theorem dX10_cross_87 : decode cX10_cross 87 = .ok (.iconst 2, 1) := by decide +kernel
theorem dX10_cross_88 : decode cX10_cross 88 = .ok (.irem, 1) := by decide +kernel
theorem dX10_cross_89 : decode cX10_cross 89 = .ok (.ifCond .ne 7, 3) := by decide +kernel
theorem dX10_cross_92 : decode cX10_cross 92 = .ok (.iconst 1, 1) := by decide +kernel
theorem dX10_cross_93 : decode cX10_cross 93 = .ok (.goto 4, 3) := by decide +kernel
theorem dX10_cross_96 : decode cX10_cross 96 = .ok (.iconst 0, 1) := by decide +kernel
theorem dX10_cross_97 : decode cX10_cross 97 = .ok (.invokestatic 168, 3) := by decide +kernel
theorem dX10_cross_100 : decode cX10_cross 100 = .ok (.l2i, 1) := by decide +kernel
theorem dX10_cross_101 : decode cX10_cross 101 = .ok (.ireturn, 1) := by decide +kernel
theorem dX10_pointAgainst_0 : decode cX10_pointAgainst 0 = .ok (.aload_n 0, 1) := by decide +kernel
theorem dX10_pointAgainst_1 : decode cX10_pointAgainst 1 = .ok (.getfield 22, 3) := by decide +kernel
theorem dX10_pointAgainst_4 : decode cX10_pointAgainst 4 = .ok (.iload_n 1, 1) := by decide +kernel
theorem dX10_pointAgainst_5 : decode cX10_pointAgainst 5 = .ok (.laload, 1) := by decide +kernel
theorem dX10_pointAgainst_6 : decode cX10_pointAgainst 6 = .ok (.aload_n 0, 1) := by decide +kernel
theorem dX10_pointAgainst_7 : decode cX10_pointAgainst 7 = .ok (.getfield 26, 3) := by decide +kernel
theorem dX10_pointAgainst_10 : decode cX10_pointAgainst 10 = .ok (.iload_n 1, 1) := by decide +kernel
theorem dX10_pointAgainst_11 : decode cX10_pointAgainst 11 = .ok (.laload, 1) := by decide +kernel
theorem dX10_pointAgainst_12 : decode cX10_pointAgainst 12 = .ok (.lload_n 2, 1) := by decide +kernel
theorem dX10_pointAgainst_13 : decode cX10_pointAgainst 13 = .ok (.lload 4, 2) := by decide +kernel
theorem dX10_pointAgainst_15 : decode cX10_pointAgainst 15 = .ok (.invokestatic 172, 3) := by decide +kernel
theorem dX10_pointAgainst_18 : decode cX10_pointAgainst 18 = .ok (.istore 10, 2) := by decide +kernel
theorem dX10_pointAgainst_20 : decode cX10_pointAgainst 20 = .ok (.iload 10, 2) := by decide +kernel
theorem dX10_pointAgainst_22 : decode cX10_pointAgainst 22 = .ok (.ifCond .eq 8, 3) := by decide +kernel
theorem dX10_pointAgainst_25 : decode cX10_pointAgainst 25 = .ok (.iload 10, 2) := by decide +kernel
theorem dX10_pointAgainst_27 : decode cX10_pointAgainst 27 = .ok (.goto 22, 3) := by decide +kernel
theorem dX10_pointAgainst_30 : decode cX10_pointAgainst 30 = .ok (.aload_n 0, 1) := by decide +kernel
theorem dX10_pointAgainst_31 : decode cX10_pointAgainst 31 = .ok (.getfield 29, 3) := by decide +kernel
theorem dX10_pointAgainst_34 : decode cX10_pointAgainst 34 = .ok (.iload_n 1, 1) := by decide +kernel
theorem dX10_pointAgainst_35 : decode cX10_pointAgainst 35 = .ok (.laload, 1) := by decide +kernel
theorem dX10_pointAgainst_36 : decode cX10_pointAgainst 36 = .ok (.aload_n 0, 1) := by decide +kernel
theorem dX10_pointAgainst_37 : decode cX10_pointAgainst 37 = .ok (.getfield 32, 3) := by decide +kernel
theorem dX10_pointAgainst_40 : decode cX10_pointAgainst 40 = .ok (.iload_n 1, 1) := by decide +kernel
theorem dX10_pointAgainst_41 : decode cX10_pointAgainst 41 = .ok (.laload, 1) := by decide +kernel
theorem dX10_pointAgainst_42 : decode cX10_pointAgainst 42 = .ok (.lload 6, 2) := by decide +kernel
theorem dX10_pointAgainst_44 : decode cX10_pointAgainst 44 = .ok (.lload 8, 2) := by decide +kernel
theorem dX10_pointAgainst_46 : decode cX10_pointAgainst 46 = .ok (.invokestatic 172, 3) := by decide +kernel
theorem dX10_pointAgainst_49 : decode cX10_pointAgainst 49 = .ok (.ireturn, 1) := by decide +kernel
theorem dX10_addPoint_0 : decode cX10_addPoint 0 = .ok (.lload_n 1, 1) := by decide +kernel
theorem dX10_addPoint_1 : decode cX10_addPoint 1 = .ok (.lload 5, 2) := by decide +kernel
theorem dX10_addPoint_3 : decode cX10_addPoint 3 = .ok (.iconst 0, 1) := by decide +kernel
theorem dX10_addPoint_4 : decode cX10_addPoint 4 = .ok (.invokestatic 168, 3) := by decide +kernel
theorem dX10_addPoint_7 : decode cX10_addPoint 7 = .ok (.lstore 7, 2) := by decide +kernel
theorem dX10_addPoint_9 : decode cX10_addPoint 9 = .ok (.lload_n 1, 1) := by decide +kernel
theorem dX10_addPoint_10 : decode cX10_addPoint 10 = .ok (.lload 5, 2) := by decide +kernel
theorem dX10_addPoint_12 : decode cX10_addPoint 12 = .ok (.iconst 1, 1) := by decide +kernel
theorem dX10_addPoint_13 : decode cX10_addPoint 13 = .ok (.invokestatic 168, 3) := by decide +kernel
theorem dX10_addPoint_16 : decode cX10_addPoint 16 = .ok (.lstore 9, 2) := by decide +kernel
theorem dX10_addPoint_18 : decode cX10_addPoint 18 = .ok (.lload_n 3, 1) := by decide +kernel
theorem dX10_addPoint_19 : decode cX10_addPoint 19 = .ok (.lload 5, 2) := by decide +kernel
theorem dX10_addPoint_21 : decode cX10_addPoint 21 = .ok (.iconst 0, 1) := by decide +kernel
theorem dX10_addPoint_22 : decode cX10_addPoint 22 = .ok (.invokestatic 168, 3) := by decide +kernel
theorem dX10_addPoint_25 : decode cX10_addPoint 25 = .ok (.lstore 11, 2) := by decide +kernel
theorem dX10_addPoint_27 : decode cX10_addPoint 27 = .ok (.lload_n 3, 1) := by decide +kernel
theorem dX10_addPoint_28 : decode cX10_addPoint 28 = .ok (.lload 5, 2) := by decide +kernel
theorem dX10_addPoint_30 : decode cX10_addPoint 30 = .ok (.iconst 1, 1) := by decide +kernel
theorem dX10_addPoint_31 : decode cX10_addPoint 31 = .ok (.invokestatic 168, 3) := by decide +kernel
theorem dX10_addPoint_34 : decode cX10_addPoint 34 = .ok (.lstore 13, 2) := by decide +kernel
theorem dX10_addPoint_36 : decode cX10_addPoint 36 = .ok (.iconst 0, 1) := by decide +kernel
theorem dX10_addPoint_37 : decode cX10_addPoint 37 = .ok (.istore 15, 2) := by decide +kernel
theorem dX10_addPoint_39 : decode cX10_addPoint 39 = .ok (.iload 15, 2) := by decide +kernel
theorem dX10_addPoint_41 : decode cX10_addPoint 41 = .ok (.aload_n 0, 1) := by decide +kernel
theorem dX10_addPoint_42 : decode cX10_addPoint 42 = .ok (.getfield 176, 3) := by decide +kernel
theorem dX10_addPoint_45 : decode cX10_addPoint 45 = .ok (.if_icmp .ge 26, 3) := by decide +kernel
theorem dX10_addPoint_48 : decode cX10_addPoint 48 = .ok (.aload_n 0, 1) := by decide +kernel
theorem dX10_addPoint_49 : decode cX10_addPoint 49 = .ok (.iload 15, 2) := by decide +kernel
theorem dX10_addPoint_51 : decode cX10_addPoint 51 = .ok (.lload 7, 2) := by decide +kernel
theorem dX10_addPoint_53 : decode cX10_addPoint 53 = .ok (.lload 9, 2) := by decide +kernel
theorem dX10_addPoint_55 : decode cX10_addPoint 55 = .ok (.lload 11, 2) := by decide +kernel
theorem dX10_addPoint_57 : decode cX10_addPoint 57 = .ok (.lload 13, 2) := by decide +kernel
theorem dX10_addPoint_59 : decode cX10_addPoint 59 = .ok (.invokevirtual 179, 3) := by decide +kernel
theorem dX10_addPoint_62 : decode cX10_addPoint 62 = .ok (.ifCond .ge 9, 3) := by decide +kernel
theorem dX10_addPoint_65 : decode cX10_addPoint 65 = .ok (.iinc 15 1, 3) := by decide +kernel
theorem dX10_addPoint_68 : decode cX10_addPoint 68 = .ok (.goto (-29), 3) := by decide +kernel
theorem dX10_addPoint_71 : decode cX10_addPoint 71 = .ok (.iload 15, 2) := by decide +kernel
theorem dX10_addPoint_73 : decode cX10_addPoint 73 = .ok (.aload_n 0, 1) := by decide +kernel
theorem dX10_addPoint_74 : decode cX10_addPoint 74 = .ok (.getfield 176, 3) := by decide +kernel
theorem dX10_addPoint_77 : decode cX10_addPoint 77 = .ok (.if_icmp .ge 21, 3) := by decide +kernel
theorem dX10_addPoint_80 : decode cX10_addPoint 80 = .ok (.aload_n 0, 1) := by decide +kernel
theorem dX10_addPoint_81 : decode cX10_addPoint 81 = .ok (.iload 15, 2) := by decide +kernel
theorem dX10_addPoint_83 : decode cX10_addPoint 83 = .ok (.lload 7, 2) := by decide +kernel
theorem dX10_addPoint_85 : decode cX10_addPoint 85 = .ok (.lload 9, 2) := by decide +kernel
theorem dX10_addPoint_87 : decode cX10_addPoint 87 = .ok (.lload 11, 2) := by decide +kernel
theorem dX10_addPoint_89 : decode cX10_addPoint 89 = .ok (.lload 13, 2) := by decide +kernel
theorem dX10_addPoint_91 : decode cX10_addPoint 91 = .ok (.invokevirtual 179, 3) := by decide +kernel
theorem dX10_addPoint_94 : decode cX10_addPoint 94 = .ok (.ifCond .ne 4, 3) := by decide +kernel
theorem dX10_addPoint_97 : decode cX10_addPoint 97 = .ok (.return_, 1) := by decide +kernel
theorem dX10_addPoint_98 : decode cX10_addPoint 98 = .ok (.aload_n 0, 1) := by decide +kernel
theorem dX10_addPoint_99 : decode cX10_addPoint 99 = .ok (.getfield 176, 3) := by decide +kernel
theorem dX10_addPoint_102 : decode cX10_addPoint 102 = .ok (.istore 16, 2) := by decide +kernel
theorem dX10_addPoint_104 : decode cX10_addPoint 104 = .ok (.iload 16, 2) := by decide +kernel
theorem dX10_addPoint_106 : decode cX10_addPoint 106 = .ok (.iload 15, 2) := by decide +kernel
theorem dX10_addPoint_108 : decode cX10_addPoint 108 = .ok (.if_icmp .le 73, 3) := by decide +kernel
theorem dX10_addPoint_111 : decode cX10_addPoint 111 = .ok (.aload_n 0, 1) := by decide +kernel
theorem dX10_addPoint_112 : decode cX10_addPoint 112 = .ok (.getfield 22, 3) := by decide +kernel
theorem dX10_addPoint_115 : decode cX10_addPoint 115 = .ok (.iload 16, 2) := by decide +kernel
theorem dX10_addPoint_117 : decode cX10_addPoint 117 = .ok (.aload_n 0, 1) := by decide +kernel
theorem dX10_addPoint_118 : decode cX10_addPoint 118 = .ok (.getfield 22, 3) := by decide +kernel
theorem dX10_addPoint_121 : decode cX10_addPoint 121 = .ok (.iload 16, 2) := by decide +kernel
theorem dX10_addPoint_123 : decode cX10_addPoint 123 = .ok (.iconst 1, 1) := by decide +kernel
theorem dX10_addPoint_124 : decode cX10_addPoint 124 = .ok (.isub, 1) := by decide +kernel
theorem dX10_addPoint_125 : decode cX10_addPoint 125 = .ok (.laload, 1) := by decide +kernel
theorem dX10_addPoint_126 : decode cX10_addPoint 126 = .ok (.lastore, 1) := by decide +kernel
theorem dX10_addPoint_127 : decode cX10_addPoint 127 = .ok (.aload_n 0, 1) := by decide +kernel
theorem dX10_addPoint_128 : decode cX10_addPoint 128 = .ok (.getfield 26, 3) := by decide +kernel
theorem dX10_addPoint_131 : decode cX10_addPoint 131 = .ok (.iload 16, 2) := by decide +kernel
theorem dX10_addPoint_133 : decode cX10_addPoint 133 = .ok (.aload_n 0, 1) := by decide +kernel
theorem dX10_addPoint_134 : decode cX10_addPoint 134 = .ok (.getfield 26, 3) := by decide +kernel
theorem dX10_addPoint_137 : decode cX10_addPoint 137 = .ok (.iload 16, 2) := by decide +kernel
theorem dX10_addPoint_139 : decode cX10_addPoint 139 = .ok (.iconst 1, 1) := by decide +kernel
theorem dX10_addPoint_140 : decode cX10_addPoint 140 = .ok (.isub, 1) := by decide +kernel
theorem dX10_addPoint_141 : decode cX10_addPoint 141 = .ok (.laload, 1) := by decide +kernel
theorem dX10_addPoint_142 : decode cX10_addPoint 142 = .ok (.lastore, 1) := by decide +kernel
theorem dX10_addPoint_143 : decode cX10_addPoint 143 = .ok (.aload_n 0, 1) := by decide +kernel
theorem dX10_addPoint_144 : decode cX10_addPoint 144 = .ok (.getfield 29, 3) := by decide +kernel
theorem dX10_addPoint_147 : decode cX10_addPoint 147 = .ok (.iload 16, 2) := by decide +kernel
theorem dX10_addPoint_149 : decode cX10_addPoint 149 = .ok (.aload_n 0, 1) := by decide +kernel
theorem dX10_addPoint_150 : decode cX10_addPoint 150 = .ok (.getfield 29, 3) := by decide +kernel
theorem dX10_addPoint_153 : decode cX10_addPoint 153 = .ok (.iload 16, 2) := by decide +kernel
theorem dX10_addPoint_155 : decode cX10_addPoint 155 = .ok (.iconst 1, 1) := by decide +kernel
theorem dX10_addPoint_156 : decode cX10_addPoint 156 = .ok (.isub, 1) := by decide +kernel
theorem dX10_addPoint_157 : decode cX10_addPoint 157 = .ok (.laload, 1) := by decide +kernel
theorem dX10_addPoint_158 : decode cX10_addPoint 158 = .ok (.lastore, 1) := by decide +kernel
theorem dX10_addPoint_159 : decode cX10_addPoint 159 = .ok (.aload_n 0, 1) := by decide +kernel
theorem dX10_addPoint_160 : decode cX10_addPoint 160 = .ok (.getfield 32, 3) := by decide +kernel
theorem dX10_addPoint_163 : decode cX10_addPoint 163 = .ok (.iload 16, 2) := by decide +kernel
theorem dX10_addPoint_165 : decode cX10_addPoint 165 = .ok (.aload_n 0, 1) := by decide +kernel
theorem dX10_addPoint_166 : decode cX10_addPoint 166 = .ok (.getfield 32, 3) := by decide +kernel
theorem dX10_addPoint_169 : decode cX10_addPoint 169 = .ok (.iload 16, 2) := by decide +kernel
theorem dX10_addPoint_171 : decode cX10_addPoint 171 = .ok (.iconst 1, 1) := by decide +kernel
theorem dX10_addPoint_172 : decode cX10_addPoint 172 = .ok (.isub, 1) := by decide +kernel
theorem dX10_addPoint_173 : decode cX10_addPoint 173 = .ok (.laload, 1) := by decide +kernel
theorem dX10_addPoint_174 : decode cX10_addPoint 174 = .ok (.lastore, 1) := by decide +kernel
theorem dX10_addPoint_175 : decode cX10_addPoint 175 = .ok (.iinc 16 (-1), 3) := by decide +kernel
theorem dX10_addPoint_178 : decode cX10_addPoint 178 = .ok (.goto (-74), 3) := by decide +kernel
theorem dX10_addPoint_181 : decode cX10_addPoint 181 = .ok (.aload_n 0, 1) := by decide +kernel
theorem dX10_addPoint_182 : decode cX10_addPoint 182 = .ok (.getfield 22, 3) := by decide +kernel
theorem dX10_addPoint_185 : decode cX10_addPoint 185 = .ok (.iload 15, 2) := by decide +kernel
theorem dX10_addPoint_187 : decode cX10_addPoint 187 = .ok (.lload 7, 2) := by decide +kernel
theorem dX10_addPoint_189 : decode cX10_addPoint 189 = .ok (.lastore, 1) := by decide +kernel
theorem dX10_addPoint_190 : decode cX10_addPoint 190 = .ok (.aload_n 0, 1) := by decide +kernel
theorem dX10_addPoint_191 : decode cX10_addPoint 191 = .ok (.getfield 26, 3) := by decide +kernel
theorem dX10_addPoint_194 : decode cX10_addPoint 194 = .ok (.iload 15, 2) := by decide +kernel
theorem dX10_addPoint_196 : decode cX10_addPoint 196 = .ok (.lload 9, 2) := by decide +kernel
theorem dX10_addPoint_198 : decode cX10_addPoint 198 = .ok (.lastore, 1) := by decide +kernel
theorem dX10_addPoint_199 : decode cX10_addPoint 199 = .ok (.aload_n 0, 1) := by decide +kernel
theorem dX10_addPoint_200 : decode cX10_addPoint 200 = .ok (.getfield 29, 3) := by decide +kernel
theorem dX10_addPoint_203 : decode cX10_addPoint 203 = .ok (.iload 15, 2) := by decide +kernel
theorem dX10_addPoint_205 : decode cX10_addPoint 205 = .ok (.lload 11, 2) := by decide +kernel
theorem dX10_addPoint_207 : decode cX10_addPoint 207 = .ok (.lastore, 1) := by decide +kernel
theorem dX10_addPoint_208 : decode cX10_addPoint 208 = .ok (.aload_n 0, 1) := by decide +kernel
theorem dX10_addPoint_209 : decode cX10_addPoint 209 = .ok (.getfield 32, 3) := by decide +kernel
theorem dX10_addPoint_212 : decode cX10_addPoint 212 = .ok (.iload 15, 2) := by decide +kernel
theorem dX10_addPoint_214 : decode cX10_addPoint 214 = .ok (.lload 13, 2) := by decide +kernel
theorem dX10_addPoint_216 : decode cX10_addPoint 216 = .ok (.lastore, 1) := by decide +kernel
theorem dX10_addPoint_217 : decode cX10_addPoint 217 = .ok (.aload_n 0, 1) := by decide +kernel
theorem dX10_addPoint_218 : decode cX10_addPoint 218 = .ok (.dup, 1) := by decide +kernel
theorem dX10_addPoint_219 : decode cX10_addPoint 219 = .ok (.getfield 176, 3) := by decide +kernel
theorem dX10_addPoint_222 : decode cX10_addPoint 222 = .ok (.iconst 1, 1) := by decide +kernel
theorem dX10_addPoint_223 : decode cX10_addPoint 223 = .ok (.iadd, 1) := by decide +kernel
theorem dX10_addPoint_224 : decode cX10_addPoint 224 = .ok (.putfield 176, 3) := by decide +kernel
theorem dX10_addPoint_227 : decode cX10_addPoint 227 = .ok (.return_, 1) := by decide +kernel
theorem dX10_tellPoints_0 : decode cX10_tellPoints 0 = .ok (.aload_n 0, 1) := by decide +kernel
theorem dX10_tellPoints_1 : decode cX10_tellPoints 1 = .ok (.iconst 0, 1) := by decide +kernel
theorem dX10_tellPoints_2 : decode cX10_tellPoints 2 = .ok (.putfield 176, 3) := by decide +kernel
theorem dX10_tellPoints_5 : decode cX10_tellPoints 5 = .ok (.iconst 0, 1) := by decide +kernel
theorem dX10_tellPoints_6 : decode cX10_tellPoints 6 = .ok (.istore_n 1, 1) := by decide +kernel
theorem dX10_tellPoints_7 : decode cX10_tellPoints 7 = .ok (.iload_n 1, 1) := by decide +kernel
theorem dX10_tellPoints_8 : decode cX10_tellPoints 8 = .ok (.aload_n 0, 1) := by decide +kernel
theorem dX10_tellPoints_9 : decode cX10_tellPoints 9 = .ok (.getfield 109, 3) := by decide +kernel
theorem dX10_tellPoints_12 : decode cX10_tellPoints 12 = .ok (.if_icmp .ge 98, 3) := by decide +kernel
theorem dX10_tellPoints_15 : decode cX10_tellPoints 15 = .ok (.aload_n 0, 1) := by decide +kernel
theorem dX10_tellPoints_16 : decode cX10_tellPoints 16 = .ok (.aload_n 0, 1) := by decide +kernel
theorem dX10_tellPoints_17 : decode cX10_tellPoints 17 = .ok (.getfield 9, 3) := by decide +kernel
theorem dX10_tellPoints_20 : decode cX10_tellPoints 20 = .ok (.iload_n 1, 1) := by decide +kernel
theorem dX10_tellPoints_21 : decode cX10_tellPoints 21 = .ok (.iaload, 1) := by decide +kernel
theorem dX10_tellPoints_22 : decode cX10_tellPoints 22 = .ok (.i2l, 1) := by decide +kernel
theorem dX10_tellPoints_23 : decode cX10_tellPoints 23 = .ok (.aload_n 0, 1) := by decide +kernel
theorem dX10_tellPoints_24 : decode cX10_tellPoints 24 = .ok (.getfield 13, 3) := by decide +kernel
theorem dX10_tellPoints_27 : decode cX10_tellPoints 27 = .ok (.iload_n 1, 1) := by decide +kernel
theorem dX10_tellPoints_28 : decode cX10_tellPoints 28 = .ok (.iaload, 1) := by decide +kernel
theorem dX10_tellPoints_29 : decode cX10_tellPoints 29 = .ok (.i2l, 1) := by decide +kernel
theorem dX10_tellPoints_30 : decode cX10_tellPoints 30 = .ok (.lconst 1, 1) := by decide +kernel
theorem dX10_tellPoints_31 : decode cX10_tellPoints 31 = .ok (.invokevirtual 183, 3) := by decide +kernel
theorem dX10_tellPoints_34 : decode cX10_tellPoints 34 = .ok (.aload_n 0, 1) := by decide +kernel
theorem dX10_tellPoints_35 : decode cX10_tellPoints 35 = .ok (.aload_n 0, 1) := by decide +kernel
theorem dX10_tellPoints_36 : decode cX10_tellPoints 36 = .ok (.getfield 16, 3) := by decide +kernel
theorem dX10_tellPoints_39 : decode cX10_tellPoints 39 = .ok (.iload_n 1, 1) := by decide +kernel
theorem dX10_tellPoints_40 : decode cX10_tellPoints 40 = .ok (.iaload, 1) := by decide +kernel
theorem dX10_tellPoints_41 : decode cX10_tellPoints 41 = .ok (.i2l, 1) := by decide +kernel
theorem dX10_tellPoints_42 : decode cX10_tellPoints 42 = .ok (.aload_n 0, 1) := by decide +kernel
theorem dX10_tellPoints_43 : decode cX10_tellPoints 43 = .ok (.getfield 19, 3) := by decide +kernel
theorem dX10_tellPoints_46 : decode cX10_tellPoints 46 = .ok (.iload_n 1, 1) := by decide +kernel
theorem dX10_tellPoints_47 : decode cX10_tellPoints 47 = .ok (.iaload, 1) := by decide +kernel
theorem dX10_tellPoints_48 : decode cX10_tellPoints 48 = .ok (.i2l, 1) := by decide +kernel
theorem dX10_tellPoints_49 : decode cX10_tellPoints 49 = .ok (.lconst 1, 1) := by decide +kernel
theorem dX10_tellPoints_50 : decode cX10_tellPoints 50 = .ok (.invokevirtual 183, 3) := by decide +kernel
theorem dX10_tellPoints_53 : decode cX10_tellPoints 53 = .ok (.iconst 0, 1) := by decide +kernel
theorem dX10_tellPoints_54 : decode cX10_tellPoints 54 = .ok (.istore_n 2, 1) := by decide +kernel
theorem dX10_tellPoints_55 : decode cX10_tellPoints 55 = .ok (.iload_n 2, 1) := by decide +kernel
theorem dX10_tellPoints_56 : decode cX10_tellPoints 56 = .ok (.iload_n 1, 1) := by decide +kernel
theorem dX10_tellPoints_57 : decode cX10_tellPoints 57 = .ok (.if_icmp .ge 47, 3) := by decide +kernel
theorem dX10_tellPoints_60 : decode cX10_tellPoints 60 = .ok (.aload_n 0, 1) := by decide +kernel
theorem dX10_tellPoints_61 : decode cX10_tellPoints 61 = .ok (.iload_n 1, 1) := by decide +kernel
theorem dX10_tellPoints_62 : decode cX10_tellPoints 62 = .ok (.iload_n 2, 1) := by decide +kernel
theorem dX10_tellPoints_63 : decode cX10_tellPoints 63 = .ok (.invokevirtual 165, 3) := by decide +kernel
theorem dX10_tellPoints_66 : decode cX10_tellPoints 66 = .ok (.aload_n 0, 1) := by decide +kernel
theorem dX10_tellPoints_67 : decode cX10_tellPoints 67 = .ok (.getfield 140, 3) := by decide +kernel
theorem dX10_tellPoints_70 : decode cX10_tellPoints 70 = .ok (.iconst 1, 1) := by decide +kernel
theorem dX10_tellPoints_71 : decode cX10_tellPoints 71 = .ok (.if_icmp .eq 11, 3) := by decide +kernel
theorem dX10_tellPoints_74 : decode cX10_tellPoints 74 = .ok (.aload_n 0, 1) := by decide +kernel
theorem dX10_tellPoints_75 : decode cX10_tellPoints 75 = .ok (.getfield 140, 3) := by decide +kernel
theorem dX10_tellPoints_78 : decode cX10_tellPoints 78 = .ok (.iconst 2, 1) := by decide +kernel
theorem dX10_tellPoints_79 : decode cX10_tellPoints 79 = .ok (.if_icmp .ne 19, 3) := by decide +kernel
theorem dX10_tellPoints_82 : decode cX10_tellPoints 82 = .ok (.aload_n 0, 1) := by decide +kernel
theorem dX10_tellPoints_83 : decode cX10_tellPoints 83 = .ok (.aload_n 0, 1) := by decide +kernel
theorem dX10_tellPoints_84 : decode cX10_tellPoints 84 = .ok (.getfield 143, 3) := by decide +kernel
theorem dX10_tellPoints_87 : decode cX10_tellPoints 87 = .ok (.aload_n 0, 1) := by decide +kernel
theorem dX10_tellPoints_88 : decode cX10_tellPoints 88 = .ok (.getfield 147, 3) := by decide +kernel
theorem dX10_tellPoints_91 : decode cX10_tellPoints 91 = .ok (.aload_n 0, 1) := by decide +kernel
theorem dX10_tellPoints_92 : decode cX10_tellPoints 92 = .ok (.getfield 150, 3) := by decide +kernel
theorem dX10_tellPoints_95 : decode cX10_tellPoints 95 = .ok (.invokevirtual 183, 3) := by decide +kernel
theorem dX10_tellPoints_98 : decode cX10_tellPoints 98 = .ok (.iinc 2 1, 3) := by decide +kernel
theorem dX10_tellPoints_101 : decode cX10_tellPoints 101 = .ok (.goto (-46), 3) := by decide +kernel
theorem dX10_tellPoints_104 : decode cX10_tellPoints 104 = .ok (.iinc 1 1, 3) := by decide +kernel
theorem dX10_tellPoints_107 : decode cX10_tellPoints 107 = .ok (.goto (-100), 3) := by decide +kernel
theorem dX10_tellPoints_110 : decode cX10_tellPoints 110 = .ok (.return_, 1) := by decide +kernel
theorem dX10_isOn_0 : decode cX10_isOn 0 = .ok (.aload_n 0, 1) := by decide +kernel
theorem dX10_isOn_1 : decode cX10_isOn 1 = .ok (.getfield 16, 3) := by decide +kernel
theorem dX10_isOn_4 : decode cX10_isOn 4 = .ok (.iload_n 1, 1) := by decide +kernel
theorem dX10_isOn_5 : decode cX10_isOn 5 = .ok (.iaload, 1) := by decide +kernel
theorem dX10_isOn_6 : decode cX10_isOn 6 = .ok (.aload_n 0, 1) := by decide +kernel
theorem dX10_isOn_7 : decode cX10_isOn 7 = .ok (.getfield 9, 3) := by decide +kernel
theorem dX10_isOn_10 : decode cX10_isOn 10 = .ok (.iload_n 1, 1) := by decide +kernel
theorem dX10_isOn_11 : decode cX10_isOn 11 = .ok (.iaload, 1) := by decide +kernel
theorem dX10_isOn_12 : decode cX10_isOn 12 = .ok (.isub, 1) := by decide +kernel
theorem dX10_isOn_13 : decode cX10_isOn 13 = .ok (.istore 10, 2) := by decide +kernel
theorem dX10_isOn_15 : decode cX10_isOn 15 = .ok (.aload_n 0, 1) := by decide +kernel
theorem dX10_isOn_16 : decode cX10_isOn 16 = .ok (.getfield 19, 3) := by decide +kernel
theorem dX10_isOn_19 : decode cX10_isOn 19 = .ok (.iload_n 1, 1) := by decide +kernel
theorem dX10_isOn_20 : decode cX10_isOn 20 = .ok (.iaload, 1) := by decide +kernel
theorem dX10_isOn_21 : decode cX10_isOn 21 = .ok (.aload_n 0, 1) := by decide +kernel
theorem dX10_isOn_22 : decode cX10_isOn 22 = .ok (.getfield 13, 3) := by decide +kernel
theorem dX10_isOn_25 : decode cX10_isOn 25 = .ok (.iload_n 1, 1) := by decide +kernel
theorem dX10_isOn_26 : decode cX10_isOn 26 = .ok (.iaload, 1) := by decide +kernel
theorem dX10_isOn_27 : decode cX10_isOn 27 = .ok (.isub, 1) := by decide +kernel
theorem dX10_isOn_28 : decode cX10_isOn 28 = .ok (.istore 11, 2) := by decide +kernel
theorem dX10_isOn_30 : decode cX10_isOn 30 = .ok (.lload_n 2, 1) := by decide +kernel
theorem dX10_isOn_31 : decode cX10_isOn 31 = .ok (.aload_n 0, 1) := by decide +kernel
theorem dX10_isOn_32 : decode cX10_isOn 32 = .ok (.getfield 9, 3) := by decide +kernel
theorem dX10_isOn_35 : decode cX10_isOn 35 = .ok (.iload_n 1, 1) := by decide +kernel
theorem dX10_isOn_36 : decode cX10_isOn 36 = .ok (.iaload, 1) := by decide +kernel
theorem dX10_isOn_37 : decode cX10_isOn 37 = .ok (.i2l, 1) := by decide +kernel
theorem dX10_isOn_38 : decode cX10_isOn 38 = .ok (.lload 4, 2) := by decide +kernel
theorem dX10_isOn_40 : decode cX10_isOn 40 = .ok (.lmul, 1) := by decide +kernel
theorem dX10_isOn_41 : decode cX10_isOn 41 = .ok (.lsub, 1) := by decide +kernel
theorem dX10_isOn_42 : decode cX10_isOn 42 = .ok (.iload 11, 2) := by decide +kernel
theorem dX10_isOn_44 : decode cX10_isOn 44 = .ok (.i2l, 1) := by decide +kernel
theorem dX10_isOn_45 : decode cX10_isOn 45 = .ok (.lmul, 1) := by decide +kernel
theorem dX10_isOn_46 : decode cX10_isOn 46 = .ok (.lload 8, 2) := by decide +kernel
theorem dX10_isOn_48 : decode cX10_isOn 48 = .ok (.lmul, 1) := by decide +kernel
theorem dX10_isOn_49 : decode cX10_isOn 49 = .ok (.lload 6, 2) := by decide +kernel
theorem dX10_isOn_51 : decode cX10_isOn 51 = .ok (.aload_n 0, 1) := by decide +kernel
theorem dX10_isOn_52 : decode cX10_isOn 52 = .ok (.getfield 13, 3) := by decide +kernel
theorem dX10_isOn_55 : decode cX10_isOn 55 = .ok (.iload_n 1, 1) := by decide +kernel
theorem dX10_isOn_56 : decode cX10_isOn 56 = .ok (.iaload, 1) := by decide +kernel
theorem dX10_isOn_57 : decode cX10_isOn 57 = .ok (.i2l, 1) := by decide +kernel
theorem dX10_isOn_58 : decode cX10_isOn 58 = .ok (.lload 8, 2) := by decide +kernel
theorem dX10_isOn_60 : decode cX10_isOn 60 = .ok (.lmul, 1) := by decide +kernel
theorem dX10_isOn_61 : decode cX10_isOn 61 = .ok (.lsub, 1) := by decide +kernel
theorem dX10_isOn_62 : decode cX10_isOn 62 = .ok (.iload 10, 2) := by decide +kernel
theorem dX10_isOn_64 : decode cX10_isOn 64 = .ok (.i2l, 1) := by decide +kernel
theorem dX10_isOn_65 : decode cX10_isOn 65 = .ok (.lmul, 1) := by decide +kernel
theorem dX10_isOn_66 : decode cX10_isOn 66 = .ok (.lload 4, 2) := by decide +kernel
theorem dX10_isOn_68 : decode cX10_isOn 68 = .ok (.lmul, 1) := by decide +kernel
theorem dX10_isOn_69 : decode cX10_isOn 69 = .ok (.lcmp, 1) := by decide +kernel
theorem dX10_isOn_70 : decode cX10_isOn 70 = .ok (.ifCond .eq 5, 3) := by decide +kernel
theorem dX10_isOn_73 : decode cX10_isOn 73 = .ok (.iconst 0, 1) := by decide +kernel
theorem dX10_isOn_74 : decode cX10_isOn 74 = .ok (.ireturn, 1) := by decide +kernel
theorem dX10_isOn_75 : decode cX10_isOn 75 = .ok (.aload_n 0, 1) := by decide +kernel
theorem dX10_isOn_76 : decode cX10_isOn 76 = .ok (.getfield 13, 3) := by decide +kernel
theorem dX10_isOn_79 : decode cX10_isOn 79 = .ok (.iload_n 1, 1) := by decide +kernel
theorem dX10_isOn_80 : decode cX10_isOn 80 = .ok (.iaload, 1) := by decide +kernel
theorem dX10_isOn_81 : decode cX10_isOn 81 = .ok (.aload_n 0, 1) := by decide +kernel
theorem dX10_isOn_82 : decode cX10_isOn 82 = .ok (.getfield 19, 3) := by decide +kernel
theorem dX10_isOn_85 : decode cX10_isOn 85 = .ok (.iload_n 1, 1) := by decide +kernel
theorem dX10_isOn_86 : decode cX10_isOn 86 = .ok (.iaload, 1) := by decide +kernel
theorem dX10_isOn_87 : decode cX10_isOn 87 = .ok (.invokestatic 187, 3) := by decide +kernel
theorem dX10_isOn_90 : decode cX10_isOn 90 = .ok (.istore 12, 2) := by decide +kernel
theorem dX10_isOn_92 : decode cX10_isOn 92 = .ok (.aload_n 0, 1) := by decide +kernel
theorem dX10_isOn_93 : decode cX10_isOn 93 = .ok (.getfield 13, 3) := by decide +kernel
theorem dX10_isOn_96 : decode cX10_isOn 96 = .ok (.iload_n 1, 1) := by decide +kernel
theorem dX10_isOn_97 : decode cX10_isOn 97 = .ok (.iaload, 1) := by decide +kernel
theorem dX10_isOn_98 : decode cX10_isOn 98 = .ok (.aload_n 0, 1) := by decide +kernel
theorem dX10_isOn_99 : decode cX10_isOn 99 = .ok (.getfield 19, 3) := by decide +kernel
theorem dX10_isOn_102 : decode cX10_isOn 102 = .ok (.iload_n 1, 1) := by decide +kernel
theorem dX10_isOn_103 : decode cX10_isOn 103 = .ok (.iaload, 1) := by decide +kernel
theorem dX10_isOn_104 : decode cX10_isOn 104 = .ok (.invokestatic 193, 3) := by decide +kernel
theorem dX10_isOn_107 : decode cX10_isOn 107 = .ok (.istore 13, 2) := by decide +kernel
theorem dX10_isOn_109 : decode cX10_isOn 109 = .ok (.lload_n 2, 1) := by decide +kernel
theorem dX10_isOn_110 : decode cX10_isOn 110 = .ok (.aload_n 0, 1) := by decide +kernel
theorem dX10_isOn_111 : decode cX10_isOn 111 = .ok (.getfield 9, 3) := by decide +kernel
theorem dX10_isOn_114 : decode cX10_isOn 114 = .ok (.iload_n 1, 1) := by decide +kernel
theorem dX10_isOn_115 : decode cX10_isOn 115 = .ok (.iaload, 1) := by decide +kernel
theorem dX10_isOn_116 : decode cX10_isOn 116 = .ok (.i2l, 1) := by decide +kernel
theorem dX10_isOn_117 : decode cX10_isOn 117 = .ok (.lload 4, 2) := by decide +kernel
theorem dX10_isOn_119 : decode cX10_isOn 119 = .ok (.lmul, 1) := by decide +kernel
theorem dX10_isOn_120 : decode cX10_isOn 120 = .ok (.lcmp, 1) := by decide +kernel
theorem dX10_isOn_121 : decode cX10_isOn 121 = .ok (.ifCond .lt 46, 3) := by decide +kernel
theorem dX10_isOn_124 : decode cX10_isOn 124 = .ok (.lload_n 2, 1) := by decide +kernel
theorem dX10_isOn_125 : decode cX10_isOn 125 = .ok (.aload_n 0, 1) := by decide +kernel
theorem dX10_isOn_126 : decode cX10_isOn 126 = .ok (.getfield 16, 3) := by decide +kernel
theorem dX10_isOn_129 : decode cX10_isOn 129 = .ok (.iload_n 1, 1) := by decide +kernel
theorem dX10_isOn_130 : decode cX10_isOn 130 = .ok (.iaload, 1) := by decide +kernel
theorem dX10_isOn_131 : decode cX10_isOn 131 = .ok (.i2l, 1) := by decide +kernel
theorem dX10_isOn_132 : decode cX10_isOn 132 = .ok (.lload 4, 2) := by decide +kernel
theorem dX10_isOn_134 : decode cX10_isOn 134 = .ok (.lmul, 1) := by decide +kernel
theorem dX10_isOn_135 : decode cX10_isOn 135 = .ok (.lcmp, 1) := by decide +kernel
theorem dX10_isOn_136 : decode cX10_isOn 136 = .ok (.ifCond .gt 31, 3) := by decide +kernel
theorem dX10_isOn_139 : decode cX10_isOn 139 = .ok (.lload 6, 2) := by decide +kernel
theorem dX10_isOn_141 : decode cX10_isOn 141 = .ok (.iload 12, 2) := by decide +kernel
theorem dX10_isOn_143 : decode cX10_isOn 143 = .ok (.i2l, 1) := by decide +kernel
theorem dX10_isOn_144 : decode cX10_isOn 144 = .ok (.lload 8, 2) := by decide +kernel
theorem dX10_isOn_146 : decode cX10_isOn 146 = .ok (.lmul, 1) := by decide +kernel
theorem dX10_isOn_147 : decode cX10_isOn 147 = .ok (.lcmp, 1) := by decide +kernel
theorem dX10_isOn_148 : decode cX10_isOn 148 = .ok (.ifCond .lt 19, 3) := by decide +kernel
theorem dX10_isOn_151 : decode cX10_isOn 151 = .ok (.lload 6, 2) := by decide +kernel
theorem dX10_isOn_153 : decode cX10_isOn 153 = .ok (.iload 13, 2) := by decide +kernel
theorem dX10_isOn_155 : decode cX10_isOn 155 = .ok (.i2l, 1) := by decide +kernel
theorem dX10_isOn_156 : decode cX10_isOn 156 = .ok (.lload 8, 2) := by decide +kernel
theorem dX10_isOn_158 : decode cX10_isOn 158 = .ok (.lmul, 1) := by decide +kernel
theorem dX10_isOn_159 : decode cX10_isOn 159 = .ok (.lcmp, 1) := by decide +kernel
theorem dX10_isOn_160 : decode cX10_isOn 160 = .ok (.ifCond .gt 7, 3) := by decide +kernel
theorem dX10_isOn_163 : decode cX10_isOn 163 = .ok (.iconst 1, 1) := by decide +kernel
theorem dX10_isOn_164 : decode cX10_isOn 164 = .ok (.goto 4, 3) := by decide +kernel
theorem dX10_isOn_167 : decode cX10_isOn 167 = .ok (.iconst 0, 1) := by decide +kernel
theorem dX10_isOn_168 : decode cX10_isOn 168 = .ok (.ireturn, 1) := by decide +kernel
theorem dX10_linesOn_0 : decode cX10_linesOn 0 = .ok (.iconst 0, 1) := by decide +kernel
theorem dX10_linesOn_1 : decode cX10_linesOn 1 = .ok (.istore 9, 2) := by decide +kernel
theorem dX10_linesOn_3 : decode cX10_linesOn 3 = .ok (.iconst 0, 1) := by decide +kernel
theorem dX10_linesOn_4 : decode cX10_linesOn 4 = .ok (.istore 10, 2) := by decide +kernel
theorem dX10_linesOn_6 : decode cX10_linesOn 6 = .ok (.iload 10, 2) := by decide +kernel
theorem dX10_linesOn_8 : decode cX10_linesOn 8 = .ok (.aload_n 0, 1) := by decide +kernel
theorem dX10_linesOn_9 : decode cX10_linesOn 9 = .ok (.getfield 109, 3) := by decide +kernel
theorem dX10_linesOn_12 : decode cX10_linesOn 12 = .ok (.if_icmp .ge 33, 3) := by decide +kernel
theorem dX10_linesOn_15 : decode cX10_linesOn 15 = .ok (.aload_n 0, 1) := by decide +kernel
theorem dX10_linesOn_16 : decode cX10_linesOn 16 = .ok (.iload 10, 2) := by decide +kernel
theorem dX10_linesOn_18 : decode cX10_linesOn 18 = .ok (.lload_n 1, 1) := by decide +kernel
theorem dX10_linesOn_19 : decode cX10_linesOn 19 = .ok (.lload_n 3, 1) := by decide +kernel
theorem dX10_linesOn_20 : decode cX10_linesOn 20 = .ok (.lload 5, 2) := by decide +kernel
theorem dX10_linesOn_22 : decode cX10_linesOn 22 = .ok (.lload 7, 2) := by decide +kernel
theorem dX10_linesOn_24 : decode cX10_linesOn 24 = .ok (.invokevirtual 196, 3) := by decide +kernel
theorem dX10_linesOn_27 : decode cX10_linesOn 27 = .ok (.ifCond .eq 12, 3) := by decide +kernel
theorem dX10_linesOn_30 : decode cX10_linesOn 30 = .ok (.iload 9, 2) := by decide +kernel
theorem dX10_linesOn_32 : decode cX10_linesOn 32 = .ok (.iconst 1, 1) := by decide +kernel
theorem dX10_linesOn_33 : decode cX10_linesOn 33 = .ok (.iload 10, 2) := by decide +kernel
theorem dX10_linesOn_35 : decode cX10_linesOn 35 = .ok (.ishl, 1) := by decide +kernel
theorem dX10_linesOn_36 : decode cX10_linesOn 36 = .ok (.ior, 1) := by decide +kernel
theorem dX10_linesOn_37 : decode cX10_linesOn 37 = .ok (.istore 9, 2) := by decide +kernel
theorem dX10_linesOn_39 : decode cX10_linesOn 39 = .ok (.iinc 10 1, 3) := by decide +kernel
theorem dX10_linesOn_42 : decode cX10_linesOn 42 = .ok (.goto (-36), 3) := by decide +kernel
theorem dX10_linesOn_45 : decode cX10_linesOn 45 = .ok (.iload 9, 2) := by decide +kernel
theorem dX10_linesOn_47 : decode cX10_linesOn 47 = .ok (.ireturn, 1) := by decide +kernel
theorem dX10_linesAt_0 : decode cX10_linesAt 0 = .ok (.aload_n 0, 1) := by decide +kernel
theorem dX10_linesAt_1 : decode cX10_linesAt 1 = .ok (.aload_n 0, 1) := by decide +kernel
theorem dX10_linesAt_2 : decode cX10_linesAt 2 = .ok (.getfield 22, 3) := by decide +kernel
theorem dX10_linesAt_5 : decode cX10_linesAt 5 = .ok (.iload_n 1, 1) := by decide +kernel
theorem dX10_linesAt_6 : decode cX10_linesAt 6 = .ok (.laload, 1) := by decide +kernel
theorem dX10_linesAt_7 : decode cX10_linesAt 7 = .ok (.aload_n 0, 1) := by decide +kernel
theorem dX10_linesAt_8 : decode cX10_linesAt 8 = .ok (.getfield 26, 3) := by decide +kernel
theorem dX10_linesAt_11 : decode cX10_linesAt 11 = .ok (.iload_n 1, 1) := by decide +kernel
theorem dX10_linesAt_12 : decode cX10_linesAt 12 = .ok (.laload, 1) := by decide +kernel
theorem dX10_linesAt_13 : decode cX10_linesAt 13 = .ok (.aload_n 0, 1) := by decide +kernel
theorem dX10_linesAt_14 : decode cX10_linesAt 14 = .ok (.getfield 29, 3) := by decide +kernel
theorem dX10_linesAt_17 : decode cX10_linesAt 17 = .ok (.iload_n 1, 1) := by decide +kernel
theorem dX10_linesAt_18 : decode cX10_linesAt 18 = .ok (.laload, 1) := by decide +kernel
theorem dX10_linesAt_19 : decode cX10_linesAt 19 = .ok (.aload_n 0, 1) := by decide +kernel
theorem dX10_linesAt_20 : decode cX10_linesAt 20 = .ok (.getfield 32, 3) := by decide +kernel
theorem dX10_linesAt_23 : decode cX10_linesAt 23 = .ok (.iload_n 1, 1) := by decide +kernel
theorem dX10_linesAt_24 : decode cX10_linesAt 24 = .ok (.laload, 1) := by decide +kernel
theorem dX10_linesAt_25 : decode cX10_linesAt 25 = .ok (.invokevirtual 200, 3) := by decide +kernel
theorem dX10_linesAt_28 : decode cX10_linesAt 28 = .ok (.ireturn, 1) := by decide +kernel
theorem dX10_tellPieces_0 : decode cX10_tellPieces 0 = .ok (.iconst 0, 1) := by decide +kernel
theorem dX10_tellPieces_1 : decode cX10_tellPieces 1 = .ok (.istore_n 1, 1) := by decide +kernel
theorem dX10_tellPieces_2 : decode cX10_tellPieces 2 = .ok (.iconst 0, 1) := by decide +kernel
theorem dX10_tellPieces_3 : decode cX10_tellPieces 3 = .ok (.istore_n 2, 1) := by decide +kernel
theorem dX10_tellPieces_4 : decode cX10_tellPieces 4 = .ok (.iload_n 2, 1) := by decide +kernel
theorem dX10_tellPieces_5 : decode cX10_tellPieces 5 = .ok (.aload_n 0, 1) := by decide +kernel
theorem dX10_tellPieces_6 : decode cX10_tellPieces 6 = .ok (.getfield 176, 3) := by decide +kernel
theorem dX10_tellPieces_9 : decode cX10_tellPieces 9 = .ok (.if_icmp .ge 16, 3) := by decide +kernel
theorem dX10_tellPieces_12 : decode cX10_tellPieces 12 = .ok (.aload_n 0, 1) := by decide +kernel
theorem dX10_tellPieces_13 : decode cX10_tellPieces 13 = .ok (.getfield 35, 3) := by decide +kernel
theorem dX10_tellPieces_16 : decode cX10_tellPieces 16 = .ok (.iload_n 2, 1) := by decide +kernel
theorem dX10_tellPieces_17 : decode cX10_tellPieces 17 = .ok (.iload_n 2, 1) := by decide +kernel
theorem dX10_tellPieces_18 : decode cX10_tellPieces 18 = .ok (.iastore, 1) := by decide +kernel
theorem dX10_tellPieces_19 : decode cX10_tellPieces 19 = .ok (.iinc 2 1, 3) := by decide +kernel
theorem dX10_tellPieces_22 : decode cX10_tellPieces 22 = .ok (.goto (-18), 3) := by decide +kernel
theorem dX10_tellPieces_25 : decode cX10_tellPieces 25 = .ok (.iconst 0, 1) := by decide +kernel
theorem dX10_tellPieces_26 : decode cX10_tellPieces 26 = .ok (.istore_n 2, 1) := by decide +kernel
theorem dX10_tellPieces_27 : decode cX10_tellPieces 27 = .ok (.iload_n 2, 1) := by decide +kernel
theorem dX10_tellPieces_28 : decode cX10_tellPieces 28 = .ok (.aload_n 0, 1) := by decide +kernel
theorem dX10_tellPieces_29 : decode cX10_tellPieces 29 = .ok (.getfield 176, 3) := by decide +kernel
theorem dX10_tellPieces_32 : decode cX10_tellPieces 32 = .ok (.if_icmp .ge 115, 3) := by decide +kernel
theorem dX10_tellPieces_35 : decode cX10_tellPieces 35 = .ok (.iload_n 2, 1) := by decide +kernel
theorem dX10_tellPieces_36 : decode cX10_tellPieces 36 = .ok (.iconst 1, 1) := by decide +kernel
theorem dX10_tellPieces_37 : decode cX10_tellPieces 37 = .ok (.iadd, 1) := by decide +kernel
theorem dX10_tellPieces_38 : decode cX10_tellPieces 38 = .ok (.istore_n 3, 1) := by decide +kernel
theorem dX10_tellPieces_39 : decode cX10_tellPieces 39 = .ok (.iload_n 3, 1) := by decide +kernel
theorem dX10_tellPieces_40 : decode cX10_tellPieces 40 = .ok (.aload_n 0, 1) := by decide +kernel
theorem dX10_tellPieces_41 : decode cX10_tellPieces 41 = .ok (.getfield 176, 3) := by decide +kernel
theorem dX10_tellPieces_44 : decode cX10_tellPieces 44 = .ok (.if_icmp .ge 97, 3) := by decide +kernel
theorem dX10_tellPieces_47 : decode cX10_tellPieces 47 = .ok (.aload_n 0, 1) := by decide +kernel
theorem dX10_tellPieces_48 : decode cX10_tellPieces 48 = .ok (.iload_n 2, 1) := by decide +kernel
theorem dX10_tellPieces_49 : decode cX10_tellPieces 49 = .ok (.iload_n 3, 1) := by decide +kernel
theorem dX10_tellPieces_50 : decode cX10_tellPieces 50 = .ok (.invokevirtual 203, 3) := by decide +kernel
theorem dX10_tellPieces_53 : decode cX10_tellPieces 53 = .ok (.ifCond .ne 6, 3) := by decide +kernel
theorem dX10_tellPieces_56 : decode cX10_tellPieces 56 = .ok (.goto 79, 3) := by decide +kernel
theorem dX10_tellPieces_59 : decode cX10_tellPieces 59 = .ok (.iinc 1 1, 3) := by decide +kernel
theorem dX10_tellPieces_62 : decode cX10_tellPieces 62 = .ok (.aload_n 0, 1) := by decide +kernel
theorem dX10_tellPieces_63 : decode cX10_tellPieces 63 = .ok (.getfield 35, 3) := by decide +kernel
theorem dX10_tellPieces_66 : decode cX10_tellPieces 66 = .ok (.iload_n 2, 1) := by decide +kernel
theorem dX10_tellPieces_67 : decode cX10_tellPieces 67 = .ok (.iaload, 1) := by decide +kernel
theorem dX10_tellPieces_68 : decode cX10_tellPieces 68 = .ok (.aload_n 0, 1) := by decide +kernel
theorem dX10_tellPieces_69 : decode cX10_tellPieces 69 = .ok (.getfield 35, 3) := by decide +kernel
theorem dX10_tellPieces_72 : decode cX10_tellPieces 72 = .ok (.iload_n 3, 1) := by decide +kernel
theorem dX10_tellPieces_73 : decode cX10_tellPieces 73 = .ok (.iaload, 1) := by decide +kernel
theorem dX10_tellPieces_74 : decode cX10_tellPieces 74 = .ok (.invokestatic 187, 3) := by decide +kernel
theorem dX10_tellPieces_77 : decode cX10_tellPieces 77 = .ok (.istore 4, 2) := by decide +kernel
theorem dX10_tellPieces_79 : decode cX10_tellPieces 79 = .ok (.aload_n 0, 1) := by decide +kernel
theorem dX10_tellPieces_80 : decode cX10_tellPieces 80 = .ok (.getfield 35, 3) := by decide +kernel
theorem dX10_tellPieces_83 : decode cX10_tellPieces 83 = .ok (.iload_n 2, 1) := by decide +kernel
theorem dX10_tellPieces_84 : decode cX10_tellPieces 84 = .ok (.iaload, 1) := by decide +kernel
theorem dX10_tellPieces_85 : decode cX10_tellPieces 85 = .ok (.aload_n 0, 1) := by decide +kernel
theorem dX10_tellPieces_86 : decode cX10_tellPieces 86 = .ok (.getfield 35, 3) := by decide +kernel
theorem dX10_tellPieces_89 : decode cX10_tellPieces 89 = .ok (.iload_n 3, 1) := by decide +kernel
theorem dX10_tellPieces_90 : decode cX10_tellPieces 90 = .ok (.iaload, 1) := by decide +kernel
theorem dX10_tellPieces_91 : decode cX10_tellPieces 91 = .ok (.invokestatic 193, 3) := by decide +kernel
theorem dX10_tellPieces_94 : decode cX10_tellPieces 94 = .ok (.istore 5, 2) := by decide +kernel
theorem dX10_tellPieces_96 : decode cX10_tellPieces 96 = .ok (.iconst 0, 1) := by decide +kernel
theorem dX10_tellPieces_97 : decode cX10_tellPieces 97 = .ok (.istore 6, 2) := by decide +kernel
theorem dX10_tellPieces_99 : decode cX10_tellPieces 99 = .ok (.iload 6, 2) := by decide +kernel
theorem dX10_tellPieces_101 : decode cX10_tellPieces 101 = .ok (.aload_n 0, 1) := by decide +kernel
theorem dX10_tellPieces_102 : decode cX10_tellPieces 102 = .ok (.getfield 176, 3) := by decide +kernel
theorem dX10_tellPieces_105 : decode cX10_tellPieces 105 = .ok (.if_icmp .ge 30, 3) := by decide +kernel
theorem dX10_tellPieces_108 : decode cX10_tellPieces 108 = .ok (.aload_n 0, 1) := by decide +kernel
theorem dX10_tellPieces_109 : decode cX10_tellPieces 109 = .ok (.getfield 35, 3) := by decide +kernel
theorem dX10_tellPieces_112 : decode cX10_tellPieces 112 = .ok (.iload 6, 2) := by decide +kernel
theorem dX10_tellPieces_114 : decode cX10_tellPieces 114 = .ok (.iaload, 1) := by decide +kernel
theorem dX10_tellPieces_115 : decode cX10_tellPieces 115 = .ok (.iload 5, 2) := by decide +kernel
theorem dX10_tellPieces_117 : decode cX10_tellPieces 117 = .ok (.if_icmp .ne 12, 3) := by decide +kernel
theorem dX10_tellPieces_120 : decode cX10_tellPieces 120 = .ok (.aload_n 0, 1) := by decide +kernel
theorem dX10_tellPieces_121 : decode cX10_tellPieces 121 = .ok (.getfield 35, 3) := by decide +kernel
theorem dX10_tellPieces_124 : decode cX10_tellPieces 124 = .ok (.iload 6, 2) := by decide +kernel
theorem dX10_tellPieces_126 : decode cX10_tellPieces 126 = .ok (.iload 4, 2) := by decide +kernel
theorem dX10_tellPieces_128 : decode cX10_tellPieces 128 = .ok (.iastore, 1) := by decide +kernel
theorem dX10_tellPieces_129 : decode cX10_tellPieces 129 = .ok (.iinc 6 1, 3) := by decide +kernel
theorem dX10_tellPieces_132 : decode cX10_tellPieces 132 = .ok (.goto (-33), 3) := by decide +kernel
theorem dX10_tellPieces_135 : decode cX10_tellPieces 135 = .ok (.iinc 3 1, 3) := by decide +kernel
theorem dX10_tellPieces_138 : decode cX10_tellPieces 138 = .ok (.goto (-99), 3) := by decide +kernel
theorem dX10_tellPieces_141 : decode cX10_tellPieces 141 = .ok (.iinc 2 1, 3) := by decide +kernel
theorem dX10_tellPieces_144 : decode cX10_tellPieces 144 = .ok (.goto (-117), 3) := by decide +kernel
theorem dX10_tellPieces_147 : decode cX10_tellPieces 147 = .ok (.iload_n 1, 1) := by decide +kernel
theorem dX10_tellPieces_148 : decode cX10_tellPieces 148 = .ok (.ireturn, 1) := by decide +kernel
theorem dX10_isPiece_0 : decode cX10_isPiece 0 = .ok (.aload_n 0, 1) := by decide +kernel
theorem dX10_isPiece_1 : decode cX10_isPiece 1 = .ok (.iload_n 1, 1) := by decide +kernel
theorem dX10_isPiece_2 : decode cX10_isPiece 2 = .ok (.invokevirtual 207, 3) := by decide +kernel
theorem dX10_isPiece_5 : decode cX10_isPiece 5 = .ok (.aload_n 0, 1) := by decide +kernel
theorem dX10_isPiece_6 : decode cX10_isPiece 6 = .ok (.iload_n 2, 1) := by decide +kernel
theorem dX10_isPiece_7 : decode cX10_isPiece 7 = .ok (.invokevirtual 207, 3) := by decide +kernel
theorem dX10_isPiece_10 : decode cX10_isPiece 10 = .ok (.iand, 1) := by decide +kernel
theorem dX10_isPiece_11 : decode cX10_isPiece 11 = .ok (.istore_n 3, 1) := by decide +kernel
theorem dX10_isPiece_12 : decode cX10_isPiece 12 = .ok (.iload_n 1, 1) := by decide +kernel
theorem dX10_isPiece_13 : decode cX10_isPiece 13 = .ok (.iconst 1, 1) := by decide +kernel
theorem dX10_isPiece_14 : decode cX10_isPiece 14 = .ok (.iadd, 1) := by decide +kernel
theorem dX10_isPiece_15 : decode cX10_isPiece 15 = .ok (.istore 4, 2) := by decide +kernel
theorem dX10_isPiece_17 : decode cX10_isPiece 17 = .ok (.iload 4, 2) := by decide +kernel
theorem dX10_isPiece_19 : decode cX10_isPiece 19 = .ok (.iload_n 2, 1) := by decide +kernel
theorem dX10_isPiece_20 : decode cX10_isPiece 20 = .ok (.if_icmp .ge 20, 3) := by decide +kernel
theorem dX10_isPiece_23 : decode cX10_isPiece 23 = .ok (.iload_n 3, 1) := by decide +kernel
theorem dX10_isPiece_24 : decode cX10_isPiece 24 = .ok (.aload_n 0, 1) := by decide +kernel
theorem dX10_isPiece_25 : decode cX10_isPiece 25 = .ok (.iload 4, 2) := by decide +kernel
theorem dX10_isPiece_27 : decode cX10_isPiece 27 = .ok (.invokevirtual 207, 3) := by decide +kernel
theorem dX10_isPiece_30 : decode cX10_isPiece 30 = .ok (.iconst (-1), 1) := by decide +kernel
theorem dX10_isPiece_31 : decode cX10_isPiece 31 = .ok (.ixor, 1) := by decide +kernel
theorem dX10_isPiece_32 : decode cX10_isPiece 32 = .ok (.iand, 1) := by decide +kernel
theorem dX10_isPiece_33 : decode cX10_isPiece 33 = .ok (.istore_n 3, 1) := by decide +kernel
theorem dX10_isPiece_34 : decode cX10_isPiece 34 = .ok (.iinc 4 1, 3) := by decide +kernel
theorem dX10_isPiece_37 : decode cX10_isPiece 37 = .ok (.goto (-20), 3) := by decide +kernel
theorem dX10_isPiece_40 : decode cX10_isPiece 40 = .ok (.iload_n 3, 1) := by decide +kernel
theorem dX10_isPiece_41 : decode cX10_isPiece 41 = .ok (.ifCond .eq 7, 3) := by decide +kernel
theorem dX10_isPiece_44 : decode cX10_isPiece 44 = .ok (.iconst 1, 1) := by decide +kernel
theorem dX10_isPiece_45 : decode cX10_isPiece 45 = .ok (.goto 4, 3) := by decide +kernel
theorem dX10_isPiece_48 : decode cX10_isPiece 48 = .ok (.iconst 0, 1) := by decide +kernel
theorem dX10_isPiece_49 : decode cX10_isPiece 49 = .ok (.ireturn, 1) := by decide +kernel
theorem dX10_endsAt_0 : decode cX10_endsAt 0 = .ok (.iconst 0, 1) := by decide +kernel
theorem dX10_endsAt_1 : decode cX10_endsAt 1 = .ok (.istore_n 2, 1) := by decide +kernel
theorem dX10_endsAt_2 : decode cX10_endsAt 2 = .ok (.iconst 0, 1) := by decide +kernel
theorem dX10_endsAt_3 : decode cX10_endsAt 3 = .ok (.istore_n 3, 1) := by decide +kernel
theorem dX10_endsAt_4 : decode cX10_endsAt 4 = .ok (.iload_n 3, 1) := by decide +kernel
theorem dX10_endsAt_5 : decode cX10_endsAt 5 = .ok (.aload_n 0, 1) := by decide +kernel
theorem dX10_endsAt_6 : decode cX10_endsAt 6 = .ok (.getfield 109, 3) := by decide +kernel
theorem dX10_endsAt_9 : decode cX10_endsAt 9 = .ok (.if_icmp .ge 63, 3) := by decide +kernel
theorem dX10_endsAt_12 : decode cX10_endsAt 12 = .ok (.aload_n 0, 1) := by decide +kernel
theorem dX10_endsAt_13 : decode cX10_endsAt 13 = .ok (.iload_n 1, 1) := by decide +kernel
theorem dX10_endsAt_14 : decode cX10_endsAt 14 = .ok (.aload_n 0, 1) := by decide +kernel
theorem dX10_endsAt_15 : decode cX10_endsAt 15 = .ok (.getfield 9, 3) := by decide +kernel
theorem dX10_endsAt_18 : decode cX10_endsAt 18 = .ok (.iload_n 3, 1) := by decide +kernel
theorem dX10_endsAt_19 : decode cX10_endsAt 19 = .ok (.iaload, 1) := by decide +kernel
theorem dX10_endsAt_20 : decode cX10_endsAt 20 = .ok (.i2l, 1) := by decide +kernel
theorem dX10_endsAt_21 : decode cX10_endsAt 21 = .ok (.lconst 1, 1) := by decide +kernel
theorem dX10_endsAt_22 : decode cX10_endsAt 22 = .ok (.aload_n 0, 1) := by decide +kernel
theorem dX10_endsAt_23 : decode cX10_endsAt 23 = .ok (.getfield 13, 3) := by decide +kernel
theorem dX10_endsAt_26 : decode cX10_endsAt 26 = .ok (.iload_n 3, 1) := by decide +kernel
theorem dX10_endsAt_27 : decode cX10_endsAt 27 = .ok (.iaload, 1) := by decide +kernel
theorem dX10_endsAt_28 : decode cX10_endsAt 28 = .ok (.i2l, 1) := by decide +kernel
theorem dX10_endsAt_29 : decode cX10_endsAt 29 = .ok (.lconst 1, 1) := by decide +kernel
theorem dX10_endsAt_30 : decode cX10_endsAt 30 = .ok (.invokevirtual 179, 3) := by decide +kernel
theorem dX10_endsAt_33 : decode cX10_endsAt 33 = .ok (.ifCond .ne 6, 3) := by decide +kernel
theorem dX10_endsAt_36 : decode cX10_endsAt 36 = .ok (.iinc 2 1, 3) := by decide +kernel
theorem dX10_endsAt_39 : decode cX10_endsAt 39 = .ok (.aload_n 0, 1) := by decide +kernel
theorem dX10_endsAt_40 : decode cX10_endsAt 40 = .ok (.iload_n 1, 1) := by decide +kernel
theorem dX10_endsAt_41 : decode cX10_endsAt 41 = .ok (.aload_n 0, 1) := by decide +kernel
theorem dX10_endsAt_42 : decode cX10_endsAt 42 = .ok (.getfield 16, 3) := by decide +kernel
theorem dX10_endsAt_45 : decode cX10_endsAt 45 = .ok (.iload_n 3, 1) := by decide +kernel
theorem dX10_endsAt_46 : decode cX10_endsAt 46 = .ok (.iaload, 1) := by decide +kernel
theorem dX10_endsAt_47 : decode cX10_endsAt 47 = .ok (.i2l, 1) := by decide +kernel
theorem dX10_endsAt_48 : decode cX10_endsAt 48 = .ok (.lconst 1, 1) := by decide +kernel
theorem dX10_endsAt_49 : decode cX10_endsAt 49 = .ok (.aload_n 0, 1) := by decide +kernel
theorem dX10_endsAt_50 : decode cX10_endsAt 50 = .ok (.getfield 19, 3) := by decide +kernel
theorem dX10_endsAt_53 : decode cX10_endsAt 53 = .ok (.iload_n 3, 1) := by decide +kernel
theorem dX10_endsAt_54 : decode cX10_endsAt 54 = .ok (.iaload, 1) := by decide +kernel
theorem dX10_endsAt_55 : decode cX10_endsAt 55 = .ok (.i2l, 1) := by decide +kernel
theorem dX10_endsAt_56 : decode cX10_endsAt 56 = .ok (.lconst 1, 1) := by decide +kernel
theorem dX10_endsAt_57 : decode cX10_endsAt 57 = .ok (.invokevirtual 179, 3) := by decide +kernel
theorem dX10_endsAt_60 : decode cX10_endsAt 60 = .ok (.ifCond .ne 6, 3) := by decide +kernel
theorem dX10_endsAt_63 : decode cX10_endsAt 63 = .ok (.iinc 2 1, 3) := by decide +kernel
theorem dX10_endsAt_66 : decode cX10_endsAt 66 = .ok (.iinc 3 1, 3) := by decide +kernel
theorem dX10_endsAt_69 : decode cX10_endsAt 69 = .ok (.goto (-65), 3) := by decide +kernel
theorem dX10_endsAt_72 : decode cX10_endsAt 72 = .ok (.iload_n 2, 1) := by decide +kernel
theorem dX10_endsAt_73 : decode cX10_endsAt 73 = .ok (.ireturn, 1) := by decide +kernel
theorem dX10_pointsOn_0 : decode cX10_pointsOn 0 = .ok (.iconst 0, 1) := by decide +kernel
theorem dX10_pointsOn_1 : decode cX10_pointsOn 1 = .ok (.istore_n 2, 1) := by decide +kernel
theorem dX10_pointsOn_2 : decode cX10_pointsOn 2 = .ok (.iconst 0, 1) := by decide +kernel
theorem dX10_pointsOn_3 : decode cX10_pointsOn 3 = .ok (.istore_n 3, 1) := by decide +kernel
theorem dX10_pointsOn_4 : decode cX10_pointsOn 4 = .ok (.iload_n 3, 1) := by decide +kernel
theorem dX10_pointsOn_5 : decode cX10_pointsOn 5 = .ok (.aload_n 0, 1) := by decide +kernel
theorem dX10_pointsOn_6 : decode cX10_pointsOn 6 = .ok (.getfield 176, 3) := by decide +kernel
theorem dX10_pointsOn_9 : decode cX10_pointsOn 9 = .ok (.if_icmp .ge 25, 3) := by decide +kernel
theorem dX10_pointsOn_12 : decode cX10_pointsOn 12 = .ok (.aload_n 0, 1) := by decide +kernel
theorem dX10_pointsOn_13 : decode cX10_pointsOn 13 = .ok (.iload_n 3, 1) := by decide +kernel
theorem dX10_pointsOn_14 : decode cX10_pointsOn 14 = .ok (.invokevirtual 207, 3) := by decide +kernel
theorem dX10_pointsOn_17 : decode cX10_pointsOn 17 = .ok (.iload_n 1, 1) := by decide +kernel
theorem dX10_pointsOn_18 : decode cX10_pointsOn 18 = .ok (.ishr, 1) := by decide +kernel
theorem dX10_pointsOn_19 : decode cX10_pointsOn 19 = .ok (.iconst 1, 1) := by decide +kernel
theorem dX10_pointsOn_20 : decode cX10_pointsOn 20 = .ok (.iand, 1) := by decide +kernel
theorem dX10_pointsOn_21 : decode cX10_pointsOn 21 = .ok (.iconst 1, 1) := by decide +kernel
theorem dX10_pointsOn_22 : decode cX10_pointsOn 22 = .ok (.if_icmp .ne 6, 3) := by decide +kernel
theorem dX10_pointsOn_25 : decode cX10_pointsOn 25 = .ok (.iinc 2 1, 3) := by decide +kernel
theorem dX10_pointsOn_28 : decode cX10_pointsOn 28 = .ok (.iinc 3 1, 3) := by decide +kernel
theorem dX10_pointsOn_31 : decode cX10_pointsOn 31 = .ok (.goto (-27), 3) := by decide +kernel
theorem dX10_pointsOn_34 : decode cX10_pointsOn 34 = .ok (.iload_n 2, 1) := by decide +kernel
theorem dX10_pointsOn_35 : decode cX10_pointsOn 35 = .ok (.ireturn, 1) := by decide +kernel
theorem dX10_point_0 : decode cX10_point 0 = .ok (.iload_n 2, 1) := by decide +kernel
theorem dX10_point_1 : decode cX10_point 1 = .ok (.iconst 0, 1) := by decide +kernel
theorem dX10_point_2 : decode cX10_point 2 = .ok (.bipush 6, 2) := by decide +kernel
theorem dX10_point_4 : decode cX10_point 4 = .ok (.invokestatic 113, 3) := by decide +kernel
theorem dX10_point_7 : decode cX10_point 7 = .ok (.ifCond .ne 6, 3) := by decide +kernel
theorem dX10_point_10 : decode cX10_point 10 = .ok (.bipush (-2), 2) := by decide +kernel
theorem dX10_point_12 : decode cX10_point 12 = .ok (.ireturn, 1) := by decide +kernel
theorem dX10_point_13 : decode cX10_point 13 = .ok (.aload_n 0, 1) := by decide +kernel
theorem dX10_point_14 : decode cX10_point 14 = .ok (.invokevirtual 211, 3) := by decide +kernel
theorem dX10_point_17 : decode cX10_point 17 = .ok (.iload_n 1, 1) := by decide +kernel
theorem dX10_point_18 : decode cX10_point 18 = .ok (.iconst 0, 1) := by decide +kernel
theorem dX10_point_19 : decode cX10_point 19 = .ok (.aload_n 0, 1) := by decide +kernel
theorem dX10_point_20 : decode cX10_point 20 = .ok (.getfield 176, 3) := by decide +kernel
theorem dX10_point_23 : decode cX10_point 23 = .ok (.iconst 1, 1) := by decide +kernel
theorem dX10_point_24 : decode cX10_point 24 = .ok (.isub, 1) := by decide +kernel
theorem dX10_point_25 : decode cX10_point 25 = .ok (.invokestatic 113, 3) := by decide +kernel
theorem dX10_point_28 : decode cX10_point 28 = .ok (.ifCond .ne 6, 3) := by decide +kernel
theorem dX10_point_31 : decode cX10_point 31 = .ok (.bipush (-12), 2) := by decide +kernel
theorem dX10_point_33 : decode cX10_point 33 = .ok (.ireturn, 1) := by decide +kernel
theorem dX10_point_34 : decode cX10_point 34 = .ok (.iload_n 2, 1) := by decide +kernel
theorem dX10_point_35 : decode cX10_point 35 = .ok (.iconst 4, 1) := by decide +kernel
theorem dX10_point_36 : decode cX10_point 36 = .ok (.if_icmp .ge 52, 3) := by decide +kernel
theorem dX10_point_39 : decode cX10_point 39 = .ok (.iload_n 2, 1) := by decide +kernel
theorem dX10_point_40 : decode cX10_point 40 = .ok (.ifCond .ne 12, 3) := by decide +kernel
theorem dX10_point_43 : decode cX10_point 43 = .ok (.aload_n 0, 1) := by decide +kernel
theorem dX10_point_44 : decode cX10_point 44 = .ok (.getfield 22, 3) := by decide +kernel
theorem dX10_point_47 : decode cX10_point 47 = .ok (.iload_n 1, 1) := by decide +kernel
theorem dX10_point_48 : decode cX10_point 48 = .ok (.laload, 1) := by decide +kernel
theorem dX10_point_49 : decode cX10_point 49 = .ok (.goto 37, 3) := by decide +kernel
theorem dX10_point_52 : decode cX10_point 52 = .ok (.iload_n 2, 1) := by decide +kernel
theorem dX10_point_53 : decode cX10_point 53 = .ok (.iconst 1, 1) := by decide +kernel
theorem dX10_point_54 : decode cX10_point 54 = .ok (.if_icmp .ne 12, 3) := by decide +kernel
theorem dX10_point_57 : decode cX10_point 57 = .ok (.aload_n 0, 1) := by decide +kernel
theorem dX10_point_58 : decode cX10_point 58 = .ok (.getfield 26, 3) := by decide +kernel
theorem dX10_point_61 : decode cX10_point 61 = .ok (.iload_n 1, 1) := by decide +kernel
theorem dX10_point_62 : decode cX10_point 62 = .ok (.laload, 1) := by decide +kernel
theorem dX10_point_63 : decode cX10_point 63 = .ok (.goto 23, 3) := by decide +kernel
theorem dX10_point_66 : decode cX10_point 66 = .ok (.iload_n 2, 1) := by decide +kernel
theorem dX10_point_67 : decode cX10_point 67 = .ok (.iconst 2, 1) := by decide +kernel
theorem dX10_point_68 : decode cX10_point 68 = .ok (.if_icmp .ne 12, 3) := by decide +kernel
theorem dX10_point_71 : decode cX10_point 71 = .ok (.aload_n 0, 1) := by decide +kernel
theorem dX10_point_72 : decode cX10_point 72 = .ok (.getfield 29, 3) := by decide +kernel
theorem dX10_point_75 : decode cX10_point 75 = .ok (.iload_n 1, 1) := by decide +kernel
theorem dX10_point_76 : decode cX10_point 76 = .ok (.laload, 1) := by decide +kernel
theorem dX10_point_77 : decode cX10_point 77 = .ok (.goto 9, 3) := by decide +kernel
theorem dX10_point_80 : decode cX10_point 80 = .ok (.aload_n 0, 1) := by decide +kernel
theorem dX10_point_81 : decode cX10_point 81 = .ok (.getfield 32, 3) := by decide +kernel
theorem dX10_point_84 : decode cX10_point 84 = .ok (.iload_n 1, 1) := by decide +kernel
theorem dX10_point_85 : decode cX10_point 85 = .ok (.laload, 1) := by decide +kernel
theorem dX10_point_86 : decode cX10_point 86 = .ok (.l2i, 1) := by decide +kernel
theorem dX10_point_87 : decode cX10_point 87 = .ok (.ireturn, 1) := by decide +kernel
theorem dX10_point_88 : decode cX10_point 88 = .ok (.iload_n 2, 1) := by decide +kernel
theorem dX10_point_89 : decode cX10_point 89 = .ok (.iconst 4, 1) := by decide +kernel
theorem dX10_point_90 : decode cX10_point 90 = .ok (.if_icmp .ne 9, 3) := by decide +kernel
theorem dX10_point_93 : decode cX10_point 93 = .ok (.aload_n 0, 1) := by decide +kernel
theorem dX10_point_94 : decode cX10_point 94 = .ok (.iload_n 1, 1) := by decide +kernel
theorem dX10_point_95 : decode cX10_point 95 = .ok (.invokevirtual 207, 3) := by decide +kernel
theorem dX10_point_98 : decode cX10_point 98 = .ok (.ireturn, 1) := by decide +kernel
theorem dX10_point_99 : decode cX10_point 99 = .ok (.iload_n 2, 1) := by decide +kernel
theorem dX10_point_100 : decode cX10_point 100 = .ok (.iconst 5, 1) := by decide +kernel
theorem dX10_point_101 : decode cX10_point 101 = .ok (.if_icmp .ne 9, 3) := by decide +kernel
theorem dX10_point_104 : decode cX10_point 104 = .ok (.aload_n 0, 1) := by decide +kernel
theorem dX10_point_105 : decode cX10_point 105 = .ok (.iload_n 1, 1) := by decide +kernel
theorem dX10_point_106 : decode cX10_point 106 = .ok (.invokevirtual 214, 3) := by decide +kernel
theorem dX10_point_109 : decode cX10_point 109 = .ok (.ireturn, 1) := by decide +kernel
theorem dX10_point_110 : decode cX10_point 110 = .ok (.aload_n 0, 1) := by decide +kernel
theorem dX10_point_111 : decode cX10_point 111 = .ok (.invokevirtual 217, 3) := by decide +kernel
theorem dX10_point_114 : decode cX10_point 114 = .ok (.istore_n 3, 1) := by decide +kernel
theorem dX10_point_115 : decode cX10_point 115 = .ok (.aload_n 0, 1) := by decide +kernel
theorem dX10_point_116 : decode cX10_point 116 = .ok (.getfield 35, 3) := by decide +kernel
theorem dX10_point_119 : decode cX10_point 119 = .ok (.iload_n 1, 1) := by decide +kernel
theorem dX10_point_120 : decode cX10_point 120 = .ok (.iaload, 1) := by decide +kernel
theorem dX10_point_121 : decode cX10_point 121 = .ok (.ireturn, 1) := by decide +kernel
theorem dX10_placeAt_0 : decode cX10_placeAt 0 = .ok (.iconst 0, 1) := by decide +kernel
theorem dX10_placeAt_1 : decode cX10_placeAt 1 = .ok (.istore_n 3, 1) := by decide +kernel
theorem dX10_placeAt_2 : decode cX10_placeAt 2 = .ok (.iload_n 3, 1) := by decide +kernel
theorem dX10_placeAt_3 : decode cX10_placeAt 3 = .ok (.aload_n 0, 1) := by decide +kernel
theorem dX10_placeAt_4 : decode cX10_placeAt 4 = .ok (.getfield 221, 3) := by decide +kernel
theorem dX10_placeAt_7 : decode cX10_placeAt 7 = .ok (.if_icmp .ge 29, 3) := by decide +kernel
theorem dX10_placeAt_10 : decode cX10_placeAt 10 = .ok (.aload_n 0, 1) := by decide +kernel
theorem dX10_placeAt_11 : decode cX10_placeAt 11 = .ok (.getfield 38, 3) := by decide +kernel
theorem dX10_placeAt_14 : decode cX10_placeAt 14 = .ok (.iload_n 3, 1) := by decide +kernel
theorem dX10_placeAt_15 : decode cX10_placeAt 15 = .ok (.iaload, 1) := by decide +kernel
theorem dX10_placeAt_16 : decode cX10_placeAt 16 = .ok (.iload_n 1, 1) := by decide +kernel
theorem dX10_placeAt_17 : decode cX10_placeAt 17 = .ok (.if_icmp .ne 13, 3) := by decide +kernel
theorem dX10_placeAt_20 : decode cX10_placeAt 20 = .ok (.aload_n 0, 1) := by decide +kernel
theorem dX10_placeAt_21 : decode cX10_placeAt 21 = .ok (.getfield 41, 3) := by decide +kernel
theorem dX10_placeAt_24 : decode cX10_placeAt 24 = .ok (.iload_n 3, 1) := by decide +kernel
theorem dX10_placeAt_25 : decode cX10_placeAt 25 = .ok (.iaload, 1) := by decide +kernel
theorem dX10_placeAt_26 : decode cX10_placeAt 26 = .ok (.iload_n 2, 1) := by decide +kernel
theorem dX10_placeAt_27 : decode cX10_placeAt 27 = .ok (.if_icmp .eq 9, 3) := by decide +kernel
theorem dX10_placeAt_30 : decode cX10_placeAt 30 = .ok (.iinc 3 1, 3) := by decide +kernel
theorem dX10_placeAt_33 : decode cX10_placeAt 33 = .ok (.goto (-31), 3) := by decide +kernel
theorem dX10_placeAt_36 : decode cX10_placeAt 36 = .ok (.iload_n 3, 1) := by decide +kernel
theorem dX10_placeAt_37 : decode cX10_placeAt 37 = .ok (.aload_n 0, 1) := by decide +kernel
theorem dX10_placeAt_38 : decode cX10_placeAt 38 = .ok (.getfield 221, 3) := by decide +kernel
theorem dX10_placeAt_41 : decode cX10_placeAt 41 = .ok (.if_icmp .ne 34, 3) := by decide +kernel
theorem dX10_placeAt_44 : decode cX10_placeAt 44 = .ok (.aload_n 0, 1) := by decide +kernel
theorem dX10_placeAt_45 : decode cX10_placeAt 45 = .ok (.getfield 38, 3) := by decide +kernel
theorem dX10_placeAt_48 : decode cX10_placeAt 48 = .ok (.iload_n 3, 1) := by decide +kernel
theorem dX10_placeAt_49 : decode cX10_placeAt 49 = .ok (.iload_n 1, 1) := by decide +kernel
theorem dX10_placeAt_50 : decode cX10_placeAt 50 = .ok (.iastore, 1) := by decide +kernel
theorem dX10_placeAt_51 : decode cX10_placeAt 51 = .ok (.aload_n 0, 1) := by decide +kernel
theorem dX10_placeAt_52 : decode cX10_placeAt 52 = .ok (.getfield 41, 3) := by decide +kernel
theorem dX10_placeAt_55 : decode cX10_placeAt 55 = .ok (.iload_n 3, 1) := by decide +kernel
theorem dX10_placeAt_56 : decode cX10_placeAt 56 = .ok (.iload_n 2, 1) := by decide +kernel
theorem dX10_placeAt_57 : decode cX10_placeAt 57 = .ok (.iastore, 1) := by decide +kernel
theorem dX10_placeAt_58 : decode cX10_placeAt 58 = .ok (.aload_n 0, 1) := by decide +kernel
theorem dX10_placeAt_59 : decode cX10_placeAt 59 = .ok (.getfield 44, 3) := by decide +kernel
theorem dX10_placeAt_62 : decode cX10_placeAt 62 = .ok (.iload_n 3, 1) := by decide +kernel
theorem dX10_placeAt_63 : decode cX10_placeAt 63 = .ok (.iconst (-1), 1) := by decide +kernel
theorem dX10_placeAt_64 : decode cX10_placeAt 64 = .ok (.iastore, 1) := by decide +kernel
theorem dX10_placeAt_65 : decode cX10_placeAt 65 = .ok (.aload_n 0, 1) := by decide +kernel
theorem dX10_placeAt_66 : decode cX10_placeAt 66 = .ok (.dup, 1) := by decide +kernel
theorem dX10_placeAt_67 : decode cX10_placeAt 67 = .ok (.getfield 221, 3) := by decide +kernel
theorem dX10_placeAt_70 : decode cX10_placeAt 70 = .ok (.iconst 1, 1) := by decide +kernel
theorem dX10_placeAt_71 : decode cX10_placeAt 71 = .ok (.iadd, 1) := by decide +kernel
theorem dX10_placeAt_72 : decode cX10_placeAt 72 = .ok (.putfield 221, 3) := by decide +kernel
theorem dX10_placeAt_75 : decode cX10_placeAt 75 = .ok (.iload_n 3, 1) := by decide +kernel
theorem dX10_placeAt_76 : decode cX10_placeAt 76 = .ok (.ireturn, 1) := by decide +kernel
theorem dX10_isSide_0 : decode cX10_isSide 0 = .ok (.iconst 0, 1) := by decide +kernel
theorem dX10_isSide_1 : decode cX10_isSide 1 = .ok (.istore_n 3, 1) := by decide +kernel
theorem dX10_isSide_2 : decode cX10_isSide 2 = .ok (.iconst 0, 1) := by decide +kernel
theorem dX10_isSide_3 : decode cX10_isSide 3 = .ok (.istore 4, 2) := by decide +kernel
theorem dX10_isSide_5 : decode cX10_isSide 5 = .ok (.iconst 0, 1) := by decide +kernel
theorem dX10_isSide_6 : decode cX10_isSide 6 = .ok (.istore 5, 2) := by decide +kernel
theorem dX10_isSide_8 : decode cX10_isSide 8 = .ok (.iload 5, 2) := by decide +kernel
theorem dX10_isSide_10 : decode cX10_isSide 10 = .ok (.aload_n 0, 1) := by decide +kernel
theorem dX10_isSide_11 : decode cX10_isSide 11 = .ok (.getfield 221, 3) := by decide +kernel
theorem dX10_isSide_14 : decode cX10_isSide 14 = .ok (.if_icmp .ge 111, 3) := by decide +kernel
theorem dX10_isSide_17 : decode cX10_isSide 17 = .ok (.aload_n 0, 1) := by decide +kernel
theorem dX10_isSide_18 : decode cX10_isSide 18 = .ok (.getfield 44, 3) := by decide +kernel
theorem dX10_isSide_21 : decode cX10_isSide 21 = .ok (.iload 5, 2) := by decide +kernel
theorem dX10_isSide_23 : decode cX10_isSide 23 = .ok (.iaload, 1) := by decide +kernel
theorem dX10_isSide_24 : decode cX10_isSide 24 = .ok (.iconst (-1), 1) := by decide +kernel
theorem dX10_isSide_25 : decode cX10_isSide 25 = .ok (.if_icmp .eq 6, 3) := by decide +kernel
theorem dX10_isSide_28 : decode cX10_isSide 28 = .ok (.goto 91, 3) := by decide +kernel
theorem dX10_isSide_31 : decode cX10_isSide 31 = .ok (.aload_n 0, 1) := by decide +kernel
theorem dX10_isSide_32 : decode cX10_isSide 32 = .ok (.aload_n 0, 1) := by decide +kernel
theorem dX10_isSide_33 : decode cX10_isSide 33 = .ok (.getfield 38, 3) := by decide +kernel
theorem dX10_isSide_36 : decode cX10_isSide 36 = .ok (.iload_n 2, 1) := by decide +kernel
theorem dX10_isSide_37 : decode cX10_isSide 37 = .ok (.iaload, 1) := by decide +kernel
theorem dX10_isSide_38 : decode cX10_isSide 38 = .ok (.aload_n 0, 1) := by decide +kernel
theorem dX10_isSide_39 : decode cX10_isSide 39 = .ok (.getfield 38, 3) := by decide +kernel
theorem dX10_isSide_42 : decode cX10_isSide 42 = .ok (.iload_n 1, 1) := by decide +kernel
theorem dX10_isSide_43 : decode cX10_isSide 43 = .ok (.iaload, 1) := by decide +kernel
theorem dX10_isSide_44 : decode cX10_isSide 44 = .ok (.isub, 1) := by decide +kernel
theorem dX10_isSide_45 : decode cX10_isSide 45 = .ok (.aload_n 0, 1) := by decide +kernel
theorem dX10_isSide_46 : decode cX10_isSide 46 = .ok (.getfield 41, 3) := by decide +kernel
theorem dX10_isSide_49 : decode cX10_isSide 49 = .ok (.iload_n 2, 1) := by decide +kernel
theorem dX10_isSide_50 : decode cX10_isSide 50 = .ok (.iaload, 1) := by decide +kernel
theorem dX10_isSide_51 : decode cX10_isSide 51 = .ok (.aload_n 0, 1) := by decide +kernel
theorem dX10_isSide_52 : decode cX10_isSide 52 = .ok (.getfield 41, 3) := by decide +kernel
theorem dX10_isSide_55 : decode cX10_isSide 55 = .ok (.iload_n 1, 1) := by decide +kernel
theorem dX10_isSide_56 : decode cX10_isSide 56 = .ok (.iaload, 1) := by decide +kernel
theorem dX10_isSide_57 : decode cX10_isSide 57 = .ok (.isub, 1) := by decide +kernel
theorem dX10_isSide_58 : decode cX10_isSide 58 = .ok (.aload_n 0, 1) := by decide +kernel
theorem dX10_isSide_59 : decode cX10_isSide 59 = .ok (.getfield 38, 3) := by decide +kernel
theorem dX10_isSide_62 : decode cX10_isSide 62 = .ok (.iload 5, 2) := by decide +kernel
theorem dX10_isSide_64 : decode cX10_isSide 64 = .ok (.iaload, 1) := by decide +kernel
theorem dX10_isSide_65 : decode cX10_isSide 65 = .ok (.aload_n 0, 1) := by decide +kernel
theorem dX10_isSide_66 : decode cX10_isSide 66 = .ok (.getfield 38, 3) := by decide +kernel
theorem dX10_isSide_69 : decode cX10_isSide 69 = .ok (.iload_n 1, 1) := by decide +kernel
theorem dX10_isSide_70 : decode cX10_isSide 70 = .ok (.iaload, 1) := by decide +kernel
theorem dX10_isSide_71 : decode cX10_isSide 71 = .ok (.isub, 1) := by decide +kernel
theorem dX10_isSide_72 : decode cX10_isSide 72 = .ok (.aload_n 0, 1) := by decide +kernel
theorem dX10_isSide_73 : decode cX10_isSide 73 = .ok (.getfield 41, 3) := by decide +kernel
theorem dX10_isSide_76 : decode cX10_isSide 76 = .ok (.iload 5, 2) := by decide +kernel
theorem dX10_isSide_78 : decode cX10_isSide 78 = .ok (.iaload, 1) := by decide +kernel
theorem dX10_isSide_79 : decode cX10_isSide 79 = .ok (.aload_n 0, 1) := by decide +kernel
theorem dX10_isSide_80 : decode cX10_isSide 80 = .ok (.getfield 41, 3) := by decide +kernel
theorem dX10_isSide_83 : decode cX10_isSide 83 = .ok (.iload_n 1, 1) := by decide +kernel
theorem dX10_isSide_84 : decode cX10_isSide 84 = .ok (.iaload, 1) := by decide +kernel
theorem dX10_isSide_85 : decode cX10_isSide 85 = .ok (.isub, 1) := by decide +kernel
theorem dX10_isSide_86 : decode cX10_isSide 86 = .ok (.invokevirtual 153, 3) := by decide +kernel
theorem dX10_isSide_89 : decode cX10_isSide 89 = .ok (.istore 6, 2) := by decide +kernel
theorem dX10_isSide_91 : decode cX10_isSide 91 = .ok (.iload_n 3, 1) := by decide +kernel
theorem dX10_isSide_92 : decode cX10_isSide 92 = .ok (.iload 6, 2) := by decide +kernel
theorem dX10_isSide_94 : decode cX10_isSide 94 = .ok (.ifCond .le 7, 3) := by decide +kernel
theorem dX10_isSide_97 : decode cX10_isSide 97 = .ok (.iconst 1, 1) := by decide +kernel
theorem dX10_isSide_98 : decode cX10_isSide 98 = .ok (.goto 4, 3) := by decide +kernel
theorem dX10_isSide_101 : decode cX10_isSide 101 = .ok (.iconst 0, 1) := by decide +kernel
theorem dX10_isSide_102 : decode cX10_isSide 102 = .ok (.ior, 1) := by decide +kernel
theorem dX10_isSide_103 : decode cX10_isSide 103 = .ok (.istore_n 3, 1) := by decide +kernel
theorem dX10_isSide_104 : decode cX10_isSide 104 = .ok (.iload 4, 2) := by decide +kernel
theorem dX10_isSide_106 : decode cX10_isSide 106 = .ok (.iload 6, 2) := by decide +kernel
theorem dX10_isSide_108 : decode cX10_isSide 108 = .ok (.ifCond .ge 7, 3) := by decide +kernel
theorem dX10_isSide_111 : decode cX10_isSide 111 = .ok (.iconst 1, 1) := by decide +kernel
theorem dX10_isSide_112 : decode cX10_isSide 112 = .ok (.goto 4, 3) := by decide +kernel
theorem dX10_isSide_115 : decode cX10_isSide 115 = .ok (.iconst 0, 1) := by decide +kernel
theorem dX10_isSide_116 : decode cX10_isSide 116 = .ok (.ior, 1) := by decide +kernel
theorem dX10_isSide_117 : decode cX10_isSide 117 = .ok (.istore 4, 2) := by decide +kernel
theorem dX10_isSide_119 : decode cX10_isSide 119 = .ok (.iinc 5 1, 3) := by decide +kernel
theorem dX10_isSide_122 : decode cX10_isSide 122 = .ok (.goto (-114), 3) := by decide +kernel
theorem dX10_isSide_125 : decode cX10_isSide 125 = .ok (.iload_n 3, 1) := by decide +kernel
theorem dX10_isSide_126 : decode cX10_isSide 126 = .ok (.ifCond .eq 8, 3) := by decide +kernel
theorem dX10_isSide_129 : decode cX10_isSide 129 = .ok (.iload 4, 2) := by decide +kernel
theorem dX10_isSide_131 : decode cX10_isSide 131 = .ok (.ifCond .ne 7, 3) := by decide +kernel
theorem dX10_isSide_134 : decode cX10_isSide 134 = .ok (.iconst 1, 1) := by decide +kernel
theorem dX10_isSide_135 : decode cX10_isSide 135 = .ok (.goto 4, 3) := by decide +kernel
theorem dX10_isSide_138 : decode cX10_isSide 138 = .ok (.iconst 0, 1) := by decide +kernel
theorem dX10_isSide_139 : decode cX10_isSide 139 = .ok (.ireturn, 1) := by decide +kernel
theorem dX10_tellHulls_0 : decode cX10_tellHulls 0 = .ok (.aload_n 0, 1) := by decide +kernel
theorem dX10_tellHulls_1 : decode cX10_tellHulls 1 = .ok (.iconst 0, 1) := by decide +kernel
theorem dX10_tellHulls_2 : decode cX10_tellHulls 2 = .ok (.putfield 221, 3) := by decide +kernel
theorem dX10_tellHulls_5 : decode cX10_tellHulls 5 = .ok (.iconst 0, 1) := by decide +kernel
theorem dX10_tellHulls_6 : decode cX10_tellHulls 6 = .ok (.istore_n 1, 1) := by decide +kernel
theorem dX10_tellHulls_7 : decode cX10_tellHulls 7 = .ok (.iload_n 1, 1) := by decide +kernel
theorem dX10_tellHulls_8 : decode cX10_tellHulls 8 = .ok (.aload_n 0, 1) := by decide +kernel
theorem dX10_tellHulls_9 : decode cX10_tellHulls 9 = .ok (.getfield 109, 3) := by decide +kernel
theorem dX10_tellHulls_12 : decode cX10_tellHulls 12 = .ok (.if_icmp .ge 43, 3) := by decide +kernel
theorem dX10_tellHulls_15 : decode cX10_tellHulls 15 = .ok (.aload_n 0, 1) := by decide +kernel
theorem dX10_tellHulls_16 : decode cX10_tellHulls 16 = .ok (.aload_n 0, 1) := by decide +kernel
theorem dX10_tellHulls_17 : decode cX10_tellHulls 17 = .ok (.getfield 9, 3) := by decide +kernel
theorem dX10_tellHulls_20 : decode cX10_tellHulls 20 = .ok (.iload_n 1, 1) := by decide +kernel
theorem dX10_tellHulls_21 : decode cX10_tellHulls 21 = .ok (.iaload, 1) := by decide +kernel
theorem dX10_tellHulls_22 : decode cX10_tellHulls 22 = .ok (.aload_n 0, 1) := by decide +kernel
theorem dX10_tellHulls_23 : decode cX10_tellHulls 23 = .ok (.getfield 13, 3) := by decide +kernel
theorem dX10_tellHulls_26 : decode cX10_tellHulls 26 = .ok (.iload_n 1, 1) := by decide +kernel
theorem dX10_tellHulls_27 : decode cX10_tellHulls 27 = .ok (.iaload, 1) := by decide +kernel
theorem dX10_tellHulls_28 : decode cX10_tellHulls 28 = .ok (.invokevirtual 224, 3) := by decide +kernel
theorem dX10_tellHulls_31 : decode cX10_tellHulls 31 = .ok (.istore_n 2, 1) := by decide +kernel
theorem dX10_tellHulls_32 : decode cX10_tellHulls 32 = .ok (.aload_n 0, 1) := by decide +kernel
theorem dX10_tellHulls_33 : decode cX10_tellHulls 33 = .ok (.aload_n 0, 1) := by decide +kernel
theorem dX10_tellHulls_34 : decode cX10_tellHulls 34 = .ok (.getfield 16, 3) := by decide +kernel
theorem dX10_tellHulls_37 : decode cX10_tellHulls 37 = .ok (.iload_n 1, 1) := by decide +kernel
theorem dX10_tellHulls_38 : decode cX10_tellHulls 38 = .ok (.iaload, 1) := by decide +kernel
theorem dX10_tellHulls_39 : decode cX10_tellHulls 39 = .ok (.aload_n 0, 1) := by decide +kernel
theorem dX10_tellHulls_40 : decode cX10_tellHulls 40 = .ok (.getfield 19, 3) := by decide +kernel
theorem dX10_tellHulls_43 : decode cX10_tellHulls 43 = .ok (.iload_n 1, 1) := by decide +kernel
theorem dX10_tellHulls_44 : decode cX10_tellHulls 44 = .ok (.iaload, 1) := by decide +kernel
theorem dX10_tellHulls_45 : decode cX10_tellHulls 45 = .ok (.invokevirtual 224, 3) := by decide +kernel
theorem dX10_tellHulls_48 : decode cX10_tellHulls 48 = .ok (.istore_n 3, 1) := by decide +kernel
theorem dX10_tellHulls_49 : decode cX10_tellHulls 49 = .ok (.iinc 1 1, 3) := by decide +kernel
theorem dX10_tellHulls_52 : decode cX10_tellHulls 52 = .ok (.goto (-45), 3) := by decide +kernel
theorem dX10_tellHulls_55 : decode cX10_tellHulls 55 = .ok (.iconst 0, 1) := by decide +kernel
theorem dX10_tellHulls_56 : decode cX10_tellHulls 56 = .ok (.istore_n 1, 1) := by decide +kernel
theorem dX10_tellHulls_57 : decode cX10_tellHulls 57 = .ok (.aload_n 0, 1) := by decide +kernel
theorem dX10_tellHulls_58 : decode cX10_tellHulls 58 = .ok (.getfield 221, 3) := by decide +kernel
theorem dX10_tellHulls_61 : decode cX10_tellHulls 61 = .ok (.istore_n 2, 1) := by decide +kernel
theorem dX10_tellHulls_62 : decode cX10_tellHulls 62 = .ok (.iload_n 2, 1) := by decide +kernel
theorem dX10_tellHulls_63 : decode cX10_tellHulls 63 = .ok (.ifCond .le 258, 3) := by decide +kernel
theorem dX10_tellHulls_66 : decode cX10_tellHulls 66 = .ok (.iconst 0, 1) := by decide +kernel
theorem dX10_tellHulls_67 : decode cX10_tellHulls 67 = .ok (.istore_n 3, 1) := by decide +kernel
theorem dX10_tellHulls_68 : decode cX10_tellHulls 68 = .ok (.iload_n 3, 1) := by decide +kernel
theorem dX10_tellHulls_69 : decode cX10_tellHulls 69 = .ok (.aload_n 0, 1) := by decide +kernel
theorem dX10_tellHulls_70 : decode cX10_tellHulls 70 = .ok (.getfield 221, 3) := by decide +kernel
theorem dX10_tellHulls_73 : decode cX10_tellHulls 73 = .ok (.if_icmp .ge 35, 3) := by decide +kernel
theorem dX10_tellHulls_76 : decode cX10_tellHulls 76 = .ok (.aload_n 0, 1) := by decide +kernel
theorem dX10_tellHulls_77 : decode cX10_tellHulls 77 = .ok (.getfield 47, 3) := by decide +kernel
theorem dX10_tellHulls_80 : decode cX10_tellHulls 80 = .ok (.iload_n 3, 1) := by decide +kernel
theorem dX10_tellHulls_81 : decode cX10_tellHulls 81 = .ok (.aload_n 0, 1) := by decide +kernel
theorem dX10_tellHulls_82 : decode cX10_tellHulls 82 = .ok (.getfield 44, 3) := by decide +kernel
theorem dX10_tellHulls_85 : decode cX10_tellHulls 85 = .ok (.iload_n 3, 1) := by decide +kernel
theorem dX10_tellHulls_86 : decode cX10_tellHulls 86 = .ok (.iaload, 1) := by decide +kernel
theorem dX10_tellHulls_87 : decode cX10_tellHulls 87 = .ok (.iconst (-1), 1) := by decide +kernel
theorem dX10_tellHulls_88 : decode cX10_tellHulls 88 = .ok (.if_icmp .ne 12, 3) := by decide +kernel
theorem dX10_tellHulls_91 : decode cX10_tellHulls 91 = .ok (.iload_n 2, 1) := by decide +kernel
theorem dX10_tellHulls_92 : decode cX10_tellHulls 92 = .ok (.iconst 1, 1) := by decide +kernel
theorem dX10_tellHulls_93 : decode cX10_tellHulls 93 = .ok (.if_icmp .ne 7, 3) := by decide +kernel
theorem dX10_tellHulls_96 : decode cX10_tellHulls 96 = .ok (.iconst 1, 1) := by decide +kernel
theorem dX10_tellHulls_97 : decode cX10_tellHulls 97 = .ok (.goto 4, 3) := by decide +kernel
theorem dX10_tellHulls_100 : decode cX10_tellHulls 100 = .ok (.iconst 0, 1) := by decide +kernel
theorem dX10_tellHulls_101 : decode cX10_tellHulls 101 = .ok (.bastore, 1) := by decide +kernel
theorem dX10_tellHulls_102 : decode cX10_tellHulls 102 = .ok (.iinc 3 1, 3) := by decide +kernel
theorem dX10_tellHulls_105 : decode cX10_tellHulls 105 = .ok (.goto (-37), 3) := by decide +kernel
theorem dX10_tellHulls_108 : decode cX10_tellHulls 108 = .ok (.iconst 0, 1) := by decide +kernel
theorem dX10_tellHulls_109 : decode cX10_tellHulls 109 = .ok (.istore_n 3, 1) := by decide +kernel
theorem dX10_tellHulls_110 : decode cX10_tellHulls 110 = .ok (.iload_n 3, 1) := by decide +kernel
theorem dX10_tellHulls_111 : decode cX10_tellHulls 111 = .ok (.aload_n 0, 1) := by decide +kernel
theorem dX10_tellHulls_112 : decode cX10_tellHulls 112 = .ok (.getfield 221, 3) := by decide +kernel
theorem dX10_tellHulls_115 : decode cX10_tellHulls 115 = .ok (.if_icmp .ge 162, 3) := by decide +kernel
theorem dX10_tellHulls_118 : decode cX10_tellHulls 118 = .ok (.iconst 0, 1) := by decide +kernel
theorem dX10_tellHulls_119 : decode cX10_tellHulls 119 = .ok (.istore 4, 2) := by decide +kernel
theorem dX10_tellHulls_121 : decode cX10_tellHulls 121 = .ok (.iload 4, 2) := by decide +kernel
theorem dX10_tellHulls_123 : decode cX10_tellHulls 123 = .ok (.iload_n 3, 1) := by decide +kernel
theorem dX10_tellHulls_124 : decode cX10_tellHulls 124 = .ok (.if_icmp .ge 147, 3) := by decide +kernel
theorem dX10_tellHulls_127 : decode cX10_tellHulls 127 = .ok (.aload_n 0, 1) := by decide +kernel
theorem dX10_tellHulls_128 : decode cX10_tellHulls 128 = .ok (.getfield 44, 3) := by decide +kernel
theorem dX10_tellHulls_131 : decode cX10_tellHulls 131 = .ok (.iload_n 3, 1) := by decide +kernel
theorem dX10_tellHulls_132 : decode cX10_tellHulls 132 = .ok (.iaload, 1) := by decide +kernel
theorem dX10_tellHulls_133 : decode cX10_tellHulls 133 = .ok (.iconst (-1), 1) := by decide +kernel
theorem dX10_tellHulls_134 : decode cX10_tellHulls 134 = .ok (.if_icmp .ne 131, 3) := by decide +kernel
theorem dX10_tellHulls_137 : decode cX10_tellHulls 137 = .ok (.aload_n 0, 1) := by decide +kernel
theorem dX10_tellHulls_138 : decode cX10_tellHulls 138 = .ok (.getfield 44, 3) := by decide +kernel
theorem dX10_tellHulls_141 : decode cX10_tellHulls 141 = .ok (.iload 4, 2) := by decide +kernel
theorem dX10_tellHulls_143 : decode cX10_tellHulls 143 = .ok (.iaload, 1) := by decide +kernel
theorem dX10_tellHulls_144 : decode cX10_tellHulls 144 = .ok (.iconst (-1), 1) := by decide +kernel
theorem dX10_tellHulls_145 : decode cX10_tellHulls 145 = .ok (.if_icmp .ne 120, 3) := by decide +kernel
theorem dX10_tellHulls_148 : decode cX10_tellHulls 148 = .ok (.aload_n 0, 1) := by decide +kernel
theorem dX10_tellHulls_149 : decode cX10_tellHulls 149 = .ok (.iload_n 3, 1) := by decide +kernel
theorem dX10_tellHulls_150 : decode cX10_tellHulls 150 = .ok (.iload 4, 2) := by decide +kernel
theorem dX10_tellHulls_152 : decode cX10_tellHulls 152 = .ok (.invokevirtual 227, 3) := by decide +kernel
theorem dX10_tellHulls_155 : decode cX10_tellHulls 155 = .ok (.ifCond .eq 110, 3) := by decide +kernel
theorem dX10_tellHulls_158 : decode cX10_tellHulls 158 = .ok (.iconst 0, 1) := by decide +kernel
theorem dX10_tellHulls_159 : decode cX10_tellHulls 159 = .ok (.istore 5, 2) := by decide +kernel
theorem dX10_tellHulls_161 : decode cX10_tellHulls 161 = .ok (.iload 5, 2) := by decide +kernel
theorem dX10_tellHulls_163 : decode cX10_tellHulls 163 = .ok (.aload_n 0, 1) := by decide +kernel
theorem dX10_tellHulls_164 : decode cX10_tellHulls 164 = .ok (.getfield 221, 3) := by decide +kernel
theorem dX10_tellHulls_167 : decode cX10_tellHulls 167 = .ok (.if_icmp .ge 98, 3) := by decide +kernel
theorem dX10_tellHulls_170 : decode cX10_tellHulls 170 = .ok (.aload_n 0, 1) := by decide +kernel
theorem dX10_tellHulls_171 : decode cX10_tellHulls 171 = .ok (.getfield 47, 3) := by decide +kernel
theorem dX10_tellHulls_174 : decode cX10_tellHulls 174 = .ok (.iload 5, 2) := by decide +kernel
theorem dX10_tellHulls_176 : decode cX10_tellHulls 176 = .ok (.dup2, 1) := by decide +kernel
theorem dX10_tellHulls_177 : decode cX10_tellHulls 177 = .ok (.baload, 1) := by decide +kernel
theorem dX10_tellHulls_178 : decode cX10_tellHulls 178 = .ok (.aload_n 0, 1) := by decide +kernel
theorem dX10_tellHulls_179 : decode cX10_tellHulls 179 = .ok (.getfield 44, 3) := by decide +kernel
theorem dX10_tellHulls_182 : decode cX10_tellHulls 182 = .ok (.iload 5, 2) := by decide +kernel
theorem dX10_tellHulls_184 : decode cX10_tellHulls 184 = .ok (.iaload, 1) := by decide +kernel
theorem dX10_tellHulls_185 : decode cX10_tellHulls 185 = .ok (.iconst (-1), 1) := by decide +kernel
theorem dX10_tellHulls_186 : decode cX10_tellHulls 186 = .ok (.if_icmp .ne 70, 3) := by decide +kernel
theorem dX10_tellHulls_189 : decode cX10_tellHulls 189 = .ok (.aload_n 0, 1) := by decide +kernel
theorem dX10_tellHulls_190 : decode cX10_tellHulls 190 = .ok (.aload_n 0, 1) := by decide +kernel
theorem dX10_tellHulls_191 : decode cX10_tellHulls 191 = .ok (.getfield 38, 3) := by decide +kernel
theorem dX10_tellHulls_194 : decode cX10_tellHulls 194 = .ok (.iload 4, 2) := by decide +kernel
theorem dX10_tellHulls_196 : decode cX10_tellHulls 196 = .ok (.iaload, 1) := by decide +kernel
theorem dX10_tellHulls_197 : decode cX10_tellHulls 197 = .ok (.aload_n 0, 1) := by decide +kernel
theorem dX10_tellHulls_198 : decode cX10_tellHulls 198 = .ok (.getfield 38, 3) := by decide +kernel
theorem dX10_tellHulls_201 : decode cX10_tellHulls 201 = .ok (.iload_n 3, 1) := by decide +kernel
theorem dX10_tellHulls_202 : decode cX10_tellHulls 202 = .ok (.iaload, 1) := by decide +kernel
theorem dX10_tellHulls_203 : decode cX10_tellHulls 203 = .ok (.isub, 1) := by decide +kernel
theorem dX10_tellHulls_204 : decode cX10_tellHulls 204 = .ok (.aload_n 0, 1) := by decide +kernel
theorem dX10_tellHulls_205 : decode cX10_tellHulls 205 = .ok (.getfield 41, 3) := by decide +kernel
theorem dX10_tellHulls_208 : decode cX10_tellHulls 208 = .ok (.iload 4, 2) := by decide +kernel
theorem dX10_tellHulls_210 : decode cX10_tellHulls 210 = .ok (.iaload, 1) := by decide +kernel
theorem dX10_tellHulls_211 : decode cX10_tellHulls 211 = .ok (.aload_n 0, 1) := by decide +kernel
theorem dX10_tellHulls_212 : decode cX10_tellHulls 212 = .ok (.getfield 41, 3) := by decide +kernel
theorem dX10_tellHulls_215 : decode cX10_tellHulls 215 = .ok (.iload_n 3, 1) := by decide +kernel
theorem dX10_tellHulls_216 : decode cX10_tellHulls 216 = .ok (.iaload, 1) := by decide +kernel
theorem dX10_tellHulls_217 : decode cX10_tellHulls 217 = .ok (.isub, 1) := by decide +kernel
theorem dX10_tellHulls_218 : decode cX10_tellHulls 218 = .ok (.aload_n 0, 1) := by decide +kernel
theorem dX10_tellHulls_219 : decode cX10_tellHulls 219 = .ok (.getfield 38, 3) := by decide +kernel
theorem dX10_tellHulls_222 : decode cX10_tellHulls 222 = .ok (.iload 5, 2) := by decide +kernel
theorem dX10_tellHulls_224 : decode cX10_tellHulls 224 = .ok (.iaload, 1) := by decide +kernel
theorem dX10_tellHulls_225 : decode cX10_tellHulls 225 = .ok (.aload_n 0, 1) := by decide +kernel
theorem dX10_tellHulls_226 : decode cX10_tellHulls 226 = .ok (.getfield 38, 3) := by decide +kernel
theorem dX10_tellHulls_229 : decode cX10_tellHulls 229 = .ok (.iload_n 3, 1) := by decide +kernel
theorem dX10_tellHulls_230 : decode cX10_tellHulls 230 = .ok (.iaload, 1) := by decide +kernel
theorem dX10_tellHulls_231 : decode cX10_tellHulls 231 = .ok (.isub, 1) := by decide +kernel
theorem dX10_tellHulls_232 : decode cX10_tellHulls 232 = .ok (.aload_n 0, 1) := by decide +kernel
theorem dX10_tellHulls_233 : decode cX10_tellHulls 233 = .ok (.getfield 41, 3) := by decide +kernel
theorem dX10_tellHulls_236 : decode cX10_tellHulls 236 = .ok (.iload 5, 2) := by decide +kernel
theorem dX10_tellHulls_238 : decode cX10_tellHulls 238 = .ok (.iaload, 1) := by decide +kernel
theorem dX10_tellHulls_239 : decode cX10_tellHulls 239 = .ok (.aload_n 0, 1) := by decide +kernel
theorem dX10_tellHulls_240 : decode cX10_tellHulls 240 = .ok (.getfield 41, 3) := by decide +kernel
theorem dX10_tellHulls_243 : decode cX10_tellHulls 243 = .ok (.iload_n 3, 1) := by decide +kernel
theorem dX10_tellHulls_244 : decode cX10_tellHulls 244 = .ok (.iaload, 1) := by decide +kernel
theorem dX10_tellHulls_245 : decode cX10_tellHulls 245 = .ok (.isub, 1) := by decide +kernel
theorem dX10_tellHulls_246 : decode cX10_tellHulls 246 = .ok (.invokevirtual 153, 3) := by decide +kernel
theorem dX10_tellHulls_249 : decode cX10_tellHulls 249 = .ok (.ifCond .ne 7, 3) := by decide +kernel
theorem dX10_tellHulls_252 : decode cX10_tellHulls 252 = .ok (.iconst 1, 1) := by decide +kernel
theorem dX10_tellHulls_253 : decode cX10_tellHulls 253 = .ok (.goto 4, 3) := by decide +kernel
theorem dX10_tellHulls_256 : decode cX10_tellHulls 256 = .ok (.iconst 0, 1) := by decide +kernel
theorem dX10_tellHulls_257 : decode cX10_tellHulls 257 = .ok (.ior, 1) := by decide +kernel
theorem dX10_tellHulls_258 : decode cX10_tellHulls 258 = .ok (.bastore, 1) := by decide +kernel
theorem dX10_tellHulls_259 : decode cX10_tellHulls 259 = .ok (.iinc 5 1, 3) := by decide +kernel
theorem dX10_tellHulls_262 : decode cX10_tellHulls 262 = .ok (.goto (-101), 3) := by decide +kernel
theorem dX10_tellHulls_265 : decode cX10_tellHulls 265 = .ok (.iinc 4 1, 3) := by decide +kernel
theorem dX10_tellHulls_268 : decode cX10_tellHulls 268 = .ok (.goto (-147), 3) := by decide +kernel
theorem dX10_tellHulls_271 : decode cX10_tellHulls 271 = .ok (.iinc 3 1, 3) := by decide +kernel
theorem dX10_tellHulls_274 : decode cX10_tellHulls 274 = .ok (.goto (-164), 3) := by decide +kernel
theorem dX10_tellHulls_277 : decode cX10_tellHulls 277 = .ok (.iconst 0, 1) := by decide +kernel
theorem dX10_tellHulls_278 : decode cX10_tellHulls 278 = .ok (.istore_n 3, 1) := by decide +kernel
theorem dX10_tellHulls_279 : decode cX10_tellHulls 279 = .ok (.iload_n 3, 1) := by decide +kernel
theorem dX10_tellHulls_280 : decode cX10_tellHulls 280 = .ok (.aload_n 0, 1) := by decide +kernel
theorem dX10_tellHulls_281 : decode cX10_tellHulls 281 = .ok (.getfield 221, 3) := by decide +kernel
theorem dX10_tellHulls_284 : decode cX10_tellHulls 284 = .ok (.if_icmp .ge 31, 3) := by decide +kernel
theorem dX10_tellHulls_287 : decode cX10_tellHulls 287 = .ok (.aload_n 0, 1) := by decide +kernel
theorem dX10_tellHulls_288 : decode cX10_tellHulls 288 = .ok (.getfield 47, 3) := by decide +kernel
theorem dX10_tellHulls_291 : decode cX10_tellHulls 291 = .ok (.iload_n 3, 1) := by decide +kernel
theorem dX10_tellHulls_292 : decode cX10_tellHulls 292 = .ok (.baload, 1) := by decide +kernel
theorem dX10_tellHulls_293 : decode cX10_tellHulls 293 = .ok (.ifCond .ne 6, 3) := by decide +kernel
theorem dX10_tellHulls_296 : decode cX10_tellHulls 296 = .ok (.goto 13, 3) := by decide +kernel
theorem dX10_tellHulls_299 : decode cX10_tellHulls 299 = .ok (.aload_n 0, 1) := by decide +kernel
theorem dX10_tellHulls_300 : decode cX10_tellHulls 300 = .ok (.getfield 44, 3) := by decide +kernel
theorem dX10_tellHulls_303 : decode cX10_tellHulls 303 = .ok (.iload_n 3, 1) := by decide +kernel
theorem dX10_tellHulls_304 : decode cX10_tellHulls 304 = .ok (.iload_n 1, 1) := by decide +kernel
theorem dX10_tellHulls_305 : decode cX10_tellHulls 305 = .ok (.iastore, 1) := by decide +kernel
theorem dX10_tellHulls_306 : decode cX10_tellHulls 306 = .ok (.iinc 2 (-1), 3) := by decide +kernel
theorem dX10_tellHulls_309 : decode cX10_tellHulls 309 = .ok (.iinc 3 1, 3) := by decide +kernel
theorem dX10_tellHulls_312 : decode cX10_tellHulls 312 = .ok (.goto (-33), 3) := by decide +kernel
theorem dX10_tellHulls_315 : decode cX10_tellHulls 315 = .ok (.iinc 1 1, 3) := by decide +kernel
theorem dX10_tellHulls_318 : decode cX10_tellHulls 318 = .ok (.goto (-256), 3) := by decide +kernel
theorem dX10_tellHulls_321 : decode cX10_tellHulls 321 = .ok (.iload_n 1, 1) := by decide +kernel
theorem dX10_tellHulls_322 : decode cX10_tellHulls 322 = .ok (.ireturn, 1) := by decide +kernel
theorem dX10_told_0 : decode cX10_told 0 = .ok (.aload_n 0, 1) := by decide +kernel
theorem dX10_told_1 : decode cX10_told 1 = .ok (.iload_n 1, 1) := by decide +kernel
theorem dX10_told_2 : decode cX10_told 2 = .ok (.invokevirtual 129, 3) := by decide +kernel
theorem dX10_told_5 : decode cX10_told 5 = .ok (.ifCond .eq 13, 3) := by decide +kernel
theorem dX10_told_8 : decode cX10_told 8 = .ok (.iload_n 2, 1) := by decide +kernel
theorem dX10_told_9 : decode cX10_told 9 = .ok (.iconst 0, 1) := by decide +kernel
theorem dX10_told_10 : decode cX10_told 10 = .ok (.bipush 7, 2) := by decide +kernel
theorem dX10_told_12 : decode cX10_told 12 = .ok (.invokestatic 113, 3) := by decide +kernel
theorem dX10_told_15 : decode cX10_told 15 = .ok (.ifCond .ne 6, 3) := by decide +kernel
theorem dX10_told_18 : decode cX10_told 18 = .ok (.bipush (-2), 2) := by decide +kernel
theorem dX10_told_20 : decode cX10_told 20 = .ok (.ireturn, 1) := by decide +kernel
theorem dX10_told_21 : decode cX10_told 21 = .ok (.iload_n 2, 1) := by decide +kernel
theorem dX10_told_22 : decode cX10_told 22 = .ok (.iconst 4, 1) := by decide +kernel
theorem dX10_told_23 : decode cX10_told 23 = .ok (.if_icmp .ge 51, 3) := by decide +kernel
theorem dX10_told_26 : decode cX10_told 26 = .ok (.iload_n 2, 1) := by decide +kernel
theorem dX10_told_27 : decode cX10_told 27 = .ok (.ifCond .ne 12, 3) := by decide +kernel
theorem dX10_told_30 : decode cX10_told 30 = .ok (.aload_n 0, 1) := by decide +kernel
theorem dX10_told_31 : decode cX10_told 31 = .ok (.getfield 9, 3) := by decide +kernel
theorem dX10_told_34 : decode cX10_told 34 = .ok (.iload_n 1, 1) := by decide +kernel
theorem dX10_told_35 : decode cX10_told 35 = .ok (.iaload, 1) := by decide +kernel
theorem dX10_told_36 : decode cX10_told 36 = .ok (.goto 37, 3) := by decide +kernel
theorem dX10_told_39 : decode cX10_told 39 = .ok (.iload_n 2, 1) := by decide +kernel
theorem dX10_told_40 : decode cX10_told 40 = .ok (.iconst 1, 1) := by decide +kernel
theorem dX10_told_41 : decode cX10_told 41 = .ok (.if_icmp .ne 12, 3) := by decide +kernel
theorem dX10_told_44 : decode cX10_told 44 = .ok (.aload_n 0, 1) := by decide +kernel
theorem dX10_told_45 : decode cX10_told 45 = .ok (.getfield 13, 3) := by decide +kernel
theorem dX10_told_48 : decode cX10_told 48 = .ok (.iload_n 1, 1) := by decide +kernel
theorem dX10_told_49 : decode cX10_told 49 = .ok (.iaload, 1) := by decide +kernel
theorem dX10_told_50 : decode cX10_told 50 = .ok (.goto 23, 3) := by decide +kernel
theorem dX10_told_53 : decode cX10_told 53 = .ok (.iload_n 2, 1) := by decide +kernel
theorem dX10_told_54 : decode cX10_told 54 = .ok (.iconst 2, 1) := by decide +kernel
theorem dX10_told_55 : decode cX10_told 55 = .ok (.if_icmp .ne 12, 3) := by decide +kernel
theorem dX10_told_58 : decode cX10_told 58 = .ok (.aload_n 0, 1) := by decide +kernel
theorem dX10_told_59 : decode cX10_told 59 = .ok (.getfield 16, 3) := by decide +kernel
theorem dX10_told_62 : decode cX10_told 62 = .ok (.iload_n 1, 1) := by decide +kernel
theorem dX10_told_63 : decode cX10_told 63 = .ok (.iaload, 1) := by decide +kernel
theorem dX10_told_64 : decode cX10_told 64 = .ok (.goto 9, 3) := by decide +kernel
theorem dX10_told_67 : decode cX10_told 67 = .ok (.aload_n 0, 1) := by decide +kernel
theorem dX10_told_68 : decode cX10_told 68 = .ok (.getfield 19, 3) := by decide +kernel
theorem dX10_told_71 : decode cX10_told 71 = .ok (.iload_n 1, 1) := by decide +kernel
theorem dX10_told_72 : decode cX10_told 72 = .ok (.iaload, 1) := by decide +kernel
theorem dX10_told_73 : decode cX10_told 73 = .ok (.ireturn, 1) := by decide +kernel
theorem dX10_told_74 : decode cX10_told 74 = .ok (.iload_n 2, 1) := by decide +kernel
theorem dX10_told_75 : decode cX10_told 75 = .ok (.iconst 4, 1) := by decide +kernel
theorem dX10_told_76 : decode cX10_told 76 = .ok (.if_icmp .ne 17, 3) := by decide +kernel
theorem dX10_told_79 : decode cX10_told 79 = .ok (.aload_n 0, 1) := by decide +kernel
theorem dX10_told_80 : decode cX10_told 80 = .ok (.iload_n 1, 1) := by decide +kernel
theorem dX10_told_81 : decode cX10_told 81 = .ok (.invokevirtual 230, 3) := by decide +kernel
theorem dX10_told_84 : decode cX10_told 84 = .ok (.ifCond .eq 7, 3) := by decide +kernel
theorem dX10_told_87 : decode cX10_told 87 = .ok (.iconst 1, 1) := by decide +kernel
theorem dX10_told_88 : decode cX10_told 88 = .ok (.goto 4, 3) := by decide +kernel
theorem dX10_told_91 : decode cX10_told 91 = .ok (.iconst 0, 1) := by decide +kernel
theorem dX10_told_92 : decode cX10_told 92 = .ok (.ireturn, 1) := by decide +kernel
theorem dX10_told_93 : decode cX10_told 93 = .ok (.iload_n 2, 1) := by decide +kernel
theorem dX10_told_94 : decode cX10_told 94 = .ok (.iconst 5, 1) := by decide +kernel
theorem dX10_told_95 : decode cX10_told 95 = .ok (.if_icmp .ne 13, 3) := by decide +kernel
theorem dX10_told_98 : decode cX10_told 98 = .ok (.aload_n 0, 1) := by decide +kernel
theorem dX10_told_99 : decode cX10_told 99 = .ok (.invokevirtual 211, 3) := by decide +kernel
theorem dX10_told_102 : decode cX10_told 102 = .ok (.aload_n 0, 1) := by decide +kernel
theorem dX10_told_103 : decode cX10_told 103 = .ok (.iload_n 1, 1) := by decide +kernel
theorem dX10_told_104 : decode cX10_told 104 = .ok (.invokevirtual 233, 3) := by decide +kernel
theorem dX10_told_107 : decode cX10_told 107 = .ok (.ireturn, 1) := by decide +kernel
theorem dX10_told_108 : decode cX10_told 108 = .ok (.aload_n 0, 1) := by decide +kernel
theorem dX10_told_109 : decode cX10_told 109 = .ok (.invokevirtual 236, 3) := by decide +kernel
theorem dX10_told_112 : decode cX10_told 112 = .ok (.istore_n 3, 1) := by decide +kernel
theorem dX10_told_113 : decode cX10_told 113 = .ok (.aload_n 0, 1) := by decide +kernel
theorem dX10_told_114 : decode cX10_told 114 = .ok (.getfield 44, 3) := by decide +kernel
theorem dX10_told_117 : decode cX10_told 117 = .ok (.iload_n 2, 1) := by decide +kernel
theorem dX10_told_118 : decode cX10_told 118 = .ok (.bipush 6, 2) := by decide +kernel
theorem dX10_told_120 : decode cX10_told 120 = .ok (.if_icmp .ne 22, 3) := by decide +kernel
theorem dX10_told_123 : decode cX10_told 123 = .ok (.aload_n 0, 1) := by decide +kernel
theorem dX10_told_124 : decode cX10_told 124 = .ok (.aload_n 0, 1) := by decide +kernel
theorem dX10_told_125 : decode cX10_told 125 = .ok (.getfield 9, 3) := by decide +kernel
theorem dX10_told_128 : decode cX10_told 128 = .ok (.iload_n 1, 1) := by decide +kernel
theorem dX10_told_129 : decode cX10_told 129 = .ok (.iaload, 1) := by decide +kernel
theorem dX10_told_130 : decode cX10_told 130 = .ok (.aload_n 0, 1) := by decide +kernel
theorem dX10_told_131 : decode cX10_told 131 = .ok (.getfield 13, 3) := by decide +kernel
theorem dX10_told_134 : decode cX10_told 134 = .ok (.iload_n 1, 1) := by decide +kernel
theorem dX10_told_135 : decode cX10_told 135 = .ok (.iaload, 1) := by decide +kernel
theorem dX10_told_136 : decode cX10_told 136 = .ok (.invokevirtual 224, 3) := by decide +kernel
theorem dX10_told_139 : decode cX10_told 139 = .ok (.goto 19, 3) := by decide +kernel
theorem dX10_told_142 : decode cX10_told 142 = .ok (.aload_n 0, 1) := by decide +kernel
theorem dX10_told_143 : decode cX10_told 143 = .ok (.aload_n 0, 1) := by decide +kernel
theorem dX10_told_144 : decode cX10_told 144 = .ok (.getfield 16, 3) := by decide +kernel
theorem dX10_told_147 : decode cX10_told 147 = .ok (.iload_n 1, 1) := by decide +kernel
theorem dX10_told_148 : decode cX10_told 148 = .ok (.iaload, 1) := by decide +kernel
theorem dX10_told_149 : decode cX10_told 149 = .ok (.aload_n 0, 1) := by decide +kernel
theorem dX10_told_150 : decode cX10_told 150 = .ok (.getfield 19, 3) := by decide +kernel
theorem dX10_told_153 : decode cX10_told 153 = .ok (.iload_n 1, 1) := by decide +kernel
theorem dX10_told_154 : decode cX10_told 154 = .ok (.iaload, 1) := by decide +kernel
theorem dX10_told_155 : decode cX10_told 155 = .ok (.invokevirtual 224, 3) := by decide +kernel
theorem dX10_told_158 : decode cX10_told 158 = .ok (.iaload, 1) := by decide +kernel
theorem dX10_told_159 : decode cX10_told 159 = .ok (.ireturn, 1) := by decide +kernel
theorem dX10_taken_0 : decode cX10_taken 0 = .ok (.aload_n 0, 1) := by decide +kernel
theorem dX10_taken_1 : decode cX10_taken 1 = .ok (.iload_n 1, 1) := by decide +kernel
theorem dX10_taken_2 : decode cX10_taken 2 = .ok (.invokevirtual 129, 3) := by decide +kernel
theorem dX10_taken_5 : decode cX10_taken 5 = .ok (.ifCond .eq 12, 3) := by decide +kernel
theorem dX10_taken_8 : decode cX10_taken 8 = .ok (.iload_n 2, 1) := by decide +kernel
theorem dX10_taken_9 : decode cX10_taken 9 = .ok (.iconst 0, 1) := by decide +kernel
theorem dX10_taken_10 : decode cX10_taken 10 = .ok (.iconst 2, 1) := by decide +kernel
theorem dX10_taken_11 : decode cX10_taken 11 = .ok (.invokestatic 113, 3) := by decide +kernel
theorem dX10_taken_14 : decode cX10_taken 14 = .ok (.ifCond .ne 6, 3) := by decide +kernel
theorem dX10_taken_17 : decode cX10_taken 17 = .ok (.bipush (-2), 2) := by decide +kernel
theorem dX10_taken_19 : decode cX10_taken 19 = .ok (.ireturn, 1) := by decide +kernel
theorem dX10_taken_20 : decode cX10_taken 20 = .ok (.iload_n 2, 1) := by decide +kernel
theorem dX10_taken_21 : decode cX10_taken 21 = .ok (.ifCond .ne 11, 3) := by decide +kernel
theorem dX10_taken_24 : decode cX10_taken 24 = .ok (.aload_n 0, 1) := by decide +kernel
theorem dX10_taken_25 : decode cX10_taken 25 = .ok (.iload_n 1, 1) := by decide +kernel
theorem dX10_taken_26 : decode cX10_taken 26 = .ok (.invokevirtual 230, 3) := by decide +kernel
theorem dX10_taken_29 : decode cX10_taken 29 = .ok (.goto 36, 3) := by decide +kernel
theorem dX10_taken_32 : decode cX10_taken 32 = .ok (.aload_n 0, 1) := by decide +kernel
theorem dX10_taken_33 : decode cX10_taken 33 = .ok (.iload_n 1, 1) := by decide +kernel
theorem dX10_taken_34 : decode cX10_taken 34 = .ok (.invokevirtual 230, 3) := by decide +kernel
theorem dX10_taken_37 : decode cX10_taken 37 = .ok (.ifCond .ne 27, 3) := by decide +kernel
theorem dX10_taken_40 : decode cX10_taken 40 = .ok (.iload_n 2, 1) := by decide +kernel
theorem dX10_taken_41 : decode cX10_taken 41 = .ok (.iconst 1, 1) := by decide +kernel
theorem dX10_taken_42 : decode cX10_taken 42 = .ok (.if_icmp .eq 18, 3) := by decide +kernel
theorem dX10_taken_45 : decode cX10_taken 45 = .ok (.aload_n 0, 1) := by decide +kernel
theorem dX10_taken_46 : decode cX10_taken 46 = .ok (.getfield 13, 3) := by decide +kernel
theorem dX10_taken_49 : decode cX10_taken 49 = .ok (.iload_n 1, 1) := by decide +kernel
theorem dX10_taken_50 : decode cX10_taken 50 = .ok (.iaload, 1) := by decide +kernel
theorem dX10_taken_51 : decode cX10_taken 51 = .ok (.aload_n 0, 1) := by decide +kernel
theorem dX10_taken_52 : decode cX10_taken 52 = .ok (.getfield 19, 3) := by decide +kernel
theorem dX10_taken_55 : decode cX10_taken 55 = .ok (.iload_n 1, 1) := by decide +kernel
theorem dX10_taken_56 : decode cX10_taken 56 = .ok (.iaload, 1) := by decide +kernel
theorem dX10_taken_57 : decode cX10_taken 57 = .ok (.if_icmp .ne 7, 3) := by decide +kernel
theorem dX10_taken_60 : decode cX10_taken 60 = .ok (.iconst 1, 1) := by decide +kernel
theorem dX10_taken_61 : decode cX10_taken 61 = .ok (.goto 4, 3) := by decide +kernel
theorem dX10_taken_64 : decode cX10_taken 64 = .ok (.iconst 0, 1) := by decide +kernel
theorem dX10_taken_65 : decode cX10_taken 65 = .ok (.istore_n 3, 1) := by decide +kernel
theorem dX10_taken_66 : decode cX10_taken 66 = .ok (.iload_n 3, 1) := by decide +kernel
theorem dX10_taken_67 : decode cX10_taken 67 = .ok (.ifCond .eq 7, 3) := by decide +kernel
theorem dX10_taken_70 : decode cX10_taken 70 = .ok (.iload_n 1, 1) := by decide +kernel
theorem dX10_taken_71 : decode cX10_taken 71 = .ok (.goto 5, 3) := by decide +kernel
theorem dX10_taken_74 : decode cX10_taken 74 = .ok (.bipush (-13), 2) := by decide +kernel
theorem dX10_taken_76 : decode cX10_taken 76 = .ok (.ireturn, 1) := by decide +kernel
theorem dX10_yAbove_0 : decode cX10_yAbove 0 = .ok (.aload_n 0, 1) := by decide +kernel
theorem dX10_yAbove_1 : decode cX10_yAbove 1 = .ok (.getfield 16, 3) := by decide +kernel
theorem dX10_yAbove_4 : decode cX10_yAbove 4 = .ok (.iload_n 1, 1) := by decide +kernel
theorem dX10_yAbove_5 : decode cX10_yAbove 5 = .ok (.iaload, 1) := by decide +kernel
theorem dX10_yAbove_6 : decode cX10_yAbove 6 = .ok (.aload_n 0, 1) := by decide +kernel
theorem dX10_yAbove_7 : decode cX10_yAbove 7 = .ok (.getfield 9, 3) := by decide +kernel
theorem dX10_yAbove_10 : decode cX10_yAbove 10 = .ok (.iload_n 1, 1) := by decide +kernel
theorem dX10_yAbove_11 : decode cX10_yAbove 11 = .ok (.iaload, 1) := by decide +kernel
theorem dX10_yAbove_12 : decode cX10_yAbove 12 = .ok (.isub, 1) := by decide +kernel
theorem dX10_yAbove_13 : decode cX10_yAbove 13 = .ok (.i2l, 1) := by decide +kernel
theorem dX10_yAbove_14 : decode cX10_yAbove 14 = .ok (.lstore 6, 2) := by decide +kernel
theorem dX10_yAbove_16 : decode cX10_yAbove 16 = .ok (.aload_n 0, 1) := by decide +kernel
theorem dX10_yAbove_17 : decode cX10_yAbove 17 = .ok (.getfield 13, 3) := by decide +kernel
theorem dX10_yAbove_20 : decode cX10_yAbove 20 = .ok (.iload_n 1, 1) := by decide +kernel
theorem dX10_yAbove_21 : decode cX10_yAbove 21 = .ok (.iaload, 1) := by decide +kernel
theorem dX10_yAbove_22 : decode cX10_yAbove 22 = .ok (.i2l, 1) := by decide +kernel
theorem dX10_yAbove_23 : decode cX10_yAbove 23 = .ok (.lload 6, 2) := by decide +kernel
theorem dX10_yAbove_25 : decode cX10_yAbove 25 = .ok (.lmul, 1) := by decide +kernel
theorem dX10_yAbove_26 : decode cX10_yAbove 26 = .ok (.lload 4, 2) := by decide +kernel
theorem dX10_yAbove_28 : decode cX10_yAbove 28 = .ok (.lmul, 1) := by decide +kernel
theorem dX10_yAbove_29 : decode cX10_yAbove 29 = .ok (.lload_n 2, 1) := by decide +kernel
theorem dX10_yAbove_30 : decode cX10_yAbove 30 = .ok (.aload_n 0, 1) := by decide +kernel
theorem dX10_yAbove_31 : decode cX10_yAbove 31 = .ok (.getfield 9, 3) := by decide +kernel
theorem dX10_yAbove_34 : decode cX10_yAbove 34 = .ok (.iload_n 1, 1) := by decide +kernel
theorem dX10_yAbove_35 : decode cX10_yAbove 35 = .ok (.iaload, 1) := by decide +kernel
theorem dX10_yAbove_36 : decode cX10_yAbove 36 = .ok (.i2l, 1) := by decide +kernel
theorem dX10_yAbove_37 : decode cX10_yAbove 37 = .ok (.lload 4, 2) := by decide +kernel
theorem dX10_yAbove_39 : decode cX10_yAbove 39 = .ok (.lmul, 1) := by decide +kernel
theorem dX10_yAbove_40 : decode cX10_yAbove 40 = .ok (.lsub, 1) := by decide +kernel
theorem dX10_yAbove_41 : decode cX10_yAbove 41 = .ok (.aload_n 0, 1) := by decide +kernel
theorem dX10_yAbove_42 : decode cX10_yAbove 42 = .ok (.getfield 19, 3) := by decide +kernel
theorem dX10_yAbove_45 : decode cX10_yAbove 45 = .ok (.iload_n 1, 1) := by decide +kernel
theorem dX10_yAbove_46 : decode cX10_yAbove 46 = .ok (.iaload, 1) := by decide +kernel
theorem dX10_yAbove_47 : decode cX10_yAbove 47 = .ok (.aload_n 0, 1) := by decide +kernel
theorem dX10_yAbove_48 : decode cX10_yAbove 48 = .ok (.getfield 13, 3) := by decide +kernel
theorem dX10_yAbove_51 : decode cX10_yAbove 51 = .ok (.iload_n 1, 1) := by decide +kernel
theorem dX10_yAbove_52 : decode cX10_yAbove 52 = .ok (.iaload, 1) := by decide +kernel
theorem dX10_yAbove_53 : decode cX10_yAbove 53 = .ok (.isub, 1) := by decide +kernel
theorem dX10_yAbove_54 : decode cX10_yAbove 54 = .ok (.i2l, 1) := by decide +kernel
theorem dX10_yAbove_55 : decode cX10_yAbove 55 = .ok (.lmul, 1) := by decide +kernel
theorem dX10_yAbove_56 : decode cX10_yAbove 56 = .ok (.ladd, 1) := by decide +kernel
theorem dX10_yAbove_57 : decode cX10_yAbove 57 = .ok (.lreturn, 1) := by decide +kernel
theorem dX10_yBelow_0 : decode cX10_yBelow 0 = .ok (.aload_n 0, 1) := by decide +kernel
theorem dX10_yBelow_1 : decode cX10_yBelow 1 = .ok (.getfield 16, 3) := by decide +kernel
theorem dX10_yBelow_4 : decode cX10_yBelow 4 = .ok (.iload_n 1, 1) := by decide +kernel
theorem dX10_yBelow_5 : decode cX10_yBelow 5 = .ok (.iaload, 1) := by decide +kernel
theorem dX10_yBelow_6 : decode cX10_yBelow 6 = .ok (.aload_n 0, 1) := by decide +kernel
theorem dX10_yBelow_7 : decode cX10_yBelow 7 = .ok (.getfield 9, 3) := by decide +kernel
theorem dX10_yBelow_10 : decode cX10_yBelow 10 = .ok (.iload_n 1, 1) := by decide +kernel
theorem dX10_yBelow_11 : decode cX10_yBelow 11 = .ok (.iaload, 1) := by decide +kernel
theorem dX10_yBelow_12 : decode cX10_yBelow 12 = .ok (.isub, 1) := by decide +kernel
theorem dX10_yBelow_13 : decode cX10_yBelow 13 = .ok (.i2l, 1) := by decide +kernel
theorem dX10_yBelow_14 : decode cX10_yBelow 14 = .ok (.lload_n 2, 1) := by decide +kernel
theorem dX10_yBelow_15 : decode cX10_yBelow 15 = .ok (.lmul, 1) := by decide +kernel
theorem dX10_yBelow_16 : decode cX10_yBelow 16 = .ok (.lreturn, 1) := by decide +kernel
theorem dX10_isThere_0 : decode cX10_isThere 0 = .ok (.aload_n 0, 1) := by decide +kernel
theorem dX10_isThere_1 : decode cX10_isThere 1 = .ok (.iload_n 1, 1) := by decide +kernel
theorem dX10_isThere_2 : decode cX10_isThere 2 = .ok (.invokevirtual 230, 3) := by decide +kernel
theorem dX10_isThere_5 : decode cX10_isThere 5 = .ok (.ifCond .ne 37, 3) := by decide +kernel
theorem dX10_isThere_8 : decode cX10_isThere 8 = .ok (.aload_n 0, 1) := by decide +kernel
theorem dX10_isThere_9 : decode cX10_isThere 9 = .ok (.getfield 9, 3) := by decide +kernel
theorem dX10_isThere_12 : decode cX10_isThere 12 = .ok (.iload_n 1, 1) := by decide +kernel
theorem dX10_isThere_13 : decode cX10_isThere 13 = .ok (.iaload, 1) := by decide +kernel
theorem dX10_isThere_14 : decode cX10_isThere 14 = .ok (.i2l, 1) := by decide +kernel
theorem dX10_isThere_15 : decode cX10_isThere 15 = .ok (.lload 4, 2) := by decide +kernel
theorem dX10_isThere_17 : decode cX10_isThere 17 = .ok (.lmul, 1) := by decide +kernel
theorem dX10_isThere_18 : decode cX10_isThere 18 = .ok (.lload_n 2, 1) := by decide +kernel
theorem dX10_isThere_19 : decode cX10_isThere 19 = .ok (.lcmp, 1) := by decide +kernel
theorem dX10_isThere_20 : decode cX10_isThere 20 = .ok (.ifCond .gt 22, 3) := by decide +kernel
theorem dX10_isThere_23 : decode cX10_isThere 23 = .ok (.lload_n 2, 1) := by decide +kernel
theorem dX10_isThere_24 : decode cX10_isThere 24 = .ok (.aload_n 0, 1) := by decide +kernel
theorem dX10_isThere_25 : decode cX10_isThere 25 = .ok (.getfield 16, 3) := by decide +kernel
theorem dX10_isThere_28 : decode cX10_isThere 28 = .ok (.iload_n 1, 1) := by decide +kernel
theorem dX10_isThere_29 : decode cX10_isThere 29 = .ok (.iaload, 1) := by decide +kernel
theorem dX10_isThere_30 : decode cX10_isThere 30 = .ok (.i2l, 1) := by decide +kernel
theorem dX10_isThere_31 : decode cX10_isThere 31 = .ok (.lload 4, 2) := by decide +kernel
theorem dX10_isThere_33 : decode cX10_isThere 33 = .ok (.lmul, 1) := by decide +kernel
theorem dX10_isThere_34 : decode cX10_isThere 34 = .ok (.lcmp, 1) := by decide +kernel
theorem dX10_isThere_35 : decode cX10_isThere 35 = .ok (.ifCond .gt 7, 3) := by decide +kernel
theorem dX10_isThere_38 : decode cX10_isThere 38 = .ok (.iconst 1, 1) := by decide +kernel
theorem dX10_isThere_39 : decode cX10_isThere 39 = .ok (.goto 4, 3) := by decide +kernel
theorem dX10_isThere_42 : decode cX10_isThere 42 = .ok (.iconst 0, 1) := by decide +kernel
theorem dX10_isThere_43 : decode cX10_isThere 43 = .ok (.ireturn, 1) := by decide +kernel
theorem dX10_isAhead_0 : decode cX10_isAhead 0 = .ok (.aload_n 0, 1) := by decide +kernel
theorem dX10_isAhead_1 : decode cX10_isAhead 1 = .ok (.iload_n 1, 1) := by decide +kernel
theorem dX10_isAhead_2 : decode cX10_isAhead 2 = .ok (.lload_n 3, 1) := by decide +kernel
theorem dX10_isAhead_3 : decode cX10_isAhead 3 = .ok (.lload 5, 2) := by decide +kernel
theorem dX10_isAhead_5 : decode cX10_isAhead 5 = .ok (.invokevirtual 239, 3) := by decide +kernel
theorem dX10_isAhead_8 : decode cX10_isAhead 8 = .ok (.aload_n 0, 1) := by decide +kernel
theorem dX10_isAhead_9 : decode cX10_isAhead 9 = .ok (.iload_n 1, 1) := by decide +kernel
theorem dX10_isAhead_10 : decode cX10_isAhead 10 = .ok (.lload 5, 2) := by decide +kernel
theorem dX10_isAhead_12 : decode cX10_isAhead 12 = .ok (.invokevirtual 243, 3) := by decide +kernel
theorem dX10_isAhead_15 : decode cX10_isAhead 15 = .ok (.aload_n 0, 1) := by decide +kernel
theorem dX10_isAhead_16 : decode cX10_isAhead 16 = .ok (.iload_n 2, 1) := by decide +kernel
theorem dX10_isAhead_17 : decode cX10_isAhead 17 = .ok (.lload_n 3, 1) := by decide +kernel
theorem dX10_isAhead_18 : decode cX10_isAhead 18 = .ok (.lload 5, 2) := by decide +kernel
theorem dX10_isAhead_20 : decode cX10_isAhead 20 = .ok (.invokevirtual 239, 3) := by decide +kernel
theorem dX10_isAhead_23 : decode cX10_isAhead 23 = .ok (.aload_n 0, 1) := by decide +kernel
theorem dX10_isAhead_24 : decode cX10_isAhead 24 = .ok (.iload_n 2, 1) := by decide +kernel
theorem dX10_isAhead_25 : decode cX10_isAhead 25 = .ok (.lload 5, 2) := by decide +kernel
theorem dX10_isAhead_27 : decode cX10_isAhead 27 = .ok (.invokevirtual 243, 3) := by decide +kernel
theorem dX10_isAhead_30 : decode cX10_isAhead 30 = .ok (.invokestatic 172, 3) := by decide +kernel
theorem dX10_isAhead_33 : decode cX10_isAhead 33 = .ok (.istore 7, 2) := by decide +kernel
theorem dX10_isAhead_35 : decode cX10_isAhead 35 = .ok (.iload 7, 2) := by decide +kernel
theorem dX10_isAhead_37 : decode cX10_isAhead 37 = .ok (.ifCond .eq 14, 3) := by decide +kernel
theorem dX10_isAhead_40 : decode cX10_isAhead 40 = .ok (.iload 7, 2) := by decide +kernel
theorem dX10_isAhead_42 : decode cX10_isAhead 42 = .ok (.ifCond .ge 7, 3) := by decide +kernel
theorem dX10_isAhead_45 : decode cX10_isAhead 45 = .ok (.iconst 1, 1) := by decide +kernel
theorem dX10_isAhead_46 : decode cX10_isAhead 46 = .ok (.goto 4, 3) := by decide +kernel
theorem dX10_isAhead_49 : decode cX10_isAhead 49 = .ok (.iconst 0, 1) := by decide +kernel
theorem dX10_isAhead_50 : decode cX10_isAhead 50 = .ok (.ireturn, 1) := by decide +kernel
theorem dX10_isAhead_51 : decode cX10_isAhead 51 = .ok (.aload_n 0, 1) := by decide +kernel
theorem dX10_isAhead_52 : decode cX10_isAhead 52 = .ok (.getfield 19, 3) := by decide +kernel
theorem dX10_isAhead_55 : decode cX10_isAhead 55 = .ok (.iload_n 1, 1) := by decide +kernel
theorem dX10_isAhead_56 : decode cX10_isAhead 56 = .ok (.iaload, 1) := by decide +kernel
theorem dX10_isAhead_57 : decode cX10_isAhead 57 = .ok (.aload_n 0, 1) := by decide +kernel
theorem dX10_isAhead_58 : decode cX10_isAhead 58 = .ok (.getfield 13, 3) := by decide +kernel
theorem dX10_isAhead_61 : decode cX10_isAhead 61 = .ok (.iload_n 1, 1) := by decide +kernel
theorem dX10_isAhead_62 : decode cX10_isAhead 62 = .ok (.iaload, 1) := by decide +kernel
theorem dX10_isAhead_63 : decode cX10_isAhead 63 = .ok (.isub, 1) := by decide +kernel
theorem dX10_isAhead_64 : decode cX10_isAhead 64 = .ok (.i2l, 1) := by decide +kernel
theorem dX10_isAhead_65 : decode cX10_isAhead 65 = .ok (.aload_n 0, 1) := by decide +kernel
theorem dX10_isAhead_66 : decode cX10_isAhead 66 = .ok (.getfield 16, 3) := by decide +kernel
theorem dX10_isAhead_69 : decode cX10_isAhead 69 = .ok (.iload_n 1, 1) := by decide +kernel
theorem dX10_isAhead_70 : decode cX10_isAhead 70 = .ok (.iaload, 1) := by decide +kernel
theorem dX10_isAhead_71 : decode cX10_isAhead 71 = .ok (.aload_n 0, 1) := by decide +kernel
theorem dX10_isAhead_72 : decode cX10_isAhead 72 = .ok (.getfield 9, 3) := by decide +kernel
theorem dX10_isAhead_75 : decode cX10_isAhead 75 = .ok (.iload_n 1, 1) := by decide +kernel
theorem dX10_isAhead_76 : decode cX10_isAhead 76 = .ok (.iaload, 1) := by decide +kernel
theorem dX10_isAhead_77 : decode cX10_isAhead 77 = .ok (.isub, 1) := by decide +kernel
theorem dX10_isAhead_78 : decode cX10_isAhead 78 = .ok (.i2l, 1) := by decide +kernel
theorem dX10_isAhead_79 : decode cX10_isAhead 79 = .ok (.aload_n 0, 1) := by decide +kernel
theorem dX10_isAhead_80 : decode cX10_isAhead 80 = .ok (.getfield 19, 3) := by decide +kernel
theorem dX10_isAhead_83 : decode cX10_isAhead 83 = .ok (.iload_n 2, 1) := by decide +kernel
theorem dX10_isAhead_84 : decode cX10_isAhead 84 = .ok (.iaload, 1) := by decide +kernel
theorem dX10_isAhead_85 : decode cX10_isAhead 85 = .ok (.aload_n 0, 1) := by decide +kernel
theorem dX10_isAhead_86 : decode cX10_isAhead 86 = .ok (.getfield 13, 3) := by decide +kernel
theorem dX10_isAhead_89 : decode cX10_isAhead 89 = .ok (.iload_n 2, 1) := by decide +kernel
theorem dX10_isAhead_90 : decode cX10_isAhead 90 = .ok (.iaload, 1) := by decide +kernel
theorem dX10_isAhead_91 : decode cX10_isAhead 91 = .ok (.isub, 1) := by decide +kernel
theorem dX10_isAhead_92 : decode cX10_isAhead 92 = .ok (.i2l, 1) := by decide +kernel
theorem dX10_isAhead_93 : decode cX10_isAhead 93 = .ok (.aload_n 0, 1) := by decide +kernel
theorem dX10_isAhead_94 : decode cX10_isAhead 94 = .ok (.getfield 16, 3) := by decide +kernel
theorem dX10_isAhead_97 : decode cX10_isAhead 97 = .ok (.iload_n 2, 1) := by decide +kernel
theorem dX10_isAhead_98 : decode cX10_isAhead 98 = .ok (.iaload, 1) := by decide +kernel
theorem dX10_isAhead_99 : decode cX10_isAhead 99 = .ok (.aload_n 0, 1) := by decide +kernel
theorem dX10_isAhead_100 : decode cX10_isAhead 100 = .ok (.getfield 9, 3) := by decide +kernel
theorem dX10_isAhead_103 : decode cX10_isAhead 103 = .ok (.iload_n 2, 1) := by decide +kernel
theorem dX10_isAhead_104 : decode cX10_isAhead 104 = .ok (.iaload, 1) := by decide +kernel
theorem dX10_isAhead_105 : decode cX10_isAhead 105 = .ok (.isub, 1) := by decide +kernel
theorem dX10_isAhead_106 : decode cX10_isAhead 106 = .ok (.i2l, 1) := by decide +kernel
theorem dX10_isAhead_107 : decode cX10_isAhead 107 = .ok (.invokestatic 172, 3) := by decide +kernel
theorem dX10_isAhead_110 : decode cX10_isAhead 110 = .ok (.istore 7, 2) := by decide +kernel
theorem dX10_isAhead_112 : decode cX10_isAhead 112 = .ok (.iload 7, 2) := by decide +kernel
theorem dX10_isAhead_114 : decode cX10_isAhead 114 = .ok (.ifCond .eq 16, 3) := by decide +kernel
theorem dX10_isAhead_117 : decode cX10_isAhead 117 = .ok (.iload 7, 2) := by decide +kernel
theorem dX10_isAhead_119 : decode cX10_isAhead 119 = .ok (.ifCond .ge 7, 3) := by decide +kernel
theorem dX10_isAhead_122 : decode cX10_isAhead 122 = .ok (.iconst 1, 1) := by decide +kernel
theorem dX10_isAhead_123 : decode cX10_isAhead 123 = .ok (.goto 17, 3) := by decide +kernel
theorem dX10_isAhead_126 : decode cX10_isAhead 126 = .ok (.iconst 0, 1) := by decide +kernel
theorem dX10_isAhead_127 : decode cX10_isAhead 127 = .ok (.goto 13, 3) := by decide +kernel
theorem dX10_isAhead_130 : decode cX10_isAhead 130 = .ok (.iload_n 1, 1) := by decide +kernel
theorem dX10_isAhead_131 : decode cX10_isAhead 131 = .ok (.iload_n 2, 1) := by decide +kernel
theorem dX10_isAhead_132 : decode cX10_isAhead 132 = .ok (.if_icmp .ge 7, 3) := by decide +kernel
theorem dX10_isAhead_135 : decode cX10_isAhead 135 = .ok (.iconst 1, 1) := by decide +kernel
theorem dX10_isAhead_136 : decode cX10_isAhead 136 = .ok (.goto 4, 3) := by decide +kernel
theorem dX10_isAhead_139 : decode cX10_isAhead 139 = .ok (.iconst 0, 1) := by decide +kernel
theorem dX10_isAhead_140 : decode cX10_isAhead 140 = .ok (.ireturn, 1) := by decide +kernel
theorem dX10_tellOrder_0 : decode cX10_tellOrder 0 = .ok (.aload_n 0, 1) := by decide +kernel
theorem dX10_tellOrder_1 : decode cX10_tellOrder 1 = .ok (.iconst 0, 1) := by decide +kernel
theorem dX10_tellOrder_2 : decode cX10_tellOrder 2 = .ok (.putfield 247, 3) := by decide +kernel
theorem dX10_tellOrder_5 : decode cX10_tellOrder 5 = .ok (.iconst 0, 1) := by decide +kernel
theorem dX10_tellOrder_6 : decode cX10_tellOrder 6 = .ok (.istore 6, 2) := by decide +kernel
theorem dX10_tellOrder_8 : decode cX10_tellOrder 8 = .ok (.iload 6, 2) := by decide +kernel
theorem dX10_tellOrder_10 : decode cX10_tellOrder 10 = .ok (.aload_n 0, 1) := by decide +kernel
theorem dX10_tellOrder_11 : decode cX10_tellOrder 11 = .ok (.getfield 109, 3) := by decide +kernel
theorem dX10_tellOrder_14 : decode cX10_tellOrder 14 = .ok (.if_icmp .ge 102, 3) := by decide +kernel
theorem dX10_tellOrder_17 : decode cX10_tellOrder 17 = .ok (.iload 6, 2) := by decide +kernel
theorem dX10_tellOrder_19 : decode cX10_tellOrder 19 = .ok (.iload 5, 2) := by decide +kernel
theorem dX10_tellOrder_21 : decode cX10_tellOrder 21 = .ok (.if_icmp .eq 89, 3) := by decide +kernel
theorem dX10_tellOrder_24 : decode cX10_tellOrder 24 = .ok (.aload_n 0, 1) := by decide +kernel
theorem dX10_tellOrder_25 : decode cX10_tellOrder 25 = .ok (.iload 6, 2) := by decide +kernel
theorem dX10_tellOrder_27 : decode cX10_tellOrder 27 = .ok (.lload_n 1, 1) := by decide +kernel
theorem dX10_tellOrder_28 : decode cX10_tellOrder 28 = .ok (.lload_n 3, 1) := by decide +kernel
theorem dX10_tellOrder_29 : decode cX10_tellOrder 29 = .ok (.invokevirtual 250, 3) := by decide +kernel
theorem dX10_tellOrder_32 : decode cX10_tellOrder 32 = .ok (.ifCond .ne 6, 3) := by decide +kernel
theorem dX10_tellOrder_35 : decode cX10_tellOrder 35 = .ok (.goto 75, 3) := by decide +kernel
theorem dX10_tellOrder_38 : decode cX10_tellOrder 38 = .ok (.aload_n 0, 1) := by decide +kernel
theorem dX10_tellOrder_39 : decode cX10_tellOrder 39 = .ok (.getfield 247, 3) := by decide +kernel
theorem dX10_tellOrder_42 : decode cX10_tellOrder 42 = .ok (.istore 7, 2) := by decide +kernel
theorem dX10_tellOrder_44 : decode cX10_tellOrder 44 = .ok (.iload 7, 2) := by decide +kernel
theorem dX10_tellOrder_46 : decode cX10_tellOrder 46 = .ok (.ifCond .le 45, 3) := by decide +kernel
theorem dX10_tellOrder_49 : decode cX10_tellOrder 49 = .ok (.aload_n 0, 1) := by decide +kernel
theorem dX10_tellOrder_50 : decode cX10_tellOrder 50 = .ok (.iload 6, 2) := by decide +kernel
theorem dX10_tellOrder_52 : decode cX10_tellOrder 52 = .ok (.aload_n 0, 1) := by decide +kernel
theorem dX10_tellOrder_53 : decode cX10_tellOrder 53 = .ok (.getfield 51, 3) := by decide +kernel
theorem dX10_tellOrder_56 : decode cX10_tellOrder 56 = .ok (.iload 7, 2) := by decide +kernel
theorem dX10_tellOrder_58 : decode cX10_tellOrder 58 = .ok (.iconst 1, 1) := by decide +kernel
theorem dX10_tellOrder_59 : decode cX10_tellOrder 59 = .ok (.isub, 1) := by decide +kernel
theorem dX10_tellOrder_60 : decode cX10_tellOrder 60 = .ok (.iaload, 1) := by decide +kernel
theorem dX10_tellOrder_61 : decode cX10_tellOrder 61 = .ok (.lload_n 1, 1) := by decide +kernel
theorem dX10_tellOrder_62 : decode cX10_tellOrder 62 = .ok (.lload_n 3, 1) := by decide +kernel
theorem dX10_tellOrder_63 : decode cX10_tellOrder 63 = .ok (.invokevirtual 254, 3) := by decide +kernel
theorem dX10_tellOrder_66 : decode cX10_tellOrder 66 = .ok (.ifCond .eq 25, 3) := by decide +kernel
theorem dX10_tellOrder_69 : decode cX10_tellOrder 69 = .ok (.aload_n 0, 1) := by decide +kernel
theorem dX10_tellOrder_70 : decode cX10_tellOrder 70 = .ok (.getfield 51, 3) := by decide +kernel
theorem dX10_tellOrder_73 : decode cX10_tellOrder 73 = .ok (.iload 7, 2) := by decide +kernel
theorem dX10_tellOrder_75 : decode cX10_tellOrder 75 = .ok (.aload_n 0, 1) := by decide +kernel
theorem dX10_tellOrder_76 : decode cX10_tellOrder 76 = .ok (.getfield 51, 3) := by decide +kernel
theorem dX10_tellOrder_79 : decode cX10_tellOrder 79 = .ok (.iload 7, 2) := by decide +kernel
theorem dX10_tellOrder_81 : decode cX10_tellOrder 81 = .ok (.iconst 1, 1) := by decide +kernel
theorem dX10_tellOrder_82 : decode cX10_tellOrder 82 = .ok (.isub, 1) := by decide +kernel
theorem dX10_tellOrder_83 : decode cX10_tellOrder 83 = .ok (.iaload, 1) := by decide +kernel
theorem dX10_tellOrder_84 : decode cX10_tellOrder 84 = .ok (.iastore, 1) := by decide +kernel
theorem dX10_tellOrder_85 : decode cX10_tellOrder 85 = .ok (.iinc 7 (-1), 3) := by decide +kernel
theorem dX10_tellOrder_88 : decode cX10_tellOrder 88 = .ok (.goto (-44), 3) := by decide +kernel
theorem dX10_tellOrder_91 : decode cX10_tellOrder 91 = .ok (.aload_n 0, 1) := by decide +kernel
theorem dX10_tellOrder_92 : decode cX10_tellOrder 92 = .ok (.getfield 51, 3) := by decide +kernel
theorem dX10_tellOrder_95 : decode cX10_tellOrder 95 = .ok (.iload 7, 2) := by decide +kernel
theorem dX10_tellOrder_97 : decode cX10_tellOrder 97 = .ok (.iload 6, 2) := by decide +kernel
theorem dX10_tellOrder_99 : decode cX10_tellOrder 99 = .ok (.iastore, 1) := by decide +kernel
theorem dX10_tellOrder_100 : decode cX10_tellOrder 100 = .ok (.aload_n 0, 1) := by decide +kernel
theorem dX10_tellOrder_101 : decode cX10_tellOrder 101 = .ok (.dup, 1) := by decide +kernel
theorem dX10_tellOrder_102 : decode cX10_tellOrder 102 = .ok (.getfield 247, 3) := by decide +kernel
theorem dX10_tellOrder_105 : decode cX10_tellOrder 105 = .ok (.iconst 1, 1) := by decide +kernel
theorem dX10_tellOrder_106 : decode cX10_tellOrder 106 = .ok (.iadd, 1) := by decide +kernel
theorem dX10_tellOrder_107 : decode cX10_tellOrder 107 = .ok (.putfield 247, 3) := by decide +kernel
theorem dX10_tellOrder_110 : decode cX10_tellOrder 110 = .ok (.iinc 6 1, 3) := by decide +kernel
theorem dX10_tellOrder_113 : decode cX10_tellOrder 113 = .ok (.goto (-105), 3) := by decide +kernel
theorem dX10_tellOrder_116 : decode cX10_tellOrder 116 = .ok (.return_, 1) := by decide +kernel
theorem dX10_order_0 : decode cX10_order 0 = .ok (.iload_n 1, 1) := by decide +kernel
theorem dX10_order_1 : decode cX10_order 1 = .ok (.iconst 0, 1) := by decide +kernel
theorem dX10_order_2 : decode cX10_order 2 = .ok (.sipush 400, 3) := by decide +kernel
theorem dX10_order_5 : decode cX10_order 5 = .ok (.invokestatic 113, 3) := by decide +kernel
theorem dX10_order_8 : decode cX10_order 8 = .ok (.ifCond .eq 13, 3) := by decide +kernel
theorem dX10_order_11 : decode cX10_order 11 = .ok (.iload_n 2, 1) := by decide +kernel
theorem dX10_order_12 : decode cX10_order 12 = .ok (.iconst 1, 1) := by decide +kernel
theorem dX10_order_13 : decode cX10_order 13 = .ok (.bipush 10, 2) := by decide +kernel
theorem dX10_order_15 : decode cX10_order 15 = .ok (.invokestatic 113, 3) := by decide +kernel
theorem dX10_order_18 : decode cX10_order 18 = .ok (.ifCond .ne 6, 3) := by decide +kernel
theorem dX10_order_21 : decode cX10_order 21 = .ok (.bipush (-2), 2) := by decide +kernel
theorem dX10_order_23 : decode cX10_order 23 = .ok (.ireturn, 1) := by decide +kernel
theorem dX10_order_24 : decode cX10_order 24 = .ok (.aload_n 0, 1) := by decide +kernel
theorem dX10_order_25 : decode cX10_order 25 = .ok (.iload_n 1, 1) := by decide +kernel
theorem dX10_order_26 : decode cX10_order 26 = .ok (.i2l, 1) := by decide +kernel
theorem dX10_order_27 : decode cX10_order 27 = .ok (.iload_n 2, 1) := by decide +kernel
theorem dX10_order_28 : decode cX10_order 28 = .ok (.i2l, 1) := by decide +kernel
theorem dX10_order_29 : decode cX10_order 29 = .ok (.iconst (-1), 1) := by decide +kernel
theorem dX10_order_30 : decode cX10_order 30 = .ok (.invokevirtual 258, 3) := by decide +kernel
theorem dX10_order_33 : decode cX10_order 33 = .ok (.iload_n 3, 1) := by decide +kernel
theorem dX10_order_34 : decode cX10_order 34 = .ok (.iconst (-1), 1) := by decide +kernel
theorem dX10_order_35 : decode cX10_order 35 = .ok (.if_icmp .ne 8, 3) := by decide +kernel
theorem dX10_order_38 : decode cX10_order 38 = .ok (.aload_n 0, 1) := by decide +kernel
theorem dX10_order_39 : decode cX10_order 39 = .ok (.getfield 247, 3) := by decide +kernel
theorem dX10_order_42 : decode cX10_order 42 = .ok (.ireturn, 1) := by decide +kernel
theorem dX10_order_43 : decode cX10_order 43 = .ok (.iload_n 3, 1) := by decide +kernel
theorem dX10_order_44 : decode cX10_order 44 = .ok (.iconst 0, 1) := by decide +kernel
theorem dX10_order_45 : decode cX10_order 45 = .ok (.aload_n 0, 1) := by decide +kernel
theorem dX10_order_46 : decode cX10_order 46 = .ok (.getfield 247, 3) := by decide +kernel
theorem dX10_order_49 : decode cX10_order 49 = .ok (.iconst 1, 1) := by decide +kernel
theorem dX10_order_50 : decode cX10_order 50 = .ok (.isub, 1) := by decide +kernel
theorem dX10_order_51 : decode cX10_order 51 = .ok (.invokestatic 113, 3) := by decide +kernel
theorem dX10_order_54 : decode cX10_order 54 = .ok (.ifCond .eq 12, 3) := by decide +kernel
theorem dX10_order_57 : decode cX10_order 57 = .ok (.aload_n 0, 1) := by decide +kernel
theorem dX10_order_58 : decode cX10_order 58 = .ok (.getfield 51, 3) := by decide +kernel
theorem dX10_order_61 : decode cX10_order 61 = .ok (.iload_n 3, 1) := by decide +kernel
theorem dX10_order_62 : decode cX10_order 62 = .ok (.iaload, 1) := by decide +kernel
theorem dX10_order_63 : decode cX10_order 63 = .ok (.goto 5, 3) := by decide +kernel
theorem dX10_order_66 : decode cX10_order 66 = .ok (.bipush (-12), 2) := by decide +kernel
theorem dX10_order_68 : decode cX10_order 68 = .ok (.ireturn, 1) := by decide +kernel
theorem dX10_leastOf_0 : decode cX10_leastOf 0 = .ok (.iload_n 0, 1) := by decide +kernel
theorem dX10_leastOf_1 : decode cX10_leastOf 1 = .ok (.ifCond .ne 7, 3) := by decide +kernel
theorem dX10_leastOf_4 : decode cX10_leastOf 4 = .ok (.iconst (-1), 1) := by decide +kernel
theorem dX10_leastOf_5 : decode cX10_leastOf 5 = .ok (.goto 7, 3) := by decide +kernel
theorem dX10_leastOf_8 : decode cX10_leastOf 8 = .ok (.iload_n 0, 1) := by decide +kernel
theorem dX10_leastOf_9 : decode cX10_leastOf 9 = .ok (.invokestatic 262, 3) := by decide +kernel
theorem dX10_leastOf_12 : decode cX10_leastOf 12 = .ok (.ireturn, 1) := by decide +kernel
theorem dX10_againstThrough_0 : decode cX10_againstThrough 0 = .ok (.aload_n 0, 1) := by decide +kernel
theorem dX10_againstThrough_1 : decode cX10_againstThrough 1 = .ok (.iload_n 1, 1) := by decide +kernel
theorem dX10_againstThrough_2 : decode cX10_againstThrough 2 = .ok (.aload_n 0, 1) := by decide +kernel
theorem dX10_againstThrough_3 : decode cX10_againstThrough 3 = .ok (.getfield 54, 3) := by decide +kernel
theorem dX10_againstThrough_6 : decode cX10_againstThrough 6 = .ok (.iload_n 3, 1) := by decide +kernel
theorem dX10_againstThrough_7 : decode cX10_againstThrough 7 = .ok (.laload, 1) := by decide +kernel
theorem dX10_againstThrough_8 : decode cX10_againstThrough 8 = .ok (.aload_n 0, 1) := by decide +kernel
theorem dX10_againstThrough_9 : decode cX10_againstThrough 9 = .ok (.getfield 57, 3) := by decide +kernel
theorem dX10_againstThrough_12 : decode cX10_againstThrough 12 = .ok (.iload_n 3, 1) := by decide +kernel
theorem dX10_againstThrough_13 : decode cX10_againstThrough 13 = .ok (.laload, 1) := by decide +kernel
theorem dX10_againstThrough_14 : decode cX10_againstThrough 14 = .ok (.invokevirtual 239, 3) := by decide +kernel
theorem dX10_againstThrough_17 : decode cX10_againstThrough 17 = .ok (.aload_n 0, 1) := by decide +kernel
theorem dX10_againstThrough_18 : decode cX10_againstThrough 18 = .ok (.iload_n 1, 1) := by decide +kernel
theorem dX10_againstThrough_19 : decode cX10_againstThrough 19 = .ok (.aload_n 0, 1) := by decide +kernel
theorem dX10_againstThrough_20 : decode cX10_againstThrough 20 = .ok (.getfield 57, 3) := by decide +kernel
theorem dX10_againstThrough_23 : decode cX10_againstThrough 23 = .ok (.iload_n 3, 1) := by decide +kernel
theorem dX10_againstThrough_24 : decode cX10_againstThrough 24 = .ok (.laload, 1) := by decide +kernel
theorem dX10_againstThrough_25 : decode cX10_againstThrough 25 = .ok (.invokevirtual 243, 3) := by decide +kernel
theorem dX10_againstThrough_28 : decode cX10_againstThrough 28 = .ok (.aload_n 0, 1) := by decide +kernel
theorem dX10_againstThrough_29 : decode cX10_againstThrough 29 = .ok (.iload_n 2, 1) := by decide +kernel
theorem dX10_againstThrough_30 : decode cX10_againstThrough 30 = .ok (.aload_n 0, 1) := by decide +kernel
theorem dX10_againstThrough_31 : decode cX10_againstThrough 31 = .ok (.getfield 54, 3) := by decide +kernel
theorem dX10_againstThrough_34 : decode cX10_againstThrough 34 = .ok (.iload_n 3, 1) := by decide +kernel
theorem dX10_againstThrough_35 : decode cX10_againstThrough 35 = .ok (.laload, 1) := by decide +kernel
theorem dX10_againstThrough_36 : decode cX10_againstThrough 36 = .ok (.aload_n 0, 1) := by decide +kernel
theorem dX10_againstThrough_37 : decode cX10_againstThrough 37 = .ok (.getfield 57, 3) := by decide +kernel
theorem dX10_againstThrough_40 : decode cX10_againstThrough 40 = .ok (.iload_n 3, 1) := by decide +kernel
theorem dX10_againstThrough_41 : decode cX10_againstThrough 41 = .ok (.laload, 1) := by decide +kernel
theorem dX10_againstThrough_42 : decode cX10_againstThrough 42 = .ok (.invokevirtual 239, 3) := by decide +kernel
theorem dX10_againstThrough_45 : decode cX10_againstThrough 45 = .ok (.aload_n 0, 1) := by decide +kernel
theorem dX10_againstThrough_46 : decode cX10_againstThrough 46 = .ok (.iload_n 2, 1) := by decide +kernel
theorem dX10_againstThrough_47 : decode cX10_againstThrough 47 = .ok (.aload_n 0, 1) := by decide +kernel
theorem dX10_againstThrough_48 : decode cX10_againstThrough 48 = .ok (.getfield 57, 3) := by decide +kernel
theorem dX10_againstThrough_51 : decode cX10_againstThrough 51 = .ok (.iload_n 3, 1) := by decide +kernel
theorem dX10_againstThrough_52 : decode cX10_againstThrough 52 = .ok (.laload, 1) := by decide +kernel
theorem dX10_againstThrough_53 : decode cX10_againstThrough 53 = .ok (.invokevirtual 243, 3) := by decide +kernel
theorem dX10_againstThrough_56 : decode cX10_againstThrough 56 = .ok (.invokestatic 172, 3) := by decide +kernel
theorem dX10_againstThrough_59 : decode cX10_againstThrough 59 = .ok (.istore 4, 2) := by decide +kernel
theorem dX10_againstThrough_61 : decode cX10_againstThrough 61 = .ok (.iload 4, 2) := by decide +kernel
theorem dX10_againstThrough_63 : decode cX10_againstThrough 63 = .ok (.ifCond .eq 6, 3) := by decide +kernel
theorem dX10_againstThrough_66 : decode cX10_againstThrough 66 = .ok (.iload 4, 2) := by decide +kernel
theorem dX10_againstThrough_68 : decode cX10_againstThrough 68 = .ok (.ireturn, 1) := by decide +kernel
theorem dX10_againstThrough_69 : decode cX10_againstThrough 69 = .ok (.aload_n 0, 1) := by decide +kernel
theorem dX10_againstThrough_70 : decode cX10_againstThrough 70 = .ok (.getfield 54, 3) := by decide +kernel
theorem dX10_againstThrough_73 : decode cX10_againstThrough 73 = .ok (.iload_n 3, 1) := by decide +kernel
theorem dX10_againstThrough_74 : decode cX10_againstThrough 74 = .ok (.iconst 1, 1) := by decide +kernel
theorem dX10_againstThrough_75 : decode cX10_againstThrough 75 = .ok (.iadd, 1) := by decide +kernel
theorem dX10_againstThrough_76 : decode cX10_againstThrough 76 = .ok (.laload, 1) := by decide +kernel
theorem dX10_againstThrough_77 : decode cX10_againstThrough 77 = .ok (.lstore 5, 2) := by decide +kernel
theorem dX10_againstThrough_79 : decode cX10_againstThrough 79 = .ok (.aload_n 0, 1) := by decide +kernel
theorem dX10_againstThrough_80 : decode cX10_againstThrough 80 = .ok (.getfield 57, 3) := by decide +kernel
theorem dX10_againstThrough_83 : decode cX10_againstThrough 83 = .ok (.iload_n 3, 1) := by decide +kernel
theorem dX10_againstThrough_84 : decode cX10_againstThrough 84 = .ok (.iconst 1, 1) := by decide +kernel
theorem dX10_againstThrough_85 : decode cX10_againstThrough 85 = .ok (.iadd, 1) := by decide +kernel
theorem dX10_againstThrough_86 : decode cX10_againstThrough 86 = .ok (.laload, 1) := by decide +kernel
theorem dX10_againstThrough_87 : decode cX10_againstThrough 87 = .ok (.lstore 7, 2) := by decide +kernel
theorem dX10_againstThrough_89 : decode cX10_againstThrough 89 = .ok (.aload_n 0, 1) := by decide +kernel
theorem dX10_againstThrough_90 : decode cX10_againstThrough 90 = .ok (.iload_n 1, 1) := by decide +kernel
theorem dX10_againstThrough_91 : decode cX10_againstThrough 91 = .ok (.lload 5, 2) := by decide +kernel
theorem dX10_againstThrough_93 : decode cX10_againstThrough 93 = .ok (.lload 7, 2) := by decide +kernel
theorem dX10_againstThrough_95 : decode cX10_againstThrough 95 = .ok (.invokevirtual 239, 3) := by decide +kernel
theorem dX10_againstThrough_98 : decode cX10_againstThrough 98 = .ok (.aload_n 0, 1) := by decide +kernel
theorem dX10_againstThrough_99 : decode cX10_againstThrough 99 = .ok (.iload_n 1, 1) := by decide +kernel
theorem dX10_againstThrough_100 : decode cX10_againstThrough 100 = .ok (.lload 7, 2) := by decide +kernel
theorem dX10_againstThrough_102 : decode cX10_againstThrough 102 = .ok (.invokevirtual 243, 3) := by decide +kernel
theorem dX10_againstThrough_105 : decode cX10_againstThrough 105 = .ok (.aload_n 0, 1) := by decide +kernel
theorem dX10_againstThrough_106 : decode cX10_againstThrough 106 = .ok (.iload_n 2, 1) := by decide +kernel
theorem dX10_againstThrough_107 : decode cX10_againstThrough 107 = .ok (.lload 5, 2) := by decide +kernel
theorem dX10_againstThrough_109 : decode cX10_againstThrough 109 = .ok (.lload 7, 2) := by decide +kernel
theorem dX10_againstThrough_111 : decode cX10_againstThrough 111 = .ok (.invokevirtual 239, 3) := by decide +kernel
theorem dX10_againstThrough_114 : decode cX10_againstThrough 114 = .ok (.aload_n 0, 1) := by decide +kernel
theorem dX10_againstThrough_115 : decode cX10_againstThrough 115 = .ok (.iload_n 2, 1) := by decide +kernel
theorem dX10_againstThrough_116 : decode cX10_againstThrough 116 = .ok (.lload 7, 2) := by decide +kernel
theorem dX10_againstThrough_118 : decode cX10_againstThrough 118 = .ok (.invokevirtual 243, 3) := by decide +kernel
theorem dX10_againstThrough_121 : decode cX10_againstThrough 121 = .ok (.invokestatic 172, 3) := by decide +kernel
theorem dX10_againstThrough_124 : decode cX10_againstThrough 124 = .ok (.ireturn, 1) := by decide +kernel
theorem dX10_addCell_0 : decode cX10_addCell 0 = .ok (.aload_n 0, 1) := by decide +kernel
theorem dX10_addCell_1 : decode cX10_addCell 1 = .ok (.getfield 63, 3) := by decide +kernel
theorem dX10_addCell_4 : decode cX10_addCell 4 = .ok (.aload_n 0, 1) := by decide +kernel
theorem dX10_addCell_5 : decode cX10_addCell 5 = .ok (.getfield 267, 3) := by decide +kernel
theorem dX10_addCell_8 : decode cX10_addCell 8 = .ok (.iload_n 1, 1) := by decide +kernel
theorem dX10_addCell_9 : decode cX10_addCell 9 = .ok (.iastore, 1) := by decide +kernel
theorem dX10_addCell_10 : decode cX10_addCell 10 = .ok (.aload_n 0, 1) := by decide +kernel
theorem dX10_addCell_11 : decode cX10_addCell 11 = .ok (.getfield 66, 3) := by decide +kernel
theorem dX10_addCell_14 : decode cX10_addCell 14 = .ok (.aload_n 0, 1) := by decide +kernel
theorem dX10_addCell_15 : decode cX10_addCell 15 = .ok (.getfield 267, 3) := by decide +kernel
theorem dX10_addCell_18 : decode cX10_addCell 18 = .ok (.iload_n 2, 1) := by decide +kernel
theorem dX10_addCell_19 : decode cX10_addCell 19 = .ok (.iastore, 1) := by decide +kernel
theorem dX10_addCell_20 : decode cX10_addCell 20 = .ok (.aload_n 0, 1) := by decide +kernel
theorem dX10_addCell_21 : decode cX10_addCell 21 = .ok (.getfield 69, 3) := by decide +kernel
theorem dX10_addCell_24 : decode cX10_addCell 24 = .ok (.aload_n 0, 1) := by decide +kernel
theorem dX10_addCell_25 : decode cX10_addCell 25 = .ok (.getfield 267, 3) := by decide +kernel
theorem dX10_addCell_28 : decode cX10_addCell 28 = .ok (.iload_n 3, 1) := by decide +kernel
theorem dX10_addCell_29 : decode cX10_addCell 29 = .ok (.iastore, 1) := by decide +kernel
theorem dX10_addCell_30 : decode cX10_addCell 30 = .ok (.aload_n 0, 1) := by decide +kernel
theorem dX10_addCell_31 : decode cX10_addCell 31 = .ok (.dup, 1) := by decide +kernel
theorem dX10_addCell_32 : decode cX10_addCell 32 = .ok (.getfield 267, 3) := by decide +kernel
theorem dX10_addCell_35 : decode cX10_addCell 35 = .ok (.iconst 1, 1) := by decide +kernel
theorem dX10_addCell_36 : decode cX10_addCell 36 = .ok (.iadd, 1) := by decide +kernel
theorem dX10_addCell_37 : decode cX10_addCell 37 = .ok (.putfield 267, 3) := by decide +kernel
theorem dX10_addCell_40 : decode cX10_addCell 40 = .ok (.return_, 1) := by decide +kernel
theorem dX10_cut_0 : decode cX10_cut 0 = .ok (.iconst 0, 1) := by decide +kernel
theorem dX10_cut_1 : decode cX10_cut 1 = .ok (.istore_n 2, 1) := by decide +kernel
theorem dX10_cut_2 : decode cX10_cut 2 = .ok (.iconst 0, 1) := by decide +kernel
theorem dX10_cut_3 : decode cX10_cut 3 = .ok (.istore_n 3, 1) := by decide +kernel
theorem dX10_cut_4 : decode cX10_cut 4 = .ok (.iload_n 3, 1) := by decide +kernel
theorem dX10_cut_5 : decode cX10_cut 5 = .ok (.aload_n 0, 1) := by decide +kernel
theorem dX10_cut_6 : decode cX10_cut 6 = .ok (.getfield 109, 3) := by decide +kernel
theorem dX10_cut_9 : decode cX10_cut 9 = .ok (.if_icmp .ge 131, 3) := by decide +kernel
theorem dX10_cut_12 : decode cX10_cut 12 = .ok (.aload_n 0, 1) := by decide +kernel
theorem dX10_cut_13 : decode cX10_cut 13 = .ok (.iload_n 3, 1) := by decide +kernel
theorem dX10_cut_14 : decode cX10_cut 14 = .ok (.invokevirtual 230, 3) := by decide +kernel
theorem dX10_cut_17 : decode cX10_cut 17 = .ok (.ifCond .ne 117, 3) := by decide +kernel
theorem dX10_cut_20 : decode cX10_cut 20 = .ok (.aload_n 0, 1) := by decide +kernel
theorem dX10_cut_21 : decode cX10_cut 21 = .ok (.getfield 9, 3) := by decide +kernel
theorem dX10_cut_24 : decode cX10_cut 24 = .ok (.iload_n 3, 1) := by decide +kernel
theorem dX10_cut_25 : decode cX10_cut 25 = .ok (.iaload, 1) := by decide +kernel
theorem dX10_cut_26 : decode cX10_cut 26 = .ok (.i2l, 1) := by decide +kernel
theorem dX10_cut_27 : decode cX10_cut 27 = .ok (.aload_n 0, 1) := by decide +kernel
theorem dX10_cut_28 : decode cX10_cut 28 = .ok (.getfield 57, 3) := by decide +kernel
theorem dX10_cut_31 : decode cX10_cut 31 = .ok (.iload_n 1, 1) := by decide +kernel
theorem dX10_cut_32 : decode cX10_cut 32 = .ok (.laload, 1) := by decide +kernel
theorem dX10_cut_33 : decode cX10_cut 33 = .ok (.lmul, 1) := by decide +kernel
theorem dX10_cut_34 : decode cX10_cut 34 = .ok (.aload_n 0, 1) := by decide +kernel
theorem dX10_cut_35 : decode cX10_cut 35 = .ok (.getfield 54, 3) := by decide +kernel
theorem dX10_cut_38 : decode cX10_cut 38 = .ok (.iload_n 1, 1) := by decide +kernel
theorem dX10_cut_39 : decode cX10_cut 39 = .ok (.laload, 1) := by decide +kernel
theorem dX10_cut_40 : decode cX10_cut 40 = .ok (.lcmp, 1) := by decide +kernel
theorem dX10_cut_41 : decode cX10_cut 41 = .ok (.ifCond .gt 93, 3) := by decide +kernel
theorem dX10_cut_44 : decode cX10_cut 44 = .ok (.aload_n 0, 1) := by decide +kernel
theorem dX10_cut_45 : decode cX10_cut 45 = .ok (.getfield 16, 3) := by decide +kernel
theorem dX10_cut_48 : decode cX10_cut 48 = .ok (.iload_n 3, 1) := by decide +kernel
theorem dX10_cut_49 : decode cX10_cut 49 = .ok (.iaload, 1) := by decide +kernel
theorem dX10_cut_50 : decode cX10_cut 50 = .ok (.i2l, 1) := by decide +kernel
theorem dX10_cut_51 : decode cX10_cut 51 = .ok (.aload_n 0, 1) := by decide +kernel
theorem dX10_cut_52 : decode cX10_cut 52 = .ok (.getfield 57, 3) := by decide +kernel
theorem dX10_cut_55 : decode cX10_cut 55 = .ok (.iload_n 1, 1) := by decide +kernel
theorem dX10_cut_56 : decode cX10_cut 56 = .ok (.iconst 1, 1) := by decide +kernel
theorem dX10_cut_57 : decode cX10_cut 57 = .ok (.iadd, 1) := by decide +kernel
theorem dX10_cut_58 : decode cX10_cut 58 = .ok (.laload, 1) := by decide +kernel
theorem dX10_cut_59 : decode cX10_cut 59 = .ok (.lmul, 1) := by decide +kernel
theorem dX10_cut_60 : decode cX10_cut 60 = .ok (.aload_n 0, 1) := by decide +kernel
theorem dX10_cut_61 : decode cX10_cut 61 = .ok (.getfield 54, 3) := by decide +kernel
theorem dX10_cut_64 : decode cX10_cut 64 = .ok (.iload_n 1, 1) := by decide +kernel
theorem dX10_cut_65 : decode cX10_cut 65 = .ok (.iconst 1, 1) := by decide +kernel
theorem dX10_cut_66 : decode cX10_cut 66 = .ok (.iadd, 1) := by decide +kernel
theorem dX10_cut_67 : decode cX10_cut 67 = .ok (.laload, 1) := by decide +kernel
theorem dX10_cut_68 : decode cX10_cut 68 = .ok (.lcmp, 1) := by decide +kernel
theorem dX10_cut_69 : decode cX10_cut 69 = .ok (.ifCond .ge 6, 3) := by decide +kernel
theorem dX10_cut_72 : decode cX10_cut 72 = .ok (.goto 62, 3) := by decide +kernel
theorem dX10_cut_75 : decode cX10_cut 75 = .ok (.iload_n 2, 1) := by decide +kernel
theorem dX10_cut_76 : decode cX10_cut 76 = .ok (.istore 4, 2) := by decide +kernel
theorem dX10_cut_78 : decode cX10_cut 78 = .ok (.iload 4, 2) := by decide +kernel
theorem dX10_cut_80 : decode cX10_cut 80 = .ok (.ifCond .le 43, 3) := by decide +kernel
theorem dX10_cut_83 : decode cX10_cut 83 = .ok (.aload_n 0, 1) := by decide +kernel
theorem dX10_cut_84 : decode cX10_cut 84 = .ok (.iload_n 3, 1) := by decide +kernel
theorem dX10_cut_85 : decode cX10_cut 85 = .ok (.aload_n 0, 1) := by decide +kernel
theorem dX10_cut_86 : decode cX10_cut 86 = .ok (.getfield 75, 3) := by decide +kernel
theorem dX10_cut_89 : decode cX10_cut 89 = .ok (.iload 4, 2) := by decide +kernel
theorem dX10_cut_91 : decode cX10_cut 91 = .ok (.iconst 1, 1) := by decide +kernel
theorem dX10_cut_92 : decode cX10_cut 92 = .ok (.isub, 1) := by decide +kernel
theorem dX10_cut_93 : decode cX10_cut 93 = .ok (.iaload, 1) := by decide +kernel
theorem dX10_cut_94 : decode cX10_cut 94 = .ok (.iload_n 1, 1) := by decide +kernel
theorem dX10_cut_95 : decode cX10_cut 95 = .ok (.invokevirtual 270, 3) := by decide +kernel
theorem dX10_cut_98 : decode cX10_cut 98 = .ok (.ifCond .ge 25, 3) := by decide +kernel
theorem dX10_cut_101 : decode cX10_cut 101 = .ok (.aload_n 0, 1) := by decide +kernel
theorem dX10_cut_102 : decode cX10_cut 102 = .ok (.getfield 75, 3) := by decide +kernel
theorem dX10_cut_105 : decode cX10_cut 105 = .ok (.iload 4, 2) := by decide +kernel
theorem dX10_cut_107 : decode cX10_cut 107 = .ok (.aload_n 0, 1) := by decide +kernel
theorem dX10_cut_108 : decode cX10_cut 108 = .ok (.getfield 75, 3) := by decide +kernel
theorem dX10_cut_111 : decode cX10_cut 111 = .ok (.iload 4, 2) := by decide +kernel
theorem dX10_cut_113 : decode cX10_cut 113 = .ok (.iconst 1, 1) := by decide +kernel
theorem dX10_cut_114 : decode cX10_cut 114 = .ok (.isub, 1) := by decide +kernel
theorem dX10_cut_115 : decode cX10_cut 115 = .ok (.iaload, 1) := by decide +kernel
theorem dX10_cut_116 : decode cX10_cut 116 = .ok (.iastore, 1) := by decide +kernel
theorem dX10_cut_117 : decode cX10_cut 117 = .ok (.iinc 4 (-1), 3) := by decide +kernel
theorem dX10_cut_120 : decode cX10_cut 120 = .ok (.goto (-42), 3) := by decide +kernel
theorem dX10_cut_123 : decode cX10_cut 123 = .ok (.aload_n 0, 1) := by decide +kernel
theorem dX10_cut_124 : decode cX10_cut 124 = .ok (.getfield 75, 3) := by decide +kernel
theorem dX10_cut_127 : decode cX10_cut 127 = .ok (.iload 4, 2) := by decide +kernel
theorem dX10_cut_129 : decode cX10_cut 129 = .ok (.iload_n 3, 1) := by decide +kernel
theorem dX10_cut_130 : decode cX10_cut 130 = .ok (.iastore, 1) := by decide +kernel
theorem dX10_cut_131 : decode cX10_cut 131 = .ok (.iinc 2 1, 3) := by decide +kernel
theorem dX10_cut_134 : decode cX10_cut 134 = .ok (.iinc 3 1, 3) := by decide +kernel
theorem dX10_cut_137 : decode cX10_cut 137 = .ok (.goto (-133), 3) := by decide +kernel
theorem dX10_cut_140 : decode cX10_cut 140 = .ok (.iconst 0, 1) := by decide +kernel
theorem dX10_cut_141 : decode cX10_cut 141 = .ok (.istore_n 3, 1) := by decide +kernel
theorem dX10_cut_142 : decode cX10_cut 142 = .ok (.iconst 0, 1) := by decide +kernel
theorem dX10_cut_143 : decode cX10_cut 143 = .ok (.istore 4, 2) := by decide +kernel
theorem dX10_cut_145 : decode cX10_cut 145 = .ok (.iload 4, 2) := by decide +kernel
theorem dX10_cut_147 : decode cX10_cut 147 = .ok (.iload_n 2, 1) := by decide +kernel
theorem dX10_cut_148 : decode cX10_cut 148 = .ok (.if_icmp .ge 83, 3) := by decide +kernel
theorem dX10_cut_151 : decode cX10_cut 151 = .ok (.iconst 1, 1) := by decide +kernel
theorem dX10_cut_152 : decode cX10_cut 152 = .ok (.aload_n 0, 1) := by decide +kernel
theorem dX10_cut_153 : decode cX10_cut 153 = .ok (.getfield 75, 3) := by decide +kernel
theorem dX10_cut_156 : decode cX10_cut 156 = .ok (.iload 4, 2) := by decide +kernel
theorem dX10_cut_158 : decode cX10_cut 158 = .ok (.iaload, 1) := by decide +kernel
theorem dX10_cut_159 : decode cX10_cut 159 = .ok (.ishl, 1) := by decide +kernel
theorem dX10_cut_160 : decode cX10_cut 160 = .ok (.istore 5, 2) := by decide +kernel
theorem dX10_cut_162 : decode cX10_cut 162 = .ok (.aload_n 0, 1) := by decide +kernel
theorem dX10_cut_163 : decode cX10_cut 163 = .ok (.getfield 75, 3) := by decide +kernel
theorem dX10_cut_166 : decode cX10_cut 166 = .ok (.iload 4, 2) := by decide +kernel
theorem dX10_cut_168 : decode cX10_cut 168 = .ok (.iaload, 1) := by decide +kernel
theorem dX10_cut_169 : decode cX10_cut 169 = .ok (.istore 6, 2) := by decide +kernel
theorem dX10_cut_171 : decode cX10_cut 171 = .ok (.iinc 4 1, 3) := by decide +kernel
theorem dX10_cut_174 : decode cX10_cut 174 = .ok (.iload 4, 2) := by decide +kernel
theorem dX10_cut_176 : decode cX10_cut 176 = .ok (.iload_n 2, 1) := by decide +kernel
theorem dX10_cut_177 : decode cX10_cut 177 = .ok (.if_icmp .ge 40, 3) := by decide +kernel
theorem dX10_cut_180 : decode cX10_cut 180 = .ok (.aload_n 0, 1) := by decide +kernel
theorem dX10_cut_181 : decode cX10_cut 181 = .ok (.iload 6, 2) := by decide +kernel
theorem dX10_cut_183 : decode cX10_cut 183 = .ok (.aload_n 0, 1) := by decide +kernel
theorem dX10_cut_184 : decode cX10_cut 184 = .ok (.getfield 75, 3) := by decide +kernel
theorem dX10_cut_187 : decode cX10_cut 187 = .ok (.iload 4, 2) := by decide +kernel
theorem dX10_cut_189 : decode cX10_cut 189 = .ok (.iaload, 1) := by decide +kernel
theorem dX10_cut_190 : decode cX10_cut 190 = .ok (.iload_n 1, 1) := by decide +kernel
theorem dX10_cut_191 : decode cX10_cut 191 = .ok (.invokevirtual 270, 3) := by decide +kernel
theorem dX10_cut_194 : decode cX10_cut 194 = .ok (.ifCond .ne 23, 3) := by decide +kernel
theorem dX10_cut_197 : decode cX10_cut 197 = .ok (.iload 5, 2) := by decide +kernel
theorem dX10_cut_199 : decode cX10_cut 199 = .ok (.iconst 1, 1) := by decide +kernel
theorem dX10_cut_200 : decode cX10_cut 200 = .ok (.aload_n 0, 1) := by decide +kernel
theorem dX10_cut_201 : decode cX10_cut 201 = .ok (.getfield 75, 3) := by decide +kernel
theorem dX10_cut_204 : decode cX10_cut 204 = .ok (.iload 4, 2) := by decide +kernel
theorem dX10_cut_206 : decode cX10_cut 206 = .ok (.iaload, 1) := by decide +kernel
theorem dX10_cut_207 : decode cX10_cut 207 = .ok (.ishl, 1) := by decide +kernel
theorem dX10_cut_208 : decode cX10_cut 208 = .ok (.ior, 1) := by decide +kernel
theorem dX10_cut_209 : decode cX10_cut 209 = .ok (.istore 5, 2) := by decide +kernel
theorem dX10_cut_211 : decode cX10_cut 211 = .ok (.iinc 4 1, 3) := by decide +kernel
theorem dX10_cut_214 : decode cX10_cut 214 = .ok (.goto (-40), 3) := by decide +kernel
theorem dX10_cut_217 : decode cX10_cut 217 = .ok (.aload_n 0, 1) := by decide +kernel
theorem dX10_cut_218 : decode cX10_cut 218 = .ok (.iload_n 1, 1) := by decide +kernel
theorem dX10_cut_219 : decode cX10_cut 219 = .ok (.iload_n 3, 1) := by decide +kernel
theorem dX10_cut_220 : decode cX10_cut 220 = .ok (.iload 5, 2) := by decide +kernel
theorem dX10_cut_222 : decode cX10_cut 222 = .ok (.invokevirtual 274, 3) := by decide +kernel
theorem dX10_cut_225 : decode cX10_cut 225 = .ok (.iload 5, 2) := by decide +kernel
theorem dX10_cut_227 : decode cX10_cut 227 = .ok (.istore_n 3, 1) := by decide +kernel
theorem dX10_cut_228 : decode cX10_cut 228 = .ok (.goto (-83), 3) := by decide +kernel
theorem dX10_cut_231 : decode cX10_cut 231 = .ok (.aload_n 0, 1) := by decide +kernel
theorem dX10_cut_232 : decode cX10_cut 232 = .ok (.iload_n 1, 1) := by decide +kernel
theorem dX10_cut_233 : decode cX10_cut 233 = .ok (.iload_n 3, 1) := by decide +kernel
theorem dX10_cut_234 : decode cX10_cut 234 = .ok (.iconst 0, 1) := by decide +kernel
theorem dX10_cut_235 : decode cX10_cut 235 = .ok (.invokevirtual 274, 3) := by decide +kernel
theorem dX10_cut_238 : decode cX10_cut 238 = .ok (.return_, 1) := by decide +kernel
theorem dX10_tellSheet_0 : decode cX10_tellSheet 0 = .ok (.aload_n 0, 1) := by decide +kernel
theorem dX10_tellSheet_1 : decode cX10_tellSheet 1 = .ok (.invokevirtual 211, 3) := by decide +kernel
theorem dX10_tellSheet_4 : decode cX10_tellSheet 4 = .ok (.aload_n 0, 1) := by decide +kernel
theorem dX10_tellSheet_5 : decode cX10_tellSheet 5 = .ok (.iconst 1, 1) := by decide +kernel
theorem dX10_tellSheet_6 : decode cX10_tellSheet 6 = .ok (.putfield 278, 3) := by decide +kernel
theorem dX10_tellSheet_9 : decode cX10_tellSheet 9 = .ok (.iconst 0, 1) := by decide +kernel
theorem dX10_tellSheet_10 : decode cX10_tellSheet 10 = .ok (.istore_n 1, 1) := by decide +kernel
theorem dX10_tellSheet_11 : decode cX10_tellSheet 11 = .ok (.iload_n 1, 1) := by decide +kernel
theorem dX10_tellSheet_12 : decode cX10_tellSheet 12 = .ok (.aload_n 0, 1) := by decide +kernel
theorem dX10_tellSheet_13 : decode cX10_tellSheet 13 = .ok (.getfield 176, 3) := by decide +kernel
theorem dX10_tellSheet_16 : decode cX10_tellSheet 16 = .ok (.if_icmp .ge 90, 3) := by decide +kernel
theorem dX10_tellSheet_19 : decode cX10_tellSheet 19 = .ok (.iload_n 1, 1) := by decide +kernel
theorem dX10_tellSheet_20 : decode cX10_tellSheet 20 = .ok (.ifCond .le 40, 3) := by decide +kernel
theorem dX10_tellSheet_23 : decode cX10_tellSheet 23 = .ok (.aload_n 0, 1) := by decide +kernel
theorem dX10_tellSheet_24 : decode cX10_tellSheet 24 = .ok (.getfield 22, 3) := by decide +kernel
theorem dX10_tellSheet_27 : decode cX10_tellSheet 27 = .ok (.iload_n 1, 1) := by decide +kernel
theorem dX10_tellSheet_28 : decode cX10_tellSheet 28 = .ok (.laload, 1) := by decide +kernel
theorem dX10_tellSheet_29 : decode cX10_tellSheet 29 = .ok (.aload_n 0, 1) := by decide +kernel
theorem dX10_tellSheet_30 : decode cX10_tellSheet 30 = .ok (.getfield 26, 3) := by decide +kernel
theorem dX10_tellSheet_33 : decode cX10_tellSheet 33 = .ok (.iload_n 1, 1) := by decide +kernel
theorem dX10_tellSheet_34 : decode cX10_tellSheet 34 = .ok (.laload, 1) := by decide +kernel
theorem dX10_tellSheet_35 : decode cX10_tellSheet 35 = .ok (.aload_n 0, 1) := by decide +kernel
theorem dX10_tellSheet_36 : decode cX10_tellSheet 36 = .ok (.getfield 22, 3) := by decide +kernel
theorem dX10_tellSheet_39 : decode cX10_tellSheet 39 = .ok (.iload_n 1, 1) := by decide +kernel
theorem dX10_tellSheet_40 : decode cX10_tellSheet 40 = .ok (.iconst 1, 1) := by decide +kernel
theorem dX10_tellSheet_41 : decode cX10_tellSheet 41 = .ok (.isub, 1) := by decide +kernel
theorem dX10_tellSheet_42 : decode cX10_tellSheet 42 = .ok (.laload, 1) := by decide +kernel
theorem dX10_tellSheet_43 : decode cX10_tellSheet 43 = .ok (.aload_n 0, 1) := by decide +kernel
theorem dX10_tellSheet_44 : decode cX10_tellSheet 44 = .ok (.getfield 26, 3) := by decide +kernel
theorem dX10_tellSheet_47 : decode cX10_tellSheet 47 = .ok (.iload_n 1, 1) := by decide +kernel
theorem dX10_tellSheet_48 : decode cX10_tellSheet 48 = .ok (.iconst 1, 1) := by decide +kernel
theorem dX10_tellSheet_49 : decode cX10_tellSheet 49 = .ok (.isub, 1) := by decide +kernel
theorem dX10_tellSheet_50 : decode cX10_tellSheet 50 = .ok (.laload, 1) := by decide +kernel
theorem dX10_tellSheet_51 : decode cX10_tellSheet 51 = .ok (.invokestatic 172, 3) := by decide +kernel
theorem dX10_tellSheet_54 : decode cX10_tellSheet 54 = .ok (.ifCond .ne 6, 3) := by decide +kernel
theorem dX10_tellSheet_57 : decode cX10_tellSheet 57 = .ok (.goto 43, 3) := by decide +kernel
theorem dX10_tellSheet_60 : decode cX10_tellSheet 60 = .ok (.aload_n 0, 1) := by decide +kernel
theorem dX10_tellSheet_61 : decode cX10_tellSheet 61 = .ok (.getfield 54, 3) := by decide +kernel
theorem dX10_tellSheet_64 : decode cX10_tellSheet 64 = .ok (.aload_n 0, 1) := by decide +kernel
theorem dX10_tellSheet_65 : decode cX10_tellSheet 65 = .ok (.getfield 278, 3) := by decide +kernel
theorem dX10_tellSheet_68 : decode cX10_tellSheet 68 = .ok (.aload_n 0, 1) := by decide +kernel
theorem dX10_tellSheet_69 : decode cX10_tellSheet 69 = .ok (.getfield 22, 3) := by decide +kernel
theorem dX10_tellSheet_72 : decode cX10_tellSheet 72 = .ok (.iload_n 1, 1) := by decide +kernel
theorem dX10_tellSheet_73 : decode cX10_tellSheet 73 = .ok (.laload, 1) := by decide +kernel
theorem dX10_tellSheet_74 : decode cX10_tellSheet 74 = .ok (.lastore, 1) := by decide +kernel
theorem dX10_tellSheet_75 : decode cX10_tellSheet 75 = .ok (.aload_n 0, 1) := by decide +kernel
theorem dX10_tellSheet_76 : decode cX10_tellSheet 76 = .ok (.getfield 57, 3) := by decide +kernel
theorem dX10_tellSheet_79 : decode cX10_tellSheet 79 = .ok (.aload_n 0, 1) := by decide +kernel
theorem dX10_tellSheet_80 : decode cX10_tellSheet 80 = .ok (.getfield 278, 3) := by decide +kernel
theorem dX10_tellSheet_83 : decode cX10_tellSheet 83 = .ok (.aload_n 0, 1) := by decide +kernel
theorem dX10_tellSheet_84 : decode cX10_tellSheet 84 = .ok (.getfield 26, 3) := by decide +kernel
theorem dX10_tellSheet_87 : decode cX10_tellSheet 87 = .ok (.iload_n 1, 1) := by decide +kernel
theorem dX10_tellSheet_88 : decode cX10_tellSheet 88 = .ok (.laload, 1) := by decide +kernel
theorem dX10_tellSheet_89 : decode cX10_tellSheet 89 = .ok (.lastore, 1) := by decide +kernel
theorem dX10_tellSheet_90 : decode cX10_tellSheet 90 = .ok (.aload_n 0, 1) := by decide +kernel
theorem dX10_tellSheet_91 : decode cX10_tellSheet 91 = .ok (.dup, 1) := by decide +kernel
theorem dX10_tellSheet_92 : decode cX10_tellSheet 92 = .ok (.getfield 278, 3) := by decide +kernel
theorem dX10_tellSheet_95 : decode cX10_tellSheet 95 = .ok (.iconst 1, 1) := by decide +kernel
theorem dX10_tellSheet_96 : decode cX10_tellSheet 96 = .ok (.iadd, 1) := by decide +kernel
theorem dX10_tellSheet_97 : decode cX10_tellSheet 97 = .ok (.putfield 278, 3) := by decide +kernel
theorem dX10_tellSheet_100 : decode cX10_tellSheet 100 = .ok (.iinc 1 1, 3) := by decide +kernel
theorem dX10_tellSheet_103 : decode cX10_tellSheet 103 = .ok (.goto (-92), 3) := by decide +kernel
theorem dX10_tellSheet_106 : decode cX10_tellSheet 106 = .ok (.aload_n 0, 1) := by decide +kernel
theorem dX10_tellSheet_107 : decode cX10_tellSheet 107 = .ok (.iconst 0, 1) := by decide +kernel
theorem dX10_tellSheet_108 : decode cX10_tellSheet 108 = .ok (.putfield 267, 3) := by decide +kernel
theorem dX10_tellSheet_111 : decode cX10_tellSheet 111 = .ok (.iconst 0, 1) := by decide +kernel
theorem dX10_tellSheet_112 : decode cX10_tellSheet 112 = .ok (.istore_n 1, 1) := by decide +kernel
theorem dX10_tellSheet_113 : decode cX10_tellSheet 113 = .ok (.iload_n 1, 1) := by decide +kernel
theorem dX10_tellSheet_114 : decode cX10_tellSheet 114 = .ok (.aload_n 0, 1) := by decide +kernel
theorem dX10_tellSheet_115 : decode cX10_tellSheet 115 = .ok (.getfield 278, 3) := by decide +kernel
theorem dX10_tellSheet_118 : decode cX10_tellSheet 118 = .ok (.if_icmp .ge 48, 3) := by decide +kernel
theorem dX10_tellSheet_121 : decode cX10_tellSheet 121 = .ok (.aload_n 0, 1) := by decide +kernel
theorem dX10_tellSheet_122 : decode cX10_tellSheet 122 = .ok (.getfield 60, 3) := by decide +kernel
theorem dX10_tellSheet_125 : decode cX10_tellSheet 125 = .ok (.iload_n 1, 1) := by decide +kernel
theorem dX10_tellSheet_126 : decode cX10_tellSheet 126 = .ok (.aload_n 0, 1) := by decide +kernel
theorem dX10_tellSheet_127 : decode cX10_tellSheet 127 = .ok (.getfield 267, 3) := by decide +kernel
theorem dX10_tellSheet_130 : decode cX10_tellSheet 130 = .ok (.iastore, 1) := by decide +kernel
theorem dX10_tellSheet_131 : decode cX10_tellSheet 131 = .ok (.iload_n 1, 1) := by decide +kernel
theorem dX10_tellSheet_132 : decode cX10_tellSheet 132 = .ok (.ifCond .eq 13, 3) := by decide +kernel
theorem dX10_tellSheet_135 : decode cX10_tellSheet 135 = .ok (.iload_n 1, 1) := by decide +kernel
theorem dX10_tellSheet_136 : decode cX10_tellSheet 136 = .ok (.aload_n 0, 1) := by decide +kernel
theorem dX10_tellSheet_137 : decode cX10_tellSheet 137 = .ok (.getfield 278, 3) := by decide +kernel
theorem dX10_tellSheet_140 : decode cX10_tellSheet 140 = .ok (.iconst 1, 1) := by decide +kernel
theorem dX10_tellSheet_141 : decode cX10_tellSheet 141 = .ok (.isub, 1) := by decide +kernel
theorem dX10_tellSheet_142 : decode cX10_tellSheet 142 = .ok (.if_icmp .ne 13, 3) := by decide +kernel
theorem dX10_tellSheet_145 : decode cX10_tellSheet 145 = .ok (.aload_n 0, 1) := by decide +kernel
theorem dX10_tellSheet_146 : decode cX10_tellSheet 146 = .ok (.iload_n 1, 1) := by decide +kernel
theorem dX10_tellSheet_147 : decode cX10_tellSheet 147 = .ok (.iconst 0, 1) := by decide +kernel
theorem dX10_tellSheet_148 : decode cX10_tellSheet 148 = .ok (.iconst 0, 1) := by decide +kernel
theorem dX10_tellSheet_149 : decode cX10_tellSheet 149 = .ok (.invokevirtual 274, 3) := by decide +kernel
theorem dX10_tellSheet_152 : decode cX10_tellSheet 152 = .ok (.goto 8, 3) := by decide +kernel
theorem dX10_tellSheet_155 : decode cX10_tellSheet 155 = .ok (.aload_n 0, 1) := by decide +kernel
theorem dX10_tellSheet_156 : decode cX10_tellSheet 156 = .ok (.iload_n 1, 1) := by decide +kernel
theorem dX10_tellSheet_157 : decode cX10_tellSheet 157 = .ok (.invokevirtual 281, 3) := by decide +kernel
theorem dX10_tellSheet_160 : decode cX10_tellSheet 160 = .ok (.iinc 1 1, 3) := by decide +kernel
theorem dX10_tellSheet_163 : decode cX10_tellSheet 163 = .ok (.goto (-50), 3) := by decide +kernel
theorem dX10_tellSheet_166 : decode cX10_tellSheet 166 = .ok (.aload_n 0, 1) := by decide +kernel
theorem dX10_tellSheet_167 : decode cX10_tellSheet 167 = .ok (.getfield 60, 3) := by decide +kernel
theorem dX10_tellSheet_170 : decode cX10_tellSheet 170 = .ok (.aload_n 0, 1) := by decide +kernel
theorem dX10_tellSheet_171 : decode cX10_tellSheet 171 = .ok (.getfield 278, 3) := by decide +kernel
theorem dX10_tellSheet_174 : decode cX10_tellSheet 174 = .ok (.aload_n 0, 1) := by decide +kernel
theorem dX10_tellSheet_175 : decode cX10_tellSheet 175 = .ok (.getfield 267, 3) := by decide +kernel
theorem dX10_tellSheet_178 : decode cX10_tellSheet 178 = .ok (.iastore, 1) := by decide +kernel
theorem dX10_tellSheet_179 : decode cX10_tellSheet 179 = .ok (.aload_n 0, 1) := by decide +kernel
theorem dX10_tellSheet_180 : decode cX10_tellSheet 180 = .ok (.invokevirtual 284, 3) := by decide +kernel
theorem dX10_tellSheet_183 : decode cX10_tellSheet 183 = .ok (.return_, 1) := by decide +kernel
theorem dX10_narrow_0 : decode cX10_narrow 0 = .ok (.aload_n 0, 1) := by decide +kernel
theorem dX10_narrow_1 : decode cX10_narrow 1 = .ok (.getfield 66, 3) := by decide +kernel
theorem dX10_narrow_4 : decode cX10_narrow 4 = .ok (.iload_n 1, 1) := by decide +kernel
theorem dX10_narrow_5 : decode cX10_narrow 5 = .ok (.iaload, 1) := by decide +kernel
theorem dX10_narrow_6 : decode cX10_narrow 6 = .ok (.invokestatic 287, 3) := by decide +kernel
theorem dX10_narrow_9 : decode cX10_narrow 9 = .ok (.istore 6, 2) := by decide +kernel
theorem dX10_narrow_11 : decode cX10_narrow 11 = .ok (.aload_n 0, 1) := by decide +kernel
theorem dX10_narrow_12 : decode cX10_narrow 12 = .ok (.getfield 69, 3) := by decide +kernel
theorem dX10_narrow_15 : decode cX10_narrow 15 = .ok (.iload_n 1, 1) := by decide +kernel
theorem dX10_narrow_16 : decode cX10_narrow 16 = .ok (.iaload, 1) := by decide +kernel
theorem dX10_narrow_17 : decode cX10_narrow 17 = .ok (.invokestatic 287, 3) := by decide +kernel
theorem dX10_narrow_20 : decode cX10_narrow 20 = .ok (.istore 7, 2) := by decide +kernel
theorem dX10_narrow_22 : decode cX10_narrow 22 = .ok (.iload 6, 2) := by decide +kernel
theorem dX10_narrow_24 : decode cX10_narrow 24 = .ok (.iconst (-1), 1) := by decide +kernel
theorem dX10_narrow_25 : decode cX10_narrow 25 = .ok (.if_icmp .eq 59, 3) := by decide +kernel
theorem dX10_narrow_28 : decode cX10_narrow 28 = .ok (.aload_n 0, 1) := by decide +kernel
theorem dX10_narrow_29 : decode cX10_narrow 29 = .ok (.iload 6, 2) := by decide +kernel
theorem dX10_narrow_31 : decode cX10_narrow 31 = .ok (.lload_n 2, 1) := by decide +kernel
theorem dX10_narrow_32 : decode cX10_narrow 32 = .ok (.lload 4, 2) := by decide +kernel
theorem dX10_narrow_34 : decode cX10_narrow 34 = .ok (.invokevirtual 239, 3) := by decide +kernel
theorem dX10_narrow_37 : decode cX10_narrow 37 = .ok (.aload_n 0, 1) := by decide +kernel
theorem dX10_narrow_38 : decode cX10_narrow 38 = .ok (.iload 6, 2) := by decide +kernel
theorem dX10_narrow_40 : decode cX10_narrow 40 = .ok (.lload 4, 2) := by decide +kernel
theorem dX10_narrow_42 : decode cX10_narrow 42 = .ok (.invokevirtual 243, 3) := by decide +kernel
theorem dX10_narrow_45 : decode cX10_narrow 45 = .ok (.aload_n 0, 1) := by decide +kernel
theorem dX10_narrow_46 : decode cX10_narrow 46 = .ok (.getfield 290, 3) := by decide +kernel
theorem dX10_narrow_49 : decode cX10_narrow 49 = .ok (.aload_n 0, 1) := by decide +kernel
theorem dX10_narrow_50 : decode cX10_narrow 50 = .ok (.getfield 293, 3) := by decide +kernel
theorem dX10_narrow_53 : decode cX10_narrow 53 = .ok (.invokestatic 172, 3) := by decide +kernel
theorem dX10_narrow_56 : decode cX10_narrow 56 = .ok (.ifCond .le 28, 3) := by decide +kernel
theorem dX10_narrow_59 : decode cX10_narrow 59 = .ok (.aload_n 0, 1) := by decide +kernel
theorem dX10_narrow_60 : decode cX10_narrow 60 = .ok (.aload_n 0, 1) := by decide +kernel
theorem dX10_narrow_61 : decode cX10_narrow 61 = .ok (.iload 6, 2) := by decide +kernel
theorem dX10_narrow_63 : decode cX10_narrow 63 = .ok (.lload_n 2, 1) := by decide +kernel
theorem dX10_narrow_64 : decode cX10_narrow 64 = .ok (.lload 4, 2) := by decide +kernel
theorem dX10_narrow_66 : decode cX10_narrow 66 = .ok (.invokevirtual 239, 3) := by decide +kernel
theorem dX10_narrow_69 : decode cX10_narrow 69 = .ok (.putfield 290, 3) := by decide +kernel
theorem dX10_narrow_72 : decode cX10_narrow 72 = .ok (.aload_n 0, 1) := by decide +kernel
theorem dX10_narrow_73 : decode cX10_narrow 73 = .ok (.aload_n 0, 1) := by decide +kernel
theorem dX10_narrow_74 : decode cX10_narrow 74 = .ok (.iload 6, 2) := by decide +kernel
theorem dX10_narrow_76 : decode cX10_narrow 76 = .ok (.lload 4, 2) := by decide +kernel
theorem dX10_narrow_78 : decode cX10_narrow 78 = .ok (.invokevirtual 243, 3) := by decide +kernel
theorem dX10_narrow_81 : decode cX10_narrow 81 = .ok (.putfield 293, 3) := by decide +kernel
theorem dX10_narrow_84 : decode cX10_narrow 84 = .ok (.iload 7, 2) := by decide +kernel
theorem dX10_narrow_86 : decode cX10_narrow 86 = .ok (.iconst (-1), 1) := by decide +kernel
theorem dX10_narrow_87 : decode cX10_narrow 87 = .ok (.if_icmp .eq 59, 3) := by decide +kernel
theorem dX10_narrow_90 : decode cX10_narrow 90 = .ok (.aload_n 0, 1) := by decide +kernel
theorem dX10_narrow_91 : decode cX10_narrow 91 = .ok (.iload 7, 2) := by decide +kernel
theorem dX10_narrow_93 : decode cX10_narrow 93 = .ok (.lload_n 2, 1) := by decide +kernel
theorem dX10_narrow_94 : decode cX10_narrow 94 = .ok (.lload 4, 2) := by decide +kernel
theorem dX10_narrow_96 : decode cX10_narrow 96 = .ok (.invokevirtual 239, 3) := by decide +kernel
theorem dX10_narrow_99 : decode cX10_narrow 99 = .ok (.aload_n 0, 1) := by decide +kernel
theorem dX10_narrow_100 : decode cX10_narrow 100 = .ok (.iload 7, 2) := by decide +kernel
theorem dX10_narrow_102 : decode cX10_narrow 102 = .ok (.lload 4, 2) := by decide +kernel
theorem dX10_narrow_104 : decode cX10_narrow 104 = .ok (.invokevirtual 243, 3) := by decide +kernel
theorem dX10_narrow_107 : decode cX10_narrow 107 = .ok (.aload_n 0, 1) := by decide +kernel
theorem dX10_narrow_108 : decode cX10_narrow 108 = .ok (.getfield 296, 3) := by decide +kernel
theorem dX10_narrow_111 : decode cX10_narrow 111 = .ok (.aload_n 0, 1) := by decide +kernel
theorem dX10_narrow_112 : decode cX10_narrow 112 = .ok (.getfield 299, 3) := by decide +kernel
theorem dX10_narrow_115 : decode cX10_narrow 115 = .ok (.invokestatic 172, 3) := by decide +kernel
theorem dX10_narrow_118 : decode cX10_narrow 118 = .ok (.ifCond .ge 28, 3) := by decide +kernel
theorem dX10_narrow_121 : decode cX10_narrow 121 = .ok (.aload_n 0, 1) := by decide +kernel
theorem dX10_narrow_122 : decode cX10_narrow 122 = .ok (.aload_n 0, 1) := by decide +kernel
theorem dX10_narrow_123 : decode cX10_narrow 123 = .ok (.iload 7, 2) := by decide +kernel
theorem dX10_narrow_125 : decode cX10_narrow 125 = .ok (.lload_n 2, 1) := by decide +kernel
theorem dX10_narrow_126 : decode cX10_narrow 126 = .ok (.lload 4, 2) := by decide +kernel
theorem dX10_narrow_128 : decode cX10_narrow 128 = .ok (.invokevirtual 239, 3) := by decide +kernel
theorem dX10_narrow_131 : decode cX10_narrow 131 = .ok (.putfield 296, 3) := by decide +kernel
theorem dX10_narrow_134 : decode cX10_narrow 134 = .ok (.aload_n 0, 1) := by decide +kernel
theorem dX10_narrow_135 : decode cX10_narrow 135 = .ok (.aload_n 0, 1) := by decide +kernel
theorem dX10_narrow_136 : decode cX10_narrow 136 = .ok (.iload 7, 2) := by decide +kernel
theorem dX10_narrow_138 : decode cX10_narrow 138 = .ok (.lload 4, 2) := by decide +kernel
theorem dX10_narrow_140 : decode cX10_narrow 140 = .ok (.invokevirtual 243, 3) := by decide +kernel
theorem dX10_narrow_143 : decode cX10_narrow 143 = .ok (.putfield 299, 3) := by decide +kernel
theorem dX10_narrow_146 : decode cX10_narrow 146 = .ok (.return_, 1) := by decide +kernel
theorem dX10_wide_0 : decode cX10_wide 0 = .ok (.aload_n 0, 1) := by decide +kernel
theorem dX10_wide_1 : decode cX10_wide 1 = .ok (.ldc2_w 302, 3) := by decide +kernel
theorem dX10_wide_4 : decode cX10_wide 4 = .ok (.putfield 290, 3) := by decide +kernel
theorem dX10_wide_7 : decode cX10_wide 7 = .ok (.aload_n 0, 1) := by decide +kernel
theorem dX10_wide_8 : decode cX10_wide 8 = .ok (.lconst 1, 1) := by decide +kernel
theorem dX10_wide_9 : decode cX10_wide 9 = .ok (.putfield 293, 3) := by decide +kernel
theorem dX10_wide_12 : decode cX10_wide 12 = .ok (.aload_n 0, 1) := by decide +kernel
theorem dX10_wide_13 : decode cX10_wide 13 = .ok (.ldc2_w 304, 3) := by decide +kernel
theorem dX10_wide_16 : decode cX10_wide 16 = .ok (.putfield 296, 3) := by decide +kernel
theorem dX10_wide_19 : decode cX10_wide 19 = .ok (.aload_n 0, 1) := by decide +kernel
theorem dX10_wide_20 : decode cX10_wide 20 = .ok (.lconst 1, 1) := by decide +kernel
theorem dX10_wide_21 : decode cX10_wide 21 = .ok (.putfield 299, 3) := by decide +kernel
theorem dX10_wide_24 : decode cX10_wide 24 = .ok (.return_, 1) := by decide +kernel
theorem dX10_isMoreThanOne_0 : decode cX10_isMoreThanOne 0 = .ok (.aload_n 0, 1) := by decide +kernel
theorem dX10_isMoreThanOne_1 : decode cX10_isMoreThanOne 1 = .ok (.getfield 290, 3) := by decide +kernel
theorem dX10_isMoreThanOne_4 : decode cX10_isMoreThanOne 4 = .ok (.aload_n 0, 1) := by decide +kernel
theorem dX10_isMoreThanOne_5 : decode cX10_isMoreThanOne 5 = .ok (.getfield 293, 3) := by decide +kernel
theorem dX10_isMoreThanOne_8 : decode cX10_isMoreThanOne 8 = .ok (.aload_n 0, 1) := by decide +kernel
theorem dX10_isMoreThanOne_9 : decode cX10_isMoreThanOne 9 = .ok (.getfield 296, 3) := by decide +kernel
theorem dX10_isMoreThanOne_12 : decode cX10_isMoreThanOne 12 = .ok (.aload_n 0, 1) := by decide +kernel
theorem dX10_isMoreThanOne_13 : decode cX10_isMoreThanOne 13 = .ok (.getfield 299, 3) := by decide +kernel
theorem dX10_isMoreThanOne_16 : decode cX10_isMoreThanOne 16 = .ok (.invokestatic 172, 3) := by decide +kernel
theorem dX10_isMoreThanOne_19 : decode cX10_isMoreThanOne 19 = .ok (.ifCond .ge 7, 3) := by decide +kernel
theorem dX10_isMoreThanOne_22 : decode cX10_isMoreThanOne 22 = .ok (.iconst 1, 1) := by decide +kernel
theorem dX10_isMoreThanOne_23 : decode cX10_isMoreThanOne 23 = .ok (.goto 4, 3) := by decide +kernel
theorem dX10_isMoreThanOne_26 : decode cX10_isMoreThanOne 26 = .ok (.iconst 0, 1) := by decide +kernel
theorem dX10_isMoreThanOne_27 : decode cX10_isMoreThanOne 27 = .ok (.ireturn, 1) := by decide +kernel
theorem dX10_isUprightAt_0 : decode cX10_isUprightAt 0 = .ok (.aload_n 0, 1) := by decide +kernel
theorem dX10_isUprightAt_1 : decode cX10_isUprightAt 1 = .ok (.iload_n 1, 1) := by decide +kernel
theorem dX10_isUprightAt_2 : decode cX10_isUprightAt 2 = .ok (.invokevirtual 230, 3) := by decide +kernel
theorem dX10_isUprightAt_5 : decode cX10_isUprightAt 5 = .ok (.ifCond .eq 22, 3) := by decide +kernel
theorem dX10_isUprightAt_8 : decode cX10_isUprightAt 8 = .ok (.aload_n 0, 1) := by decide +kernel
theorem dX10_isUprightAt_9 : decode cX10_isUprightAt 9 = .ok (.getfield 9, 3) := by decide +kernel
theorem dX10_isUprightAt_12 : decode cX10_isUprightAt 12 = .ok (.iload_n 1, 1) := by decide +kernel
theorem dX10_isUprightAt_13 : decode cX10_isUprightAt 13 = .ok (.iaload, 1) := by decide +kernel
theorem dX10_isUprightAt_14 : decode cX10_isUprightAt 14 = .ok (.i2l, 1) := by decide +kernel
theorem dX10_isUprightAt_15 : decode cX10_isUprightAt 15 = .ok (.lload 4, 2) := by decide +kernel
theorem dX10_isUprightAt_17 : decode cX10_isUprightAt 17 = .ok (.lmul, 1) := by decide +kernel
theorem dX10_isUprightAt_18 : decode cX10_isUprightAt 18 = .ok (.lload_n 2, 1) := by decide +kernel
theorem dX10_isUprightAt_19 : decode cX10_isUprightAt 19 = .ok (.lcmp, 1) := by decide +kernel
theorem dX10_isUprightAt_20 : decode cX10_isUprightAt 20 = .ok (.ifCond .ne 7, 3) := by decide +kernel
theorem dX10_isUprightAt_23 : decode cX10_isUprightAt 23 = .ok (.iconst 1, 1) := by decide +kernel
theorem dX10_isUprightAt_24 : decode cX10_isUprightAt 24 = .ok (.goto 4, 3) := by decide +kernel
theorem dX10_isUprightAt_27 : decode cX10_isUprightAt 27 = .ok (.iconst 0, 1) := by decide +kernel
theorem dX10_isUprightAt_28 : decode cX10_isUprightAt 28 = .ok (.ireturn, 1) := by decide +kernel
theorem dX10_hasMore_0 : decode cX10_hasMore 0 = .ok (.aload_n 0, 1) := by decide +kernel
theorem dX10_hasMore_1 : decode cX10_hasMore 1 = .ok (.getfield 13, 3) := by decide +kernel
theorem dX10_hasMore_4 : decode cX10_hasMore 4 = .ok (.iload_n 1, 1) := by decide +kernel
theorem dX10_hasMore_5 : decode cX10_hasMore 5 = .ok (.iaload, 1) := by decide +kernel
theorem dX10_hasMore_6 : decode cX10_hasMore 6 = .ok (.i2l, 1) := by decide +kernel
theorem dX10_hasMore_7 : decode cX10_hasMore 7 = .ok (.lconst 1, 1) := by decide +kernel
theorem dX10_hasMore_8 : decode cX10_hasMore 8 = .ok (.aload_n 0, 1) := by decide +kernel
theorem dX10_hasMore_9 : decode cX10_hasMore 9 = .ok (.getfield 290, 3) := by decide +kernel
theorem dX10_hasMore_12 : decode cX10_hasMore 12 = .ok (.aload_n 0, 1) := by decide +kernel
theorem dX10_hasMore_13 : decode cX10_hasMore 13 = .ok (.getfield 293, 3) := by decide +kernel
theorem dX10_hasMore_16 : decode cX10_hasMore 16 = .ok (.invokestatic 172, 3) := by decide +kernel
theorem dX10_hasMore_19 : decode cX10_hasMore 19 = .ok (.ifCond .le 7, 3) := by decide +kernel
theorem dX10_hasMore_22 : decode cX10_hasMore 22 = .ok (.iconst 1, 1) := by decide +kernel
theorem dX10_hasMore_23 : decode cX10_hasMore 23 = .ok (.goto 4, 3) := by decide +kernel
theorem dX10_hasMore_26 : decode cX10_hasMore 26 = .ok (.iconst 0, 1) := by decide +kernel
theorem dX10_hasMore_27 : decode cX10_hasMore 27 = .ok (.istore_n 2, 1) := by decide +kernel
theorem dX10_hasMore_28 : decode cX10_hasMore 28 = .ok (.aload_n 0, 1) := by decide +kernel
theorem dX10_hasMore_29 : decode cX10_hasMore 29 = .ok (.getfield 19, 3) := by decide +kernel
theorem dX10_hasMore_32 : decode cX10_hasMore 32 = .ok (.iload_n 1, 1) := by decide +kernel
theorem dX10_hasMore_33 : decode cX10_hasMore 33 = .ok (.iaload, 1) := by decide +kernel
theorem dX10_hasMore_34 : decode cX10_hasMore 34 = .ok (.i2l, 1) := by decide +kernel
theorem dX10_hasMore_35 : decode cX10_hasMore 35 = .ok (.lconst 1, 1) := by decide +kernel
theorem dX10_hasMore_36 : decode cX10_hasMore 36 = .ok (.aload_n 0, 1) := by decide +kernel
theorem dX10_hasMore_37 : decode cX10_hasMore 37 = .ok (.getfield 296, 3) := by decide +kernel
theorem dX10_hasMore_40 : decode cX10_hasMore 40 = .ok (.aload_n 0, 1) := by decide +kernel
theorem dX10_hasMore_41 : decode cX10_hasMore 41 = .ok (.getfield 299, 3) := by decide +kernel
theorem dX10_hasMore_44 : decode cX10_hasMore 44 = .ok (.invokestatic 172, 3) := by decide +kernel
theorem dX10_hasMore_47 : decode cX10_hasMore 47 = .ok (.ifCond .ge 7, 3) := by decide +kernel
theorem dX10_hasMore_50 : decode cX10_hasMore 50 = .ok (.iconst 1, 1) := by decide +kernel
theorem dX10_hasMore_51 : decode cX10_hasMore 51 = .ok (.goto 4, 3) := by decide +kernel
theorem dX10_hasMore_54 : decode cX10_hasMore 54 = .ok (.iconst 0, 1) := by decide +kernel
theorem dX10_hasMore_55 : decode cX10_hasMore 55 = .ok (.istore_n 3, 1) := by decide +kernel
theorem dX10_hasMore_56 : decode cX10_hasMore 56 = .ok (.iload_n 2, 1) := by decide +kernel
theorem dX10_hasMore_57 : decode cX10_hasMore 57 = .ok (.ifCond .eq 13, 3) := by decide +kernel
theorem dX10_hasMore_60 : decode cX10_hasMore 60 = .ok (.aload_n 0, 1) := by decide +kernel
theorem dX10_hasMore_61 : decode cX10_hasMore 61 = .ok (.getfield 13, 3) := by decide +kernel
theorem dX10_hasMore_64 : decode cX10_hasMore 64 = .ok (.iload_n 1, 1) := by decide +kernel
theorem dX10_hasMore_65 : decode cX10_hasMore 65 = .ok (.iaload, 1) := by decide +kernel
theorem dX10_hasMore_66 : decode cX10_hasMore 66 = .ok (.i2l, 1) := by decide +kernel
theorem dX10_hasMore_67 : decode cX10_hasMore 67 = .ok (.goto 7, 3) := by decide +kernel
theorem dX10_hasMore_70 : decode cX10_hasMore 70 = .ok (.aload_n 0, 1) := by decide +kernel
theorem dX10_hasMore_71 : decode cX10_hasMore 71 = .ok (.getfield 290, 3) := by decide +kernel
theorem dX10_hasMore_74 : decode cX10_hasMore 74 = .ok (.iload_n 2, 1) := by decide +kernel
theorem dX10_hasMore_75 : decode cX10_hasMore 75 = .ok (.ifCond .eq 7, 3) := by decide +kernel
theorem dX10_hasMore_78 : decode cX10_hasMore 78 = .ok (.lconst 1, 1) := by decide +kernel
theorem dX10_hasMore_79 : decode cX10_hasMore 79 = .ok (.goto 7, 3) := by decide +kernel
theorem dX10_hasMore_82 : decode cX10_hasMore 82 = .ok (.aload_n 0, 1) := by decide +kernel
theorem dX10_hasMore_83 : decode cX10_hasMore 83 = .ok (.getfield 293, 3) := by decide +kernel
theorem dX10_hasMore_86 : decode cX10_hasMore 86 = .ok (.iload_n 3, 1) := by decide +kernel
theorem dX10_hasMore_87 : decode cX10_hasMore 87 = .ok (.ifCond .eq 13, 3) := by decide +kernel
theorem dX10_hasMore_90 : decode cX10_hasMore 90 = .ok (.aload_n 0, 1) := by decide +kernel
theorem dX10_hasMore_91 : decode cX10_hasMore 91 = .ok (.getfield 19, 3) := by decide +kernel
theorem dX10_hasMore_94 : decode cX10_hasMore 94 = .ok (.iload_n 1, 1) := by decide +kernel
theorem dX10_hasMore_95 : decode cX10_hasMore 95 = .ok (.iaload, 1) := by decide +kernel
theorem dX10_hasMore_96 : decode cX10_hasMore 96 = .ok (.i2l, 1) := by decide +kernel
theorem dX10_hasMore_97 : decode cX10_hasMore 97 = .ok (.goto 7, 3) := by decide +kernel
theorem dX10_hasMore_100 : decode cX10_hasMore 100 = .ok (.aload_n 0, 1) := by decide +kernel
theorem dX10_hasMore_101 : decode cX10_hasMore 101 = .ok (.getfield 296, 3) := by decide +kernel
theorem dX10_hasMore_104 : decode cX10_hasMore 104 = .ok (.iload_n 3, 1) := by decide +kernel
theorem dX10_hasMore_105 : decode cX10_hasMore 105 = .ok (.ifCond .eq 7, 3) := by decide +kernel
theorem dX10_hasMore_108 : decode cX10_hasMore 108 = .ok (.lconst 1, 1) := by decide +kernel
theorem dX10_hasMore_109 : decode cX10_hasMore 109 = .ok (.goto 7, 3) := by decide +kernel
theorem dX10_hasMore_112 : decode cX10_hasMore 112 = .ok (.aload_n 0, 1) := by decide +kernel
theorem dX10_hasMore_113 : decode cX10_hasMore 113 = .ok (.getfield 299, 3) := by decide +kernel
theorem dX10_hasMore_116 : decode cX10_hasMore 116 = .ok (.invokestatic 172, 3) := by decide +kernel
theorem dX10_hasMore_119 : decode cX10_hasMore 119 = .ok (.ifCond .ge 7, 3) := by decide +kernel
theorem dX10_hasMore_122 : decode cX10_hasMore 122 = .ok (.iconst 1, 1) := by decide +kernel
theorem dX10_hasMore_123 : decode cX10_hasMore 123 = .ok (.goto 4, 3) := by decide +kernel
theorem dX10_hasMore_126 : decode cX10_hasMore 126 = .ok (.iconst 0, 1) := by decide +kernel
theorem dX10_hasMore_127 : decode cX10_hasMore 127 = .ok (.ireturn, 1) := by decide +kernel
theorem dX10_isOpen_0 : decode cX10_isOpen 0 = .ok (.aload_n 0, 1) := by decide +kernel
theorem dX10_isOpen_1 : decode cX10_isOpen 1 = .ok (.getfield 290, 3) := by decide +kernel
theorem dX10_isOpen_4 : decode cX10_isOpen 4 = .ok (.lstore 5, 2) := by decide +kernel
theorem dX10_isOpen_6 : decode cX10_isOpen 6 = .ok (.aload_n 0, 1) := by decide +kernel
theorem dX10_isOpen_7 : decode cX10_isOpen 7 = .ok (.getfield 293, 3) := by decide +kernel
theorem dX10_isOpen_10 : decode cX10_isOpen 10 = .ok (.lstore 7, 2) := by decide +kernel
theorem dX10_isOpen_12 : decode cX10_isOpen 12 = .ok (.iconst 1, 1) := by decide +kernel
theorem dX10_isOpen_13 : decode cX10_isOpen 13 = .ok (.istore 9, 2) := by decide +kernel
theorem dX10_isOpen_15 : decode cX10_isOpen 15 = .ok (.iload 9, 2) := by decide +kernel
theorem dX10_isOpen_17 : decode cX10_isOpen 17 = .ok (.ifCond .eq 95, 3) := by decide +kernel
theorem dX10_isOpen_20 : decode cX10_isOpen 20 = .ok (.iconst 0, 1) := by decide +kernel
theorem dX10_isOpen_21 : decode cX10_isOpen 21 = .ok (.istore 9, 2) := by decide +kernel
theorem dX10_isOpen_23 : decode cX10_isOpen 23 = .ok (.iconst 0, 1) := by decide +kernel
theorem dX10_isOpen_24 : decode cX10_isOpen 24 = .ok (.istore 10, 2) := by decide +kernel
theorem dX10_isOpen_26 : decode cX10_isOpen 26 = .ok (.iload 10, 2) := by decide +kernel
theorem dX10_isOpen_28 : decode cX10_isOpen 28 = .ok (.aload_n 0, 1) := by decide +kernel
theorem dX10_isOpen_29 : decode cX10_isOpen 29 = .ok (.getfield 109, 3) := by decide +kernel
theorem dX10_isOpen_32 : decode cX10_isOpen 32 = .ok (.if_icmp .ge 77, 3) := by decide +kernel
theorem dX10_isOpen_35 : decode cX10_isOpen 35 = .ok (.aload_n 0, 1) := by decide +kernel
theorem dX10_isOpen_36 : decode cX10_isOpen 36 = .ok (.iload 10, 2) := by decide +kernel
theorem dX10_isOpen_38 : decode cX10_isOpen 38 = .ok (.lload_n 1, 1) := by decide +kernel
theorem dX10_isOpen_39 : decode cX10_isOpen 39 = .ok (.lload_n 3, 1) := by decide +kernel
theorem dX10_isOpen_40 : decode cX10_isOpen 40 = .ok (.invokevirtual 306, 3) := by decide +kernel
theorem dX10_isOpen_43 : decode cX10_isOpen 43 = .ok (.ifCond .eq 60, 3) := by decide +kernel
theorem dX10_isOpen_46 : decode cX10_isOpen 46 = .ok (.aload_n 0, 1) := by decide +kernel
theorem dX10_isOpen_47 : decode cX10_isOpen 47 = .ok (.getfield 13, 3) := by decide +kernel
theorem dX10_isOpen_50 : decode cX10_isOpen 50 = .ok (.iload 10, 2) := by decide +kernel
theorem dX10_isOpen_52 : decode cX10_isOpen 52 = .ok (.iaload, 1) := by decide +kernel
theorem dX10_isOpen_53 : decode cX10_isOpen 53 = .ok (.i2l, 1) := by decide +kernel
theorem dX10_isOpen_54 : decode cX10_isOpen 54 = .ok (.lconst 1, 1) := by decide +kernel
theorem dX10_isOpen_55 : decode cX10_isOpen 55 = .ok (.lload 5, 2) := by decide +kernel
theorem dX10_isOpen_57 : decode cX10_isOpen 57 = .ok (.lload 7, 2) := by decide +kernel
theorem dX10_isOpen_59 : decode cX10_isOpen 59 = .ok (.invokestatic 172, 3) := by decide +kernel
theorem dX10_isOpen_62 : decode cX10_isOpen 62 = .ok (.ifCond .gt 41, 3) := by decide +kernel
theorem dX10_isOpen_65 : decode cX10_isOpen 65 = .ok (.aload_n 0, 1) := by decide +kernel
theorem dX10_isOpen_66 : decode cX10_isOpen 66 = .ok (.getfield 19, 3) := by decide +kernel
theorem dX10_isOpen_69 : decode cX10_isOpen 69 = .ok (.iload 10, 2) := by decide +kernel
theorem dX10_isOpen_71 : decode cX10_isOpen 71 = .ok (.iaload, 1) := by decide +kernel
theorem dX10_isOpen_72 : decode cX10_isOpen 72 = .ok (.i2l, 1) := by decide +kernel
theorem dX10_isOpen_73 : decode cX10_isOpen 73 = .ok (.lconst 1, 1) := by decide +kernel
theorem dX10_isOpen_74 : decode cX10_isOpen 74 = .ok (.lload 5, 2) := by decide +kernel
theorem dX10_isOpen_76 : decode cX10_isOpen 76 = .ok (.lload 7, 2) := by decide +kernel
theorem dX10_isOpen_78 : decode cX10_isOpen 78 = .ok (.invokestatic 172, 3) := by decide +kernel
theorem dX10_isOpen_81 : decode cX10_isOpen 81 = .ok (.ifCond .gt 6, 3) := by decide +kernel
theorem dX10_isOpen_84 : decode cX10_isOpen 84 = .ok (.goto 19, 3) := by decide +kernel
theorem dX10_isOpen_87 : decode cX10_isOpen 87 = .ok (.aload_n 0, 1) := by decide +kernel
theorem dX10_isOpen_88 : decode cX10_isOpen 88 = .ok (.getfield 19, 3) := by decide +kernel
theorem dX10_isOpen_91 : decode cX10_isOpen 91 = .ok (.iload 10, 2) := by decide +kernel
theorem dX10_isOpen_93 : decode cX10_isOpen 93 = .ok (.iaload, 1) := by decide +kernel
theorem dX10_isOpen_94 : decode cX10_isOpen 94 = .ok (.i2l, 1) := by decide +kernel
theorem dX10_isOpen_95 : decode cX10_isOpen 95 = .ok (.lstore 5, 2) := by decide +kernel
theorem dX10_isOpen_97 : decode cX10_isOpen 97 = .ok (.lconst 1, 1) := by decide +kernel
theorem dX10_isOpen_98 : decode cX10_isOpen 98 = .ok (.lstore 7, 2) := by decide +kernel
theorem dX10_isOpen_100 : decode cX10_isOpen 100 = .ok (.iconst 1, 1) := by decide +kernel
theorem dX10_isOpen_101 : decode cX10_isOpen 101 = .ok (.istore 9, 2) := by decide +kernel
theorem dX10_isOpen_103 : decode cX10_isOpen 103 = .ok (.iinc 10 1, 3) := by decide +kernel
theorem dX10_isOpen_106 : decode cX10_isOpen 106 = .ok (.goto (-80), 3) := by decide +kernel
theorem dX10_isOpen_109 : decode cX10_isOpen 109 = .ok (.goto (-94), 3) := by decide +kernel
theorem dX10_isOpen_112 : decode cX10_isOpen 112 = .ok (.lload 5, 2) := by decide +kernel
theorem dX10_isOpen_114 : decode cX10_isOpen 114 = .ok (.lload 7, 2) := by decide +kernel
theorem dX10_isOpen_116 : decode cX10_isOpen 116 = .ok (.aload_n 0, 1) := by decide +kernel
theorem dX10_isOpen_117 : decode cX10_isOpen 117 = .ok (.getfield 296, 3) := by decide +kernel
theorem dX10_isOpen_120 : decode cX10_isOpen 120 = .ok (.aload_n 0, 1) := by decide +kernel
theorem dX10_isOpen_121 : decode cX10_isOpen 121 = .ok (.getfield 299, 3) := by decide +kernel
theorem dX10_isOpen_124 : decode cX10_isOpen 124 = .ok (.invokestatic 172, 3) := by decide +kernel
theorem dX10_isOpen_127 : decode cX10_isOpen 127 = .ok (.ifCond .ge 7, 3) := by decide +kernel
theorem dX10_isOpen_130 : decode cX10_isOpen 130 = .ok (.iconst 1, 1) := by decide +kernel
theorem dX10_isOpen_131 : decode cX10_isOpen 131 = .ok (.goto 4, 3) := by decide +kernel
theorem dX10_isOpen_134 : decode cX10_isOpen 134 = .ok (.iconst 0, 1) := by decide +kernel
theorem dX10_isOpen_135 : decode cX10_isOpen 135 = .ok (.ireturn, 1) := by decide +kernel
theorem dX10_joinCells_0 : decode cX10_joinCells 0 = .ok (.iconst 0, 1) := by decide +kernel
theorem dX10_joinCells_1 : decode cX10_joinCells 1 = .ok (.istore_n 1, 1) := by decide +kernel
theorem dX10_joinCells_2 : decode cX10_joinCells 2 = .ok (.iload_n 1, 1) := by decide +kernel
theorem dX10_joinCells_3 : decode cX10_joinCells 3 = .ok (.aload_n 0, 1) := by decide +kernel
theorem dX10_joinCells_4 : decode cX10_joinCells 4 = .ok (.getfield 267, 3) := by decide +kernel
theorem dX10_joinCells_7 : decode cX10_joinCells 7 = .ok (.if_icmp .ge 16, 3) := by decide +kernel
theorem dX10_joinCells_10 : decode cX10_joinCells 10 = .ok (.aload_n 0, 1) := by decide +kernel
theorem dX10_joinCells_11 : decode cX10_joinCells 11 = .ok (.getfield 72, 3) := by decide +kernel
theorem dX10_joinCells_14 : decode cX10_joinCells 14 = .ok (.iload_n 1, 1) := by decide +kernel
theorem dX10_joinCells_15 : decode cX10_joinCells 15 = .ok (.iload_n 1, 1) := by decide +kernel
theorem dX10_joinCells_16 : decode cX10_joinCells 16 = .ok (.iastore, 1) := by decide +kernel
theorem dX10_joinCells_17 : decode cX10_joinCells 17 = .ok (.iinc 1 1, 3) := by decide +kernel
theorem dX10_joinCells_20 : decode cX10_joinCells 20 = .ok (.goto (-18), 3) := by decide +kernel
theorem dX10_joinCells_23 : decode cX10_joinCells 23 = .ok (.iconst 1, 1) := by decide +kernel
theorem dX10_joinCells_24 : decode cX10_joinCells 24 = .ok (.istore_n 1, 1) := by decide +kernel
theorem dX10_joinCells_25 : decode cX10_joinCells 25 = .ok (.iload_n 1, 1) := by decide +kernel
theorem dX10_joinCells_26 : decode cX10_joinCells 26 = .ok (.aload_n 0, 1) := by decide +kernel
theorem dX10_joinCells_27 : decode cX10_joinCells 27 = .ok (.getfield 278, 3) := by decide +kernel
theorem dX10_joinCells_30 : decode cX10_joinCells 30 = .ok (.if_icmp .ge 199, 3) := by decide +kernel
theorem dX10_joinCells_33 : decode cX10_joinCells 33 = .ok (.aload_n 0, 1) := by decide +kernel
theorem dX10_joinCells_34 : decode cX10_joinCells 34 = .ok (.getfield 60, 3) := by decide +kernel
theorem dX10_joinCells_37 : decode cX10_joinCells 37 = .ok (.iload_n 1, 1) := by decide +kernel
theorem dX10_joinCells_38 : decode cX10_joinCells 38 = .ok (.iconst 1, 1) := by decide +kernel
theorem dX10_joinCells_39 : decode cX10_joinCells 39 = .ok (.isub, 1) := by decide +kernel
theorem dX10_joinCells_40 : decode cX10_joinCells 40 = .ok (.iaload, 1) := by decide +kernel
theorem dX10_joinCells_41 : decode cX10_joinCells 41 = .ok (.istore_n 2, 1) := by decide +kernel
theorem dX10_joinCells_42 : decode cX10_joinCells 42 = .ok (.iload_n 2, 1) := by decide +kernel
theorem dX10_joinCells_43 : decode cX10_joinCells 43 = .ok (.aload_n 0, 1) := by decide +kernel
theorem dX10_joinCells_44 : decode cX10_joinCells 44 = .ok (.getfield 60, 3) := by decide +kernel
theorem dX10_joinCells_47 : decode cX10_joinCells 47 = .ok (.iload_n 1, 1) := by decide +kernel
theorem dX10_joinCells_48 : decode cX10_joinCells 48 = .ok (.iaload, 1) := by decide +kernel
theorem dX10_joinCells_49 : decode cX10_joinCells 49 = .ok (.if_icmp .ge 174, 3) := by decide +kernel
theorem dX10_joinCells_52 : decode cX10_joinCells 52 = .ok (.aload_n 0, 1) := by decide +kernel
theorem dX10_joinCells_53 : decode cX10_joinCells 53 = .ok (.getfield 60, 3) := by decide +kernel
theorem dX10_joinCells_56 : decode cX10_joinCells 56 = .ok (.iload_n 1, 1) := by decide +kernel
theorem dX10_joinCells_57 : decode cX10_joinCells 57 = .ok (.iaload, 1) := by decide +kernel
theorem dX10_joinCells_58 : decode cX10_joinCells 58 = .ok (.istore_n 3, 1) := by decide +kernel
theorem dX10_joinCells_59 : decode cX10_joinCells 59 = .ok (.iload_n 3, 1) := by decide +kernel
theorem dX10_joinCells_60 : decode cX10_joinCells 60 = .ok (.aload_n 0, 1) := by decide +kernel
theorem dX10_joinCells_61 : decode cX10_joinCells 61 = .ok (.getfield 60, 3) := by decide +kernel
theorem dX10_joinCells_64 : decode cX10_joinCells 64 = .ok (.iload_n 1, 1) := by decide +kernel
theorem dX10_joinCells_65 : decode cX10_joinCells 65 = .ok (.iconst 1, 1) := by decide +kernel
theorem dX10_joinCells_66 : decode cX10_joinCells 66 = .ok (.iadd, 1) := by decide +kernel
theorem dX10_joinCells_67 : decode cX10_joinCells 67 = .ok (.iaload, 1) := by decide +kernel
theorem dX10_joinCells_68 : decode cX10_joinCells 68 = .ok (.if_icmp .ge 149, 3) := by decide +kernel
theorem dX10_joinCells_71 : decode cX10_joinCells 71 = .ok (.aload_n 0, 1) := by decide +kernel
theorem dX10_joinCells_72 : decode cX10_joinCells 72 = .ok (.invokevirtual 309, 3) := by decide +kernel
theorem dX10_joinCells_75 : decode cX10_joinCells 75 = .ok (.aload_n 0, 1) := by decide +kernel
theorem dX10_joinCells_76 : decode cX10_joinCells 76 = .ok (.iload_n 2, 1) := by decide +kernel
theorem dX10_joinCells_77 : decode cX10_joinCells 77 = .ok (.aload_n 0, 1) := by decide +kernel
theorem dX10_joinCells_78 : decode cX10_joinCells 78 = .ok (.getfield 54, 3) := by decide +kernel
theorem dX10_joinCells_81 : decode cX10_joinCells 81 = .ok (.iload_n 1, 1) := by decide +kernel
theorem dX10_joinCells_82 : decode cX10_joinCells 82 = .ok (.laload, 1) := by decide +kernel
theorem dX10_joinCells_83 : decode cX10_joinCells 83 = .ok (.aload_n 0, 1) := by decide +kernel
theorem dX10_joinCells_84 : decode cX10_joinCells 84 = .ok (.getfield 57, 3) := by decide +kernel
theorem dX10_joinCells_87 : decode cX10_joinCells 87 = .ok (.iload_n 1, 1) := by decide +kernel
theorem dX10_joinCells_88 : decode cX10_joinCells 88 = .ok (.laload, 1) := by decide +kernel
theorem dX10_joinCells_89 : decode cX10_joinCells 89 = .ok (.invokevirtual 312, 3) := by decide +kernel
theorem dX10_joinCells_92 : decode cX10_joinCells 92 = .ok (.aload_n 0, 1) := by decide +kernel
theorem dX10_joinCells_93 : decode cX10_joinCells 93 = .ok (.iload_n 3, 1) := by decide +kernel
theorem dX10_joinCells_94 : decode cX10_joinCells 94 = .ok (.aload_n 0, 1) := by decide +kernel
theorem dX10_joinCells_95 : decode cX10_joinCells 95 = .ok (.getfield 54, 3) := by decide +kernel
theorem dX10_joinCells_98 : decode cX10_joinCells 98 = .ok (.iload_n 1, 1) := by decide +kernel
theorem dX10_joinCells_99 : decode cX10_joinCells 99 = .ok (.laload, 1) := by decide +kernel
theorem dX10_joinCells_100 : decode cX10_joinCells 100 = .ok (.aload_n 0, 1) := by decide +kernel
theorem dX10_joinCells_101 : decode cX10_joinCells 101 = .ok (.getfield 57, 3) := by decide +kernel
theorem dX10_joinCells_104 : decode cX10_joinCells 104 = .ok (.iload_n 1, 1) := by decide +kernel
theorem dX10_joinCells_105 : decode cX10_joinCells 105 = .ok (.laload, 1) := by decide +kernel
theorem dX10_joinCells_106 : decode cX10_joinCells 106 = .ok (.invokevirtual 312, 3) := by decide +kernel
theorem dX10_joinCells_109 : decode cX10_joinCells 109 = .ok (.aload_n 0, 1) := by decide +kernel
theorem dX10_joinCells_110 : decode cX10_joinCells 110 = .ok (.invokevirtual 316, 3) := by decide +kernel
theorem dX10_joinCells_113 : decode cX10_joinCells 113 = .ok (.ifCond .eq 98, 3) := by decide +kernel
theorem dX10_joinCells_116 : decode cX10_joinCells 116 = .ok (.aload_n 0, 1) := by decide +kernel
theorem dX10_joinCells_117 : decode cX10_joinCells 117 = .ok (.aload_n 0, 1) := by decide +kernel
theorem dX10_joinCells_118 : decode cX10_joinCells 118 = .ok (.getfield 54, 3) := by decide +kernel
theorem dX10_joinCells_121 : decode cX10_joinCells 121 = .ok (.iload_n 1, 1) := by decide +kernel
theorem dX10_joinCells_122 : decode cX10_joinCells 122 = .ok (.laload, 1) := by decide +kernel
theorem dX10_joinCells_123 : decode cX10_joinCells 123 = .ok (.aload_n 0, 1) := by decide +kernel
theorem dX10_joinCells_124 : decode cX10_joinCells 124 = .ok (.getfield 57, 3) := by decide +kernel
theorem dX10_joinCells_127 : decode cX10_joinCells 127 = .ok (.iload_n 1, 1) := by decide +kernel
theorem dX10_joinCells_128 : decode cX10_joinCells 128 = .ok (.laload, 1) := by decide +kernel
theorem dX10_joinCells_129 : decode cX10_joinCells 129 = .ok (.invokevirtual 320, 3) := by decide +kernel
theorem dX10_joinCells_132 : decode cX10_joinCells 132 = .ok (.ifCond .ne 6, 3) := by decide +kernel
theorem dX10_joinCells_135 : decode cX10_joinCells 135 = .ok (.goto 76, 3) := by decide +kernel
theorem dX10_joinCells_138 : decode cX10_joinCells 138 = .ok (.aload_n 0, 1) := by decide +kernel
theorem dX10_joinCells_139 : decode cX10_joinCells 139 = .ok (.getfield 72, 3) := by decide +kernel
theorem dX10_joinCells_142 : decode cX10_joinCells 142 = .ok (.iload_n 2, 1) := by decide +kernel
theorem dX10_joinCells_143 : decode cX10_joinCells 143 = .ok (.iaload, 1) := by decide +kernel
theorem dX10_joinCells_144 : decode cX10_joinCells 144 = .ok (.aload_n 0, 1) := by decide +kernel
theorem dX10_joinCells_145 : decode cX10_joinCells 145 = .ok (.getfield 72, 3) := by decide +kernel
theorem dX10_joinCells_148 : decode cX10_joinCells 148 = .ok (.iload_n 3, 1) := by decide +kernel
theorem dX10_joinCells_149 : decode cX10_joinCells 149 = .ok (.iaload, 1) := by decide +kernel
theorem dX10_joinCells_150 : decode cX10_joinCells 150 = .ok (.invokestatic 187, 3) := by decide +kernel
theorem dX10_joinCells_153 : decode cX10_joinCells 153 = .ok (.istore 4, 2) := by decide +kernel
theorem dX10_joinCells_155 : decode cX10_joinCells 155 = .ok (.aload_n 0, 1) := by decide +kernel
theorem dX10_joinCells_156 : decode cX10_joinCells 156 = .ok (.getfield 72, 3) := by decide +kernel
theorem dX10_joinCells_159 : decode cX10_joinCells 159 = .ok (.iload_n 2, 1) := by decide +kernel
theorem dX10_joinCells_160 : decode cX10_joinCells 160 = .ok (.iaload, 1) := by decide +kernel
theorem dX10_joinCells_161 : decode cX10_joinCells 161 = .ok (.aload_n 0, 1) := by decide +kernel
theorem dX10_joinCells_162 : decode cX10_joinCells 162 = .ok (.getfield 72, 3) := by decide +kernel
theorem dX10_joinCells_165 : decode cX10_joinCells 165 = .ok (.iload_n 3, 1) := by decide +kernel
theorem dX10_joinCells_166 : decode cX10_joinCells 166 = .ok (.iaload, 1) := by decide +kernel
theorem dX10_joinCells_167 : decode cX10_joinCells 167 = .ok (.invokestatic 193, 3) := by decide +kernel
theorem dX10_joinCells_170 : decode cX10_joinCells 170 = .ok (.istore 5, 2) := by decide +kernel
theorem dX10_joinCells_172 : decode cX10_joinCells 172 = .ok (.iconst 0, 1) := by decide +kernel
theorem dX10_joinCells_173 : decode cX10_joinCells 173 = .ok (.istore 6, 2) := by decide +kernel
theorem dX10_joinCells_175 : decode cX10_joinCells 175 = .ok (.iload 6, 2) := by decide +kernel
theorem dX10_joinCells_177 : decode cX10_joinCells 177 = .ok (.aload_n 0, 1) := by decide +kernel
theorem dX10_joinCells_178 : decode cX10_joinCells 178 = .ok (.getfield 267, 3) := by decide +kernel
theorem dX10_joinCells_181 : decode cX10_joinCells 181 = .ok (.if_icmp .ge 30, 3) := by decide +kernel
theorem dX10_joinCells_184 : decode cX10_joinCells 184 = .ok (.aload_n 0, 1) := by decide +kernel
theorem dX10_joinCells_185 : decode cX10_joinCells 185 = .ok (.getfield 72, 3) := by decide +kernel
theorem dX10_joinCells_188 : decode cX10_joinCells 188 = .ok (.iload 6, 2) := by decide +kernel
theorem dX10_joinCells_190 : decode cX10_joinCells 190 = .ok (.iaload, 1) := by decide +kernel
theorem dX10_joinCells_191 : decode cX10_joinCells 191 = .ok (.iload 5, 2) := by decide +kernel
theorem dX10_joinCells_193 : decode cX10_joinCells 193 = .ok (.if_icmp .ne 12, 3) := by decide +kernel
theorem dX10_joinCells_196 : decode cX10_joinCells 196 = .ok (.aload_n 0, 1) := by decide +kernel
theorem dX10_joinCells_197 : decode cX10_joinCells 197 = .ok (.getfield 72, 3) := by decide +kernel
theorem dX10_joinCells_200 : decode cX10_joinCells 200 = .ok (.iload 6, 2) := by decide +kernel
theorem dX10_joinCells_202 : decode cX10_joinCells 202 = .ok (.iload 4, 2) := by decide +kernel
theorem dX10_joinCells_204 : decode cX10_joinCells 204 = .ok (.iastore, 1) := by decide +kernel
theorem dX10_joinCells_205 : decode cX10_joinCells 205 = .ok (.iinc 6 1, 3) := by decide +kernel
theorem dX10_joinCells_208 : decode cX10_joinCells 208 = .ok (.goto (-33), 3) := by decide +kernel
theorem dX10_joinCells_211 : decode cX10_joinCells 211 = .ok (.iinc 3 1, 3) := by decide +kernel
theorem dX10_joinCells_214 : decode cX10_joinCells 214 = .ok (.goto (-155), 3) := by decide +kernel
theorem dX10_joinCells_217 : decode cX10_joinCells 217 = .ok (.iinc 2 1, 3) := by decide +kernel
theorem dX10_joinCells_220 : decode cX10_joinCells 220 = .ok (.goto (-178), 3) := by decide +kernel
theorem dX10_joinCells_223 : decode cX10_joinCells 223 = .ok (.iinc 1 1, 3) := by decide +kernel
theorem dX10_joinCells_226 : decode cX10_joinCells 226 = .ok (.goto (-201), 3) := by decide +kernel
theorem dX10_joinCells_229 : decode cX10_joinCells 229 = .ok (.aload_n 0, 1) := by decide +kernel
theorem dX10_joinCells_230 : decode cX10_joinCells 230 = .ok (.iconst 0, 1) := by decide +kernel
theorem dX10_joinCells_231 : decode cX10_joinCells 231 = .ok (.putfield 324, 3) := by decide +kernel
theorem dX10_joinCells_234 : decode cX10_joinCells 234 = .ok (.iconst 0, 1) := by decide +kernel
theorem dX10_joinCells_235 : decode cX10_joinCells 235 = .ok (.istore_n 1, 1) := by decide +kernel
theorem dX10_joinCells_236 : decode cX10_joinCells 236 = .ok (.iload_n 1, 1) := by decide +kernel
theorem dX10_joinCells_237 : decode cX10_joinCells 237 = .ok (.aload_n 0, 1) := by decide +kernel
theorem dX10_joinCells_238 : decode cX10_joinCells 238 = .ok (.getfield 267, 3) := by decide +kernel
theorem dX10_joinCells_241 : decode cX10_joinCells 241 = .ok (.if_icmp .ge 69, 3) := by decide +kernel
theorem dX10_joinCells_244 : decode cX10_joinCells 244 = .ok (.aload_n 0, 1) := by decide +kernel
theorem dX10_joinCells_245 : decode cX10_joinCells 245 = .ok (.getfield 72, 3) := by decide +kernel
theorem dX10_joinCells_248 : decode cX10_joinCells 248 = .ok (.iload_n 1, 1) := by decide +kernel
theorem dX10_joinCells_249 : decode cX10_joinCells 249 = .ok (.iaload, 1) := by decide +kernel
theorem dX10_joinCells_250 : decode cX10_joinCells 250 = .ok (.iload_n 1, 1) := by decide +kernel
theorem dX10_joinCells_251 : decode cX10_joinCells 251 = .ok (.if_icmp .eq 23, 3) := by decide +kernel
theorem dX10_joinCells_254 : decode cX10_joinCells 254 = .ok (.aload_n 0, 1) := by decide +kernel
theorem dX10_joinCells_255 : decode cX10_joinCells 255 = .ok (.getfield 72, 3) := by decide +kernel
theorem dX10_joinCells_258 : decode cX10_joinCells 258 = .ok (.iload_n 1, 1) := by decide +kernel
theorem dX10_joinCells_259 : decode cX10_joinCells 259 = .ok (.aload_n 0, 1) := by decide +kernel
theorem dX10_joinCells_260 : decode cX10_joinCells 260 = .ok (.getfield 72, 3) := by decide +kernel
theorem dX10_joinCells_263 : decode cX10_joinCells 263 = .ok (.aload_n 0, 1) := by decide +kernel
theorem dX10_joinCells_264 : decode cX10_joinCells 264 = .ok (.getfield 72, 3) := by decide +kernel
theorem dX10_joinCells_267 : decode cX10_joinCells 267 = .ok (.iload_n 1, 1) := by decide +kernel
theorem dX10_joinCells_268 : decode cX10_joinCells 268 = .ok (.iaload, 1) := by decide +kernel
theorem dX10_joinCells_269 : decode cX10_joinCells 269 = .ok (.iaload, 1) := by decide +kernel
theorem dX10_joinCells_270 : decode cX10_joinCells 270 = .ok (.iastore, 1) := by decide +kernel
theorem dX10_joinCells_271 : decode cX10_joinCells 271 = .ok (.goto 33, 3) := by decide +kernel
theorem dX10_joinCells_274 : decode cX10_joinCells 274 = .ok (.aload_n 0, 1) := by decide +kernel
theorem dX10_joinCells_275 : decode cX10_joinCells 275 = .ok (.getfield 72, 3) := by decide +kernel
theorem dX10_joinCells_278 : decode cX10_joinCells 278 = .ok (.iload_n 1, 1) := by decide +kernel
theorem dX10_joinCells_279 : decode cX10_joinCells 279 = .ok (.aload_n 0, 1) := by decide +kernel
theorem dX10_joinCells_280 : decode cX10_joinCells 280 = .ok (.getfield 324, 3) := by decide +kernel
theorem dX10_joinCells_283 : decode cX10_joinCells 283 = .ok (.iastore, 1) := by decide +kernel
theorem dX10_joinCells_284 : decode cX10_joinCells 284 = .ok (.aload_n 0, 1) := by decide +kernel
theorem dX10_joinCells_285 : decode cX10_joinCells 285 = .ok (.getfield 78, 3) := by decide +kernel
theorem dX10_joinCells_288 : decode cX10_joinCells 288 = .ok (.aload_n 0, 1) := by decide +kernel
theorem dX10_joinCells_289 : decode cX10_joinCells 289 = .ok (.getfield 324, 3) := by decide +kernel
theorem dX10_joinCells_292 : decode cX10_joinCells 292 = .ok (.iload_n 1, 1) := by decide +kernel
theorem dX10_joinCells_293 : decode cX10_joinCells 293 = .ok (.iastore, 1) := by decide +kernel
theorem dX10_joinCells_294 : decode cX10_joinCells 294 = .ok (.aload_n 0, 1) := by decide +kernel
theorem dX10_joinCells_295 : decode cX10_joinCells 295 = .ok (.dup, 1) := by decide +kernel
theorem dX10_joinCells_296 : decode cX10_joinCells 296 = .ok (.getfield 324, 3) := by decide +kernel
theorem dX10_joinCells_299 : decode cX10_joinCells 299 = .ok (.iconst 1, 1) := by decide +kernel
theorem dX10_joinCells_300 : decode cX10_joinCells 300 = .ok (.iadd, 1) := by decide +kernel
theorem dX10_joinCells_301 : decode cX10_joinCells 301 = .ok (.putfield 324, 3) := by decide +kernel
theorem dX10_joinCells_304 : decode cX10_joinCells 304 = .ok (.iinc 1 1, 3) := by decide +kernel
theorem dX10_joinCells_307 : decode cX10_joinCells 307 = .ok (.goto (-71), 3) := by decide +kernel
theorem dX10_joinCells_310 : decode cX10_joinCells 310 = .ok (.return_, 1) := by decide +kernel
theorem dX10_slab_0 : decode cX10_slab 0 = .ok (.iload_n 2, 1) := by decide +kernel
theorem dX10_slab_1 : decode cX10_slab 1 = .ok (.iconst 0, 1) := by decide +kernel
theorem dX10_slab_2 : decode cX10_slab 2 = .ok (.iconst 3, 1) := by decide +kernel
theorem dX10_slab_3 : decode cX10_slab 3 = .ok (.invokestatic 113, 3) := by decide +kernel
theorem dX10_slab_6 : decode cX10_slab 6 = .ok (.ifCond .ne 6, 3) := by decide +kernel
theorem dX10_slab_9 : decode cX10_slab 9 = .ok (.bipush (-2), 2) := by decide +kernel
theorem dX10_slab_11 : decode cX10_slab 11 = .ok (.ireturn, 1) := by decide +kernel
theorem dX10_slab_12 : decode cX10_slab 12 = .ok (.aload_n 0, 1) := by decide +kernel
theorem dX10_slab_13 : decode cX10_slab 13 = .ok (.invokevirtual 327, 3) := by decide +kernel
theorem dX10_slab_16 : decode cX10_slab 16 = .ok (.iload_n 1, 1) := by decide +kernel
theorem dX10_slab_17 : decode cX10_slab 17 = .ok (.iconst 0, 1) := by decide +kernel
theorem dX10_slab_18 : decode cX10_slab 18 = .ok (.aload_n 0, 1) := by decide +kernel
theorem dX10_slab_19 : decode cX10_slab 19 = .ok (.getfield 278, 3) := by decide +kernel
theorem dX10_slab_22 : decode cX10_slab 22 = .ok (.iconst 1, 1) := by decide +kernel
theorem dX10_slab_23 : decode cX10_slab 23 = .ok (.isub, 1) := by decide +kernel
theorem dX10_slab_24 : decode cX10_slab 24 = .ok (.invokestatic 113, 3) := by decide +kernel
theorem dX10_slab_27 : decode cX10_slab 27 = .ok (.ifCond .ne 6, 3) := by decide +kernel
theorem dX10_slab_30 : decode cX10_slab 30 = .ok (.bipush (-12), 2) := by decide +kernel
theorem dX10_slab_32 : decode cX10_slab 32 = .ok (.ireturn, 1) := by decide +kernel
theorem dX10_slab_33 : decode cX10_slab 33 = .ok (.iload_n 2, 1) := by decide +kernel
theorem dX10_slab_34 : decode cX10_slab 34 = .ok (.iconst 2, 1) := by decide +kernel
theorem dX10_slab_35 : decode cX10_slab 35 = .ok (.if_icmp .ge 33, 3) := by decide +kernel
theorem dX10_slab_38 : decode cX10_slab 38 = .ok (.iload_n 1, 1) := by decide +kernel
theorem dX10_slab_39 : decode cX10_slab 39 = .ok (.ifCond .ne 8, 3) := by decide +kernel
theorem dX10_slab_42 : decode cX10_slab 42 = .ok (.bipush (-3), 2) := by decide +kernel
theorem dX10_slab_44 : decode cX10_slab 44 = .ok (.goto 23, 3) := by decide +kernel
theorem dX10_slab_47 : decode cX10_slab 47 = .ok (.iload_n 2, 1) := by decide +kernel
theorem dX10_slab_48 : decode cX10_slab 48 = .ok (.ifCond .ne 12, 3) := by decide +kernel
theorem dX10_slab_51 : decode cX10_slab 51 = .ok (.aload_n 0, 1) := by decide +kernel
theorem dX10_slab_52 : decode cX10_slab 52 = .ok (.getfield 54, 3) := by decide +kernel
theorem dX10_slab_55 : decode cX10_slab 55 = .ok (.iload_n 1, 1) := by decide +kernel
theorem dX10_slab_56 : decode cX10_slab 56 = .ok (.laload, 1) := by decide +kernel
theorem dX10_slab_57 : decode cX10_slab 57 = .ok (.goto 9, 3) := by decide +kernel
theorem dX10_slab_60 : decode cX10_slab 60 = .ok (.aload_n 0, 1) := by decide +kernel
theorem dX10_slab_61 : decode cX10_slab 61 = .ok (.getfield 57, 3) := by decide +kernel
theorem dX10_slab_64 : decode cX10_slab 64 = .ok (.iload_n 1, 1) := by decide +kernel
theorem dX10_slab_65 : decode cX10_slab 65 = .ok (.laload, 1) := by decide +kernel
theorem dX10_slab_66 : decode cX10_slab 66 = .ok (.l2i, 1) := by decide +kernel
theorem dX10_slab_67 : decode cX10_slab 67 = .ok (.ireturn, 1) := by decide +kernel
theorem dX10_slab_68 : decode cX10_slab 68 = .ok (.iload_n 2, 1) := by decide +kernel
theorem dX10_slab_69 : decode cX10_slab 69 = .ok (.iconst 2, 1) := by decide +kernel
theorem dX10_slab_70 : decode cX10_slab 70 = .ok (.if_icmp .ne 21, 3) := by decide +kernel
theorem dX10_slab_73 : decode cX10_slab 73 = .ok (.aload_n 0, 1) := by decide +kernel
theorem dX10_slab_74 : decode cX10_slab 74 = .ok (.getfield 60, 3) := by decide +kernel
theorem dX10_slab_77 : decode cX10_slab 77 = .ok (.iload_n 1, 1) := by decide +kernel
theorem dX10_slab_78 : decode cX10_slab 78 = .ok (.iconst 1, 1) := by decide +kernel
theorem dX10_slab_79 : decode cX10_slab 79 = .ok (.iadd, 1) := by decide +kernel
theorem dX10_slab_80 : decode cX10_slab 80 = .ok (.iaload, 1) := by decide +kernel
theorem dX10_slab_81 : decode cX10_slab 81 = .ok (.aload_n 0, 1) := by decide +kernel
theorem dX10_slab_82 : decode cX10_slab 82 = .ok (.getfield 60, 3) := by decide +kernel
theorem dX10_slab_85 : decode cX10_slab 85 = .ok (.iload_n 1, 1) := by decide +kernel
theorem dX10_slab_86 : decode cX10_slab 86 = .ok (.iaload, 1) := by decide +kernel
theorem dX10_slab_87 : decode cX10_slab 87 = .ok (.isub, 1) := by decide +kernel
theorem dX10_slab_88 : decode cX10_slab 88 = .ok (.goto 9, 3) := by decide +kernel
theorem dX10_slab_91 : decode cX10_slab 91 = .ok (.aload_n 0, 1) := by decide +kernel
theorem dX10_slab_92 : decode cX10_slab 92 = .ok (.getfield 60, 3) := by decide +kernel
theorem dX10_slab_95 : decode cX10_slab 95 = .ok (.iload_n 1, 1) := by decide +kernel
theorem dX10_slab_96 : decode cX10_slab 96 = .ok (.iaload, 1) := by decide +kernel
theorem dX10_slab_97 : decode cX10_slab 97 = .ok (.ireturn, 1) := by decide +kernel
theorem dX10_cell_0 : decode cX10_cell 0 = .ok (.iload_n 2, 1) := by decide +kernel
theorem dX10_cell_1 : decode cX10_cell 1 = .ok (.iconst 0, 1) := by decide +kernel
theorem dX10_cell_2 : decode cX10_cell 2 = .ok (.iconst 3, 1) := by decide +kernel
theorem dX10_cell_3 : decode cX10_cell 3 = .ok (.invokestatic 113, 3) := by decide +kernel
theorem dX10_cell_6 : decode cX10_cell 6 = .ok (.ifCond .ne 6, 3) := by decide +kernel
theorem dX10_cell_9 : decode cX10_cell 9 = .ok (.bipush (-2), 2) := by decide +kernel
theorem dX10_cell_11 : decode cX10_cell 11 = .ok (.ireturn, 1) := by decide +kernel
theorem dX10_cell_12 : decode cX10_cell 12 = .ok (.aload_n 0, 1) := by decide +kernel
theorem dX10_cell_13 : decode cX10_cell 13 = .ok (.invokevirtual 327, 3) := by decide +kernel
theorem dX10_cell_16 : decode cX10_cell 16 = .ok (.iload_n 1, 1) := by decide +kernel
theorem dX10_cell_17 : decode cX10_cell 17 = .ok (.iconst 0, 1) := by decide +kernel
theorem dX10_cell_18 : decode cX10_cell 18 = .ok (.aload_n 0, 1) := by decide +kernel
theorem dX10_cell_19 : decode cX10_cell 19 = .ok (.getfield 267, 3) := by decide +kernel
theorem dX10_cell_22 : decode cX10_cell 22 = .ok (.iconst 1, 1) := by decide +kernel
theorem dX10_cell_23 : decode cX10_cell 23 = .ok (.isub, 1) := by decide +kernel
theorem dX10_cell_24 : decode cX10_cell 24 = .ok (.invokestatic 113, 3) := by decide +kernel
theorem dX10_cell_27 : decode cX10_cell 27 = .ok (.ifCond .ne 6, 3) := by decide +kernel
theorem dX10_cell_30 : decode cX10_cell 30 = .ok (.bipush (-12), 2) := by decide +kernel
theorem dX10_cell_32 : decode cX10_cell 32 = .ok (.ireturn, 1) := by decide +kernel
theorem dX10_cell_33 : decode cX10_cell 33 = .ok (.iload_n 2, 1) := by decide +kernel
theorem dX10_cell_34 : decode cX10_cell 34 = .ok (.ifCond .ne 12, 3) := by decide +kernel
theorem dX10_cell_37 : decode cX10_cell 37 = .ok (.aload_n 0, 1) := by decide +kernel
theorem dX10_cell_38 : decode cX10_cell 38 = .ok (.getfield 63, 3) := by decide +kernel
theorem dX10_cell_41 : decode cX10_cell 41 = .ok (.iload_n 1, 1) := by decide +kernel
theorem dX10_cell_42 : decode cX10_cell 42 = .ok (.iaload, 1) := by decide +kernel
theorem dX10_cell_43 : decode cX10_cell 43 = .ok (.goto 40, 3) := by decide +kernel
theorem dX10_cell_46 : decode cX10_cell 46 = .ok (.iload_n 2, 1) := by decide +kernel
theorem dX10_cell_47 : decode cX10_cell 47 = .ok (.iconst 1, 1) := by decide +kernel
theorem dX10_cell_48 : decode cX10_cell 48 = .ok (.if_icmp .ne 12, 3) := by decide +kernel
theorem dX10_cell_51 : decode cX10_cell 51 = .ok (.aload_n 0, 1) := by decide +kernel
theorem dX10_cell_52 : decode cX10_cell 52 = .ok (.getfield 72, 3) := by decide +kernel
theorem dX10_cell_55 : decode cX10_cell 55 = .ok (.iload_n 1, 1) := by decide +kernel
theorem dX10_cell_56 : decode cX10_cell 56 = .ok (.iaload, 1) := by decide +kernel
theorem dX10_cell_57 : decode cX10_cell 57 = .ok (.goto 26, 3) := by decide +kernel
theorem dX10_cell_60 : decode cX10_cell 60 = .ok (.iload_n 2, 1) := by decide +kernel
theorem dX10_cell_61 : decode cX10_cell 61 = .ok (.iconst 2, 1) := by decide +kernel
theorem dX10_cell_62 : decode cX10_cell 62 = .ok (.if_icmp .ne 12, 3) := by decide +kernel
theorem dX10_cell_65 : decode cX10_cell 65 = .ok (.aload_n 0, 1) := by decide +kernel
theorem dX10_cell_66 : decode cX10_cell 66 = .ok (.getfield 66, 3) := by decide +kernel
theorem dX10_cell_69 : decode cX10_cell 69 = .ok (.iload_n 1, 1) := by decide +kernel
theorem dX10_cell_70 : decode cX10_cell 70 = .ok (.iaload, 1) := by decide +kernel
theorem dX10_cell_71 : decode cX10_cell 71 = .ok (.goto 9, 3) := by decide +kernel
theorem dX10_cell_74 : decode cX10_cell 74 = .ok (.aload_n 0, 1) := by decide +kernel
theorem dX10_cell_75 : decode cX10_cell 75 = .ok (.getfield 69, 3) := by decide +kernel
theorem dX10_cell_78 : decode cX10_cell 78 = .ok (.iload_n 1, 1) := by decide +kernel
theorem dX10_cell_79 : decode cX10_cell 79 = .ok (.iaload, 1) := by decide +kernel
theorem dX10_cell_80 : decode cX10_cell 80 = .ok (.invokestatic 287, 3) := by decide +kernel
theorem dX10_cell_83 : decode cX10_cell 83 = .ok (.ireturn, 1) := by decide +kernel
theorem dX10_bordersAt_0 : decode cX10_bordersAt 0 = .ok (.iconst 0, 1) := by decide +kernel
theorem dX10_bordersAt_1 : decode cX10_bordersAt 1 = .ok (.istore_n 3, 1) := by decide +kernel
theorem dX10_bordersAt_2 : decode cX10_bordersAt 2 = .ok (.aload_n 0, 1) := by decide +kernel
theorem dX10_bordersAt_3 : decode cX10_bordersAt 3 = .ok (.invokevirtual 309, 3) := by decide +kernel
theorem dX10_bordersAt_6 : decode cX10_bordersAt 6 = .ok (.aload_n 0, 1) := by decide +kernel
theorem dX10_bordersAt_7 : decode cX10_bordersAt 7 = .ok (.iload_n 1, 1) := by decide +kernel
theorem dX10_bordersAt_8 : decode cX10_bordersAt 8 = .ok (.aload_n 0, 1) := by decide +kernel
theorem dX10_bordersAt_9 : decode cX10_bordersAt 9 = .ok (.getfield 54, 3) := by decide +kernel
theorem dX10_bordersAt_12 : decode cX10_bordersAt 12 = .ok (.iload_n 2, 1) := by decide +kernel
theorem dX10_bordersAt_13 : decode cX10_bordersAt 13 = .ok (.laload, 1) := by decide +kernel
theorem dX10_bordersAt_14 : decode cX10_bordersAt 14 = .ok (.aload_n 0, 1) := by decide +kernel
theorem dX10_bordersAt_15 : decode cX10_bordersAt 15 = .ok (.getfield 57, 3) := by decide +kernel
theorem dX10_bordersAt_18 : decode cX10_bordersAt 18 = .ok (.iload_n 2, 1) := by decide +kernel
theorem dX10_bordersAt_19 : decode cX10_bordersAt 19 = .ok (.laload, 1) := by decide +kernel
theorem dX10_bordersAt_20 : decode cX10_bordersAt 20 = .ok (.invokevirtual 312, 3) := by decide +kernel
theorem dX10_bordersAt_23 : decode cX10_bordersAt 23 = .ok (.iconst 0, 1) := by decide +kernel
theorem dX10_bordersAt_24 : decode cX10_bordersAt 24 = .ok (.istore 4, 2) := by decide +kernel
theorem dX10_bordersAt_26 : decode cX10_bordersAt 26 = .ok (.iload 4, 2) := by decide +kernel
theorem dX10_bordersAt_28 : decode cX10_bordersAt 28 = .ok (.aload_n 0, 1) := by decide +kernel
theorem dX10_bordersAt_29 : decode cX10_bordersAt 29 = .ok (.getfield 109, 3) := by decide +kernel
theorem dX10_bordersAt_32 : decode cX10_bordersAt 32 = .ok (.if_icmp .ge 46, 3) := by decide +kernel
theorem dX10_bordersAt_35 : decode cX10_bordersAt 35 = .ok (.aload_n 0, 1) := by decide +kernel
theorem dX10_bordersAt_36 : decode cX10_bordersAt 36 = .ok (.iload 4, 2) := by decide +kernel
theorem dX10_bordersAt_38 : decode cX10_bordersAt 38 = .ok (.aload_n 0, 1) := by decide +kernel
theorem dX10_bordersAt_39 : decode cX10_bordersAt 39 = .ok (.getfield 54, 3) := by decide +kernel
theorem dX10_bordersAt_42 : decode cX10_bordersAt 42 = .ok (.iload_n 2, 1) := by decide +kernel
theorem dX10_bordersAt_43 : decode cX10_bordersAt 43 = .ok (.laload, 1) := by decide +kernel
theorem dX10_bordersAt_44 : decode cX10_bordersAt 44 = .ok (.aload_n 0, 1) := by decide +kernel
theorem dX10_bordersAt_45 : decode cX10_bordersAt 45 = .ok (.getfield 57, 3) := by decide +kernel
theorem dX10_bordersAt_48 : decode cX10_bordersAt 48 = .ok (.iload_n 2, 1) := by decide +kernel
theorem dX10_bordersAt_49 : decode cX10_bordersAt 49 = .ok (.laload, 1) := by decide +kernel
theorem dX10_bordersAt_50 : decode cX10_bordersAt 50 = .ok (.invokevirtual 306, 3) := by decide +kernel
theorem dX10_bordersAt_53 : decode cX10_bordersAt 53 = .ok (.ifCond .eq 19, 3) := by decide +kernel
theorem dX10_bordersAt_56 : decode cX10_bordersAt 56 = .ok (.aload_n 0, 1) := by decide +kernel
theorem dX10_bordersAt_57 : decode cX10_bordersAt 57 = .ok (.iload 4, 2) := by decide +kernel
theorem dX10_bordersAt_59 : decode cX10_bordersAt 59 = .ok (.invokevirtual 330, 3) := by decide +kernel
theorem dX10_bordersAt_62 : decode cX10_bordersAt 62 = .ok (.ifCond .eq 10, 3) := by decide +kernel
theorem dX10_bordersAt_65 : decode cX10_bordersAt 65 = .ok (.iload_n 3, 1) := by decide +kernel
theorem dX10_bordersAt_66 : decode cX10_bordersAt 66 = .ok (.iconst 1, 1) := by decide +kernel
theorem dX10_bordersAt_67 : decode cX10_bordersAt 67 = .ok (.iload 4, 2) := by decide +kernel
theorem dX10_bordersAt_69 : decode cX10_bordersAt 69 = .ok (.ishl, 1) := by decide +kernel
theorem dX10_bordersAt_70 : decode cX10_bordersAt 70 = .ok (.ior, 1) := by decide +kernel
theorem dX10_bordersAt_71 : decode cX10_bordersAt 71 = .ok (.istore_n 3, 1) := by decide +kernel
theorem dX10_bordersAt_72 : decode cX10_bordersAt 72 = .ok (.iinc 4 1, 3) := by decide +kernel
theorem dX10_bordersAt_75 : decode cX10_bordersAt 75 = .ok (.goto (-49), 3) := by decide +kernel
theorem dX10_bordersAt_78 : decode cX10_bordersAt 78 = .ok (.iload_n 3, 1) := by decide +kernel
theorem dX10_bordersAt_79 : decode cX10_bordersAt 79 = .ok (.ireturn, 1) := by decide +kernel
theorem dX10_borders_0 : decode cX10_borders 0 = .ok (.iconst 0, 1) := by decide +kernel
theorem dX10_borders_1 : decode cX10_borders 1 = .ok (.istore_n 2, 1) := by decide +kernel
theorem dX10_borders_2 : decode cX10_borders 2 = .ok (.iconst 0, 1) := by decide +kernel
theorem dX10_borders_3 : decode cX10_borders 3 = .ok (.istore_n 3, 1) := by decide +kernel
theorem dX10_borders_4 : decode cX10_borders 4 = .ok (.iload_n 3, 1) := by decide +kernel
theorem dX10_borders_5 : decode cX10_borders 5 = .ok (.aload_n 0, 1) := by decide +kernel
theorem dX10_borders_6 : decode cX10_borders 6 = .ok (.getfield 267, 3) := by decide +kernel
theorem dX10_borders_9 : decode cX10_borders 9 = .ok (.if_icmp .ge 92, 3) := by decide +kernel
theorem dX10_borders_12 : decode cX10_borders 12 = .ok (.aload_n 0, 1) := by decide +kernel
theorem dX10_borders_13 : decode cX10_borders 13 = .ok (.getfield 72, 3) := by decide +kernel
theorem dX10_borders_16 : decode cX10_borders 16 = .ok (.iload_n 3, 1) := by decide +kernel
theorem dX10_borders_17 : decode cX10_borders 17 = .ok (.iaload, 1) := by decide +kernel
theorem dX10_borders_18 : decode cX10_borders 18 = .ok (.iload_n 1, 1) := by decide +kernel
theorem dX10_borders_19 : decode cX10_borders 19 = .ok (.if_icmp .eq 6, 3) := by decide +kernel
theorem dX10_borders_22 : decode cX10_borders 22 = .ok (.goto 73, 3) := by decide +kernel
theorem dX10_borders_25 : decode cX10_borders 25 = .ok (.iload_n 2, 1) := by decide +kernel
theorem dX10_borders_26 : decode cX10_borders 26 = .ok (.aload_n 0, 1) := by decide +kernel
theorem dX10_borders_27 : decode cX10_borders 27 = .ok (.getfield 66, 3) := by decide +kernel
theorem dX10_borders_30 : decode cX10_borders 30 = .ok (.iload_n 3, 1) := by decide +kernel
theorem dX10_borders_31 : decode cX10_borders 31 = .ok (.iaload, 1) := by decide +kernel
theorem dX10_borders_32 : decode cX10_borders 32 = .ok (.aload_n 0, 1) := by decide +kernel
theorem dX10_borders_33 : decode cX10_borders 33 = .ok (.getfield 69, 3) := by decide +kernel
theorem dX10_borders_36 : decode cX10_borders 36 = .ok (.iload_n 3, 1) := by decide +kernel
theorem dX10_borders_37 : decode cX10_borders 37 = .ok (.iaload, 1) := by decide +kernel
theorem dX10_borders_38 : decode cX10_borders 38 = .ok (.ior, 1) := by decide +kernel
theorem dX10_borders_39 : decode cX10_borders 39 = .ok (.ior, 1) := by decide +kernel
theorem dX10_borders_40 : decode cX10_borders 40 = .ok (.istore_n 2, 1) := by decide +kernel
theorem dX10_borders_41 : decode cX10_borders 41 = .ok (.aload_n 0, 1) := by decide +kernel
theorem dX10_borders_42 : decode cX10_borders 42 = .ok (.getfield 63, 3) := by decide +kernel
theorem dX10_borders_45 : decode cX10_borders 45 = .ok (.iload_n 3, 1) := by decide +kernel
theorem dX10_borders_46 : decode cX10_borders 46 = .ok (.iaload, 1) := by decide +kernel
theorem dX10_borders_47 : decode cX10_borders 47 = .ok (.ifCond .le 17, 3) := by decide +kernel
theorem dX10_borders_50 : decode cX10_borders 50 = .ok (.iload_n 2, 1) := by decide +kernel
theorem dX10_borders_51 : decode cX10_borders 51 = .ok (.aload_n 0, 1) := by decide +kernel
theorem dX10_borders_52 : decode cX10_borders 52 = .ok (.iload_n 3, 1) := by decide +kernel
theorem dX10_borders_53 : decode cX10_borders 53 = .ok (.aload_n 0, 1) := by decide +kernel
theorem dX10_borders_54 : decode cX10_borders 54 = .ok (.getfield 63, 3) := by decide +kernel
theorem dX10_borders_57 : decode cX10_borders 57 = .ok (.iload_n 3, 1) := by decide +kernel
theorem dX10_borders_58 : decode cX10_borders 58 = .ok (.iaload, 1) := by decide +kernel
theorem dX10_borders_59 : decode cX10_borders 59 = .ok (.invokevirtual 333, 3) := by decide +kernel
theorem dX10_borders_62 : decode cX10_borders 62 = .ok (.ior, 1) := by decide +kernel
theorem dX10_borders_63 : decode cX10_borders 63 = .ok (.istore_n 2, 1) := by decide +kernel
theorem dX10_borders_64 : decode cX10_borders 64 = .ok (.aload_n 0, 1) := by decide +kernel
theorem dX10_borders_65 : decode cX10_borders 65 = .ok (.getfield 63, 3) := by decide +kernel
theorem dX10_borders_68 : decode cX10_borders 68 = .ok (.iload_n 3, 1) := by decide +kernel
theorem dX10_borders_69 : decode cX10_borders 69 = .ok (.iaload, 1) := by decide +kernel
theorem dX10_borders_70 : decode cX10_borders 70 = .ok (.aload_n 0, 1) := by decide +kernel
theorem dX10_borders_71 : decode cX10_borders 71 = .ok (.getfield 278, 3) := by decide +kernel
theorem dX10_borders_74 : decode cX10_borders 74 = .ok (.iconst 1, 1) := by decide +kernel
theorem dX10_borders_75 : decode cX10_borders 75 = .ok (.isub, 1) := by decide +kernel
theorem dX10_borders_76 : decode cX10_borders 76 = .ok (.if_icmp .ge 19, 3) := by decide +kernel
theorem dX10_borders_79 : decode cX10_borders 79 = .ok (.iload_n 2, 1) := by decide +kernel
theorem dX10_borders_80 : decode cX10_borders 80 = .ok (.aload_n 0, 1) := by decide +kernel
theorem dX10_borders_81 : decode cX10_borders 81 = .ok (.iload_n 3, 1) := by decide +kernel
theorem dX10_borders_82 : decode cX10_borders 82 = .ok (.aload_n 0, 1) := by decide +kernel
theorem dX10_borders_83 : decode cX10_borders 83 = .ok (.getfield 63, 3) := by decide +kernel
theorem dX10_borders_86 : decode cX10_borders 86 = .ok (.iload_n 3, 1) := by decide +kernel
theorem dX10_borders_87 : decode cX10_borders 87 = .ok (.iaload, 1) := by decide +kernel
theorem dX10_borders_88 : decode cX10_borders 88 = .ok (.iconst 1, 1) := by decide +kernel
theorem dX10_borders_89 : decode cX10_borders 89 = .ok (.iadd, 1) := by decide +kernel
theorem dX10_borders_90 : decode cX10_borders 90 = .ok (.invokevirtual 333, 3) := by decide +kernel
theorem dX10_borders_93 : decode cX10_borders 93 = .ok (.ior, 1) := by decide +kernel
theorem dX10_borders_94 : decode cX10_borders 94 = .ok (.istore_n 2, 1) := by decide +kernel
theorem dX10_borders_95 : decode cX10_borders 95 = .ok (.iinc 3 1, 3) := by decide +kernel
theorem dX10_borders_98 : decode cX10_borders 98 = .ok (.goto (-94), 3) := by decide +kernel
theorem dX10_borders_101 : decode cX10_borders 101 = .ok (.iload_n 2, 1) := by decide +kernel
theorem dX10_borders_102 : decode cX10_borders 102 = .ok (.ireturn, 1) := by decide +kernel
theorem dX10_isNext_0 : decode cX10_isNext 0 = .ok (.aload_n 0, 1) := by decide +kernel
theorem dX10_isNext_1 : decode cX10_isNext 1 = .ok (.getfield 72, 3) := by decide +kernel
theorem dX10_isNext_4 : decode cX10_isNext 4 = .ok (.iload_n 1, 1) := by decide +kernel
theorem dX10_isNext_5 : decode cX10_isNext 5 = .ok (.iaload, 1) := by decide +kernel
theorem dX10_isNext_6 : decode cX10_isNext 6 = .ok (.aload_n 0, 1) := by decide +kernel
theorem dX10_isNext_7 : decode cX10_isNext 7 = .ok (.getfield 72, 3) := by decide +kernel
theorem dX10_isNext_10 : decode cX10_isNext 10 = .ok (.iload_n 2, 1) := by decide +kernel
theorem dX10_isNext_11 : decode cX10_isNext 11 = .ok (.iaload, 1) := by decide +kernel
theorem dX10_isNext_12 : decode cX10_isNext 12 = .ok (.if_icmp .ne 4, 3) := by decide +kernel
theorem dX10_isNext_15 : decode cX10_isNext 15 = .ok (.return_, 1) := by decide +kernel
theorem dX10_isNext_16 : decode cX10_isNext 16 = .ok (.aload_n 0, 1) := by decide +kernel
theorem dX10_isNext_17 : decode cX10_isNext 17 = .ok (.getfield 83, 3) := by decide +kernel
theorem dX10_isNext_20 : decode cX10_isNext 20 = .ok (.aload_n 0, 1) := by decide +kernel
theorem dX10_isNext_21 : decode cX10_isNext 21 = .ok (.getfield 72, 3) := by decide +kernel
theorem dX10_isNext_24 : decode cX10_isNext 24 = .ok (.iload_n 1, 1) := by decide +kernel
theorem dX10_isNext_25 : decode cX10_isNext 25 = .ok (.iaload, 1) := by decide +kernel
theorem dX10_isNext_26 : decode cX10_isNext 26 = .ok (.aaload, 1) := by decide +kernel
theorem dX10_isNext_27 : decode cX10_isNext 27 = .ok (.aload_n 0, 1) := by decide +kernel
theorem dX10_isNext_28 : decode cX10_isNext 28 = .ok (.getfield 72, 3) := by decide +kernel
theorem dX10_isNext_31 : decode cX10_isNext 31 = .ok (.iload_n 2, 1) := by decide +kernel
