theorem dX8_findRegions_220 : decode cX8_findRegions 220 = .ok (.if_icmp .ne 68, 3) := by decide +kernel
theorem dX8_findRegions_223 : decode cX8_findRegions 223 = .ok (.aload_n 0, 1) := by decide +kernel
theorem dX8_findRegions_224 : decode cX8_findRegions 224 = .ok (.getfield 63, 3) := by decide +kernel
theorem dX8_findRegions_227 : decode cX8_findRegions 227 = .ok (.sipush 256, 3) := by decide +kernel
theorem dX8_findRegions_230 : decode cX8_findRegions 230 = .ok (.iload_n 1, 1) := by decide +kernel
theorem dX8_findRegions_231 : decode cX8_findRegions 231 = .ok (.imul, 1) := by decide +kernel
theorem dX8_findRegions_232 : decode cX8_findRegions 232 = .ok (.iload_n 2, 1) := by decide +kernel
theorem dX8_findRegions_233 : decode cX8_findRegions 233 = .ok (.iadd, 1) := by decide +kernel
theorem dX8_findRegions_234 : decode cX8_findRegions 234 = .ok (.aload_n 0, 1) := by decide +kernel
theorem dX8_findRegions_235 : decode cX8_findRegions 235 = .ok (.getfield 189, 3) := by decide +kernel
theorem dX8_findRegions_238 : decode cX8_findRegions 238 = .ok (.iastore, 1) := by decide +kernel
theorem dX8_findRegions_239 : decode cX8_findRegions 239 = .ok (.aload_n 0, 1) := by decide +kernel
theorem dX8_findRegions_240 : decode cX8_findRegions 240 = .ok (.getfield 66, 3) := by decide +kernel
theorem dX8_findRegions_243 : decode cX8_findRegions 243 = .ok (.aload_n 0, 1) := by decide +kernel
theorem dX8_findRegions_244 : decode cX8_findRegions 244 = .ok (.getfield 189, 3) := by decide +kernel
theorem dX8_findRegions_247 : decode cX8_findRegions 247 = .ok (.iload_n 1, 1) := by decide +kernel
theorem dX8_findRegions_248 : decode cX8_findRegions 248 = .ok (.iastore, 1) := by decide +kernel
theorem dX8_findRegions_249 : decode cX8_findRegions 249 = .ok (.aload_n 0, 1) := by decide +kernel
theorem dX8_findRegions_250 : decode cX8_findRegions 250 = .ok (.getfield 69, 3) := by decide +kernel
theorem dX8_findRegions_253 : decode cX8_findRegions 253 = .ok (.aload_n 0, 1) := by decide +kernel
theorem dX8_findRegions_254 : decode cX8_findRegions 254 = .ok (.getfield 189, 3) := by decide +kernel
theorem dX8_findRegions_257 : decode cX8_findRegions 257 = .ok (.iconst 1, 1) := by decide +kernel
theorem dX8_findRegions_258 : decode cX8_findRegions 258 = .ok (.iastore, 1) := by decide +kernel
theorem dX8_findRegions_259 : decode cX8_findRegions 259 = .ok (.aload_n 0, 1) := by decide +kernel
theorem dX8_findRegions_260 : decode cX8_findRegions 260 = .ok (.getfield 72, 3) := by decide +kernel
theorem dX8_findRegions_263 : decode cX8_findRegions 263 = .ok (.aload_n 0, 1) := by decide +kernel
theorem dX8_findRegions_264 : decode cX8_findRegions 264 = .ok (.getfield 189, 3) := by decide +kernel
theorem dX8_findRegions_267 : decode cX8_findRegions 267 = .ok (.iload_n 2, 1) := by decide +kernel
theorem dX8_findRegions_268 : decode cX8_findRegions 268 = .ok (.iastore, 1) := by decide +kernel
theorem dX8_findRegions_269 : decode cX8_findRegions 269 = .ok (.aload_n 0, 1) := by decide +kernel
theorem dX8_findRegions_270 : decode cX8_findRegions 270 = .ok (.iload_n 1, 1) := by decide +kernel
theorem dX8_findRegions_271 : decode cX8_findRegions 271 = .ok (.aload_n 0, 1) := by decide +kernel
theorem dX8_findRegions_272 : decode cX8_findRegions 272 = .ok (.getfield 189, 3) := by decide +kernel
theorem dX8_findRegions_275 : decode cX8_findRegions 275 = .ok (.invokevirtual 192, 3) := by decide +kernel
theorem dX8_findRegions_278 : decode cX8_findRegions 278 = .ok (.aload_n 0, 1) := by decide +kernel
theorem dX8_findRegions_279 : decode cX8_findRegions 279 = .ok (.dup, 1) := by decide +kernel
theorem dX8_findRegions_280 : decode cX8_findRegions 280 = .ok (.getfield 189, 3) := by decide +kernel
theorem dX8_findRegions_283 : decode cX8_findRegions 283 = .ok (.iconst 1, 1) := by decide +kernel
theorem dX8_findRegions_284 : decode cX8_findRegions 284 = .ok (.iadd, 1) := by decide +kernel
theorem dX8_findRegions_285 : decode cX8_findRegions 285 = .ok (.putfield 189, 3) := by decide +kernel
theorem dX8_findRegions_288 : decode cX8_findRegions 288 = .ok (.iinc 2 1, 3) := by decide +kernel
theorem dX8_findRegions_291 : decode cX8_findRegions 291 = .ok (.goto (-91), 3) := by decide +kernel
theorem dX8_findRegions_294 : decode cX8_findRegions 294 = .ok (.iinc 1 1, 3) := by decide +kernel
theorem dX8_findRegions_297 : decode cX8_findRegions 297 = .ok (.goto (-107), 3) := by decide +kernel
theorem dX8_findRegions_300 : decode cX8_findRegions 300 = .ok (.return_, 1) := by decide +kernel
theorem dX8_shift_0 : decode cX8_shift 0 = .ok (.aload_n 0, 1) := by decide +kernel
theorem dX8_shift_1 : decode cX8_shift 1 = .ok (.invokevirtual 196, 3) := by decide +kernel
theorem dX8_shift_4 : decode cX8_shift 4 = .ok (.iload_n 1, 1) := by decide +kernel
theorem dX8_shift_5 : decode cX8_shift 5 = .ok (.iconst 0, 1) := by decide +kernel
theorem dX8_shift_6 : decode cX8_shift 6 = .ok (.aload_n 0, 1) := by decide +kernel
theorem dX8_shift_7 : decode cX8_shift 7 = .ok (.getfield 170, 3) := by decide +kernel
theorem dX8_shift_10 : decode cX8_shift 10 = .ok (.iconst 1, 1) := by decide +kernel
theorem dX8_shift_11 : decode cX8_shift 11 = .ok (.isub, 1) := by decide +kernel
theorem dX8_shift_12 : decode cX8_shift 12 = .ok (.invokestatic 96, 3) := by decide +kernel
theorem dX8_shift_15 : decode cX8_shift 15 = .ok (.ifCond .ne 5, 3) := by decide +kernel
theorem dX8_shift_18 : decode cX8_shift 18 = .ok (.iconst (-1), 1) := by decide +kernel
theorem dX8_shift_19 : decode cX8_shift 19 = .ok (.ireturn, 1) := by decide +kernel
theorem dX8_shift_20 : decode cX8_shift 20 = .ok (.iconst 0, 1) := by decide +kernel
theorem dX8_shift_21 : decode cX8_shift 21 = .ok (.istore_n 3, 1) := by decide +kernel
theorem dX8_shift_22 : decode cX8_shift 22 = .ok (.iconst 0, 1) := by decide +kernel
theorem dX8_shift_23 : decode cX8_shift 23 = .ok (.istore 4, 2) := by decide +kernel
theorem dX8_shift_25 : decode cX8_shift 25 = .ok (.iload 4, 2) := by decide +kernel
theorem dX8_shift_27 : decode cX8_shift 27 = .ok (.aload_n 0, 1) := by decide +kernel
theorem dX8_shift_28 : decode cX8_shift 28 = .ok (.getfield 189, 3) := by decide +kernel
theorem dX8_shift_31 : decode cX8_shift 31 = .ok (.if_icmp .ge 28, 3) := by decide +kernel
theorem dX8_shift_34 : decode cX8_shift 34 = .ok (.iload_n 3, 1) := by decide +kernel
theorem dX8_shift_35 : decode cX8_shift 35 = .ok (.aload_n 0, 1) := by decide +kernel
theorem dX8_shift_36 : decode cX8_shift 36 = .ok (.getfield 66, 3) := by decide +kernel
theorem dX8_shift_39 : decode cX8_shift 39 = .ok (.iload 4, 2) := by decide +kernel
theorem dX8_shift_41 : decode cX8_shift 41 = .ok (.iaload, 1) := by decide +kernel
theorem dX8_shift_42 : decode cX8_shift 42 = .ok (.iload_n 1, 1) := by decide +kernel
theorem dX8_shift_43 : decode cX8_shift 43 = .ok (.if_icmp .ne 7, 3) := by decide +kernel
theorem dX8_shift_46 : decode cX8_shift 46 = .ok (.iconst 1, 1) := by decide +kernel
theorem dX8_shift_47 : decode cX8_shift 47 = .ok (.goto 4, 3) := by decide +kernel
theorem dX8_shift_50 : decode cX8_shift 50 = .ok (.iconst 0, 1) := by decide +kernel
theorem dX8_shift_51 : decode cX8_shift 51 = .ok (.iadd, 1) := by decide +kernel
theorem dX8_shift_52 : decode cX8_shift 52 = .ok (.istore_n 3, 1) := by decide +kernel
theorem dX8_shift_53 : decode cX8_shift 53 = .ok (.iinc 4 1, 3) := by decide +kernel
theorem dX8_shift_56 : decode cX8_shift 56 = .ok (.goto (-31), 3) := by decide +kernel
theorem dX8_shift_59 : decode cX8_shift 59 = .ok (.iload_n 2, 1) := by decide +kernel
theorem dX8_shift_60 : decode cX8_shift 60 = .ok (.tableswitch 72 0 3 #[32, 42, 49, 70], 32) := by decide +kernel
theorem dX8_shift_92 : decode cX8_shift 92 = .ok (.aload_n 0, 1) := by decide +kernel
theorem dX8_shift_93 : decode cX8_shift 93 = .ok (.getfield 57, 3) := by decide +kernel
theorem dX8_shift_96 : decode cX8_shift 96 = .ok (.iload_n 1, 1) := by decide +kernel
theorem dX8_shift_97 : decode cX8_shift 97 = .ok (.iaload, 1) := by decide +kernel
theorem dX8_shift_98 : decode cX8_shift 98 = .ok (.bipush 100, 2) := by decide +kernel
theorem dX8_shift_100 : decode cX8_shift 100 = .ok (.iadd, 1) := by decide +kernel
theorem dX8_shift_101 : decode cX8_shift 101 = .ok (.ireturn, 1) := by decide +kernel
theorem dX8_shift_102 : decode cX8_shift 102 = .ok (.aload_n 0, 1) := by decide +kernel
theorem dX8_shift_103 : decode cX8_shift 103 = .ok (.getfield 60, 3) := by decide +kernel
theorem dX8_shift_106 : decode cX8_shift 106 = .ok (.iload_n 1, 1) := by decide +kernel
theorem dX8_shift_107 : decode cX8_shift 107 = .ok (.iaload, 1) := by decide +kernel
theorem dX8_shift_108 : decode cX8_shift 108 = .ok (.ireturn, 1) := by decide +kernel
theorem dX8_shift_109 : decode cX8_shift 109 = .ok (.aload_n 0, 1) := by decide +kernel
theorem dX8_shift_110 : decode cX8_shift 110 = .ok (.getfield 54, 3) := by decide +kernel
theorem dX8_shift_113 : decode cX8_shift 113 = .ok (.aload_n 0, 1) := by decide +kernel
theorem dX8_shift_114 : decode cX8_shift 114 = .ok (.getfield 57, 3) := by decide +kernel
theorem dX8_shift_117 : decode cX8_shift 117 = .ok (.iload_n 1, 1) := by decide +kernel
theorem dX8_shift_118 : decode cX8_shift 118 = .ok (.iaload, 1) := by decide +kernel
theorem dX8_shift_119 : decode cX8_shift 119 = .ok (.aload_n 0, 1) := by decide +kernel
theorem dX8_shift_120 : decode cX8_shift 120 = .ok (.getfield 60, 3) := by decide +kernel
theorem dX8_shift_123 : decode cX8_shift 123 = .ok (.iload_n 1, 1) := by decide +kernel
theorem dX8_shift_124 : decode cX8_shift 124 = .ok (.iaload, 1) := by decide +kernel
theorem dX8_shift_125 : decode cX8_shift 125 = .ok (.invokestatic 167, 3) := by decide +kernel
theorem dX8_shift_128 : decode cX8_shift 128 = .ok (.iaload, 1) := by decide +kernel
theorem dX8_shift_129 : decode cX8_shift 129 = .ok (.ireturn, 1) := by decide +kernel
theorem dX8_shift_130 : decode cX8_shift 130 = .ok (.iload_n 3, 1) := by decide +kernel
theorem dX8_shift_131 : decode cX8_shift 131 = .ok (.ireturn, 1) := by decide +kernel
theorem dX8_shift_132 : decode cX8_shift 132 = .ok (.bipush (-2), 2) := by decide +kernel
theorem dX8_shift_134 : decode cX8_shift 134 = .ok (.ireturn, 1) := by decide +kernel
theorem dX8_isTaken_0 : decode cX8_isTaken 0 = .ok (.iconst 0, 1) := by decide +kernel
theorem dX8_isTaken_1 : decode cX8_isTaken 1 = .ok (.istore_n 2, 1) := by decide +kernel
theorem dX8_isTaken_2 : decode cX8_isTaken 2 = .ok (.iload_n 2, 1) := by decide +kernel
theorem dX8_isTaken_3 : decode cX8_isTaken 3 = .ok (.aload_n 0, 1) := by decide +kernel
theorem dX8_isTaken_4 : decode cX8_isTaken 4 = .ok (.getfield 199, 3) := by decide +kernel
theorem dX8_isTaken_7 : decode cX8_isTaken 7 = .ok (.if_icmp .ge 21, 3) := by decide +kernel
theorem dX8_isTaken_10 : decode cX8_isTaken 10 = .ok (.aload_n 0, 1) := by decide +kernel
theorem dX8_isTaken_11 : decode cX8_isTaken 11 = .ok (.getfield 75, 3) := by decide +kernel
theorem dX8_isTaken_14 : decode cX8_isTaken 14 = .ok (.iload_n 2, 1) := by decide +kernel
theorem dX8_isTaken_15 : decode cX8_isTaken 15 = .ok (.iaload, 1) := by decide +kernel
theorem dX8_isTaken_16 : decode cX8_isTaken 16 = .ok (.iload_n 1, 1) := by decide +kernel
theorem dX8_isTaken_17 : decode cX8_isTaken 17 = .ok (.if_icmp .ne 5, 3) := by decide +kernel
theorem dX8_isTaken_20 : decode cX8_isTaken 20 = .ok (.iconst 1, 1) := by decide +kernel
theorem dX8_isTaken_21 : decode cX8_isTaken 21 = .ok (.ireturn, 1) := by decide +kernel
theorem dX8_isTaken_22 : decode cX8_isTaken 22 = .ok (.iinc 2 1, 3) := by decide +kernel
theorem dX8_isTaken_25 : decode cX8_isTaken 25 = .ok (.goto (-23), 3) := by decide +kernel
theorem dX8_isTaken_28 : decode cX8_isTaken 28 = .ok (.iconst 0, 1) := by decide +kernel
theorem dX8_isTaken_29 : decode cX8_isTaken 29 = .ok (.ireturn, 1) := by decide +kernel
theorem dX8_nextRegion_0 : decode cX8_nextRegion 0 = .ok (.bipush (-9), 2) := by decide +kernel
theorem dX8_nextRegion_2 : decode cX8_nextRegion 2 = .ok (.istore_n 1, 1) := by decide +kernel
theorem dX8_nextRegion_3 : decode cX8_nextRegion 3 = .ok (.iconst 0, 1) := by decide +kernel
theorem dX8_nextRegion_4 : decode cX8_nextRegion 4 = .ok (.istore_n 2, 1) := by decide +kernel
theorem dX8_nextRegion_5 : decode cX8_nextRegion 5 = .ok (.iload_n 2, 1) := by decide +kernel
theorem dX8_nextRegion_6 : decode cX8_nextRegion 6 = .ok (.aload_n 0, 1) := by decide +kernel
theorem dX8_nextRegion_7 : decode cX8_nextRegion 7 = .ok (.getfield 189, 3) := by decide +kernel
theorem dX8_nextRegion_10 : decode cX8_nextRegion 10 = .ok (.if_icmp .ge 54, 3) := by decide +kernel
theorem dX8_nextRegion_13 : decode cX8_nextRegion 13 = .ok (.aload_n 0, 1) := by decide +kernel
theorem dX8_nextRegion_14 : decode cX8_nextRegion 14 = .ok (.iload_n 2, 1) := by decide +kernel
theorem dX8_nextRegion_15 : decode cX8_nextRegion 15 = .ok (.invokevirtual 202, 3) := by decide +kernel
theorem dX8_nextRegion_18 : decode cX8_nextRegion 18 = .ok (.ifCond .ne 7, 3) := by decide +kernel
theorem dX8_nextRegion_21 : decode cX8_nextRegion 21 = .ok (.iconst 1, 1) := by decide +kernel
theorem dX8_nextRegion_22 : decode cX8_nextRegion 22 = .ok (.goto 4, 3) := by decide +kernel
theorem dX8_nextRegion_25 : decode cX8_nextRegion 25 = .ok (.iconst 0, 1) := by decide +kernel
theorem dX8_nextRegion_26 : decode cX8_nextRegion 26 = .ok (.istore_n 3, 1) := by decide +kernel
theorem dX8_nextRegion_27 : decode cX8_nextRegion 27 = .ok (.iload_n 3, 1) := by decide +kernel
theorem dX8_nextRegion_28 : decode cX8_nextRegion 28 = .ok (.ifCond .eq 28, 3) := by decide +kernel
theorem dX8_nextRegion_31 : decode cX8_nextRegion 31 = .ok (.iload_n 1, 1) := by decide +kernel
theorem dX8_nextRegion_32 : decode cX8_nextRegion 32 = .ok (.bipush (-9), 2) := by decide +kernel
theorem dX8_nextRegion_34 : decode cX8_nextRegion 34 = .ok (.if_icmp .eq 18, 3) := by decide +kernel
theorem dX8_nextRegion_37 : decode cX8_nextRegion 37 = .ok (.aload_n 0, 1) := by decide +kernel
theorem dX8_nextRegion_38 : decode cX8_nextRegion 38 = .ok (.getfield 69, 3) := by decide +kernel
theorem dX8_nextRegion_41 : decode cX8_nextRegion 41 = .ok (.iload_n 2, 1) := by decide +kernel
theorem dX8_nextRegion_42 : decode cX8_nextRegion 42 = .ok (.iaload, 1) := by decide +kernel
theorem dX8_nextRegion_43 : decode cX8_nextRegion 43 = .ok (.aload_n 0, 1) := by decide +kernel
theorem dX8_nextRegion_44 : decode cX8_nextRegion 44 = .ok (.getfield 69, 3) := by decide +kernel
theorem dX8_nextRegion_47 : decode cX8_nextRegion 47 = .ok (.iload_n 1, 1) := by decide +kernel
theorem dX8_nextRegion_48 : decode cX8_nextRegion 48 = .ok (.iaload, 1) := by decide +kernel
theorem dX8_nextRegion_49 : decode cX8_nextRegion 49 = .ok (.if_icmp .le 7, 3) := by decide +kernel
theorem dX8_nextRegion_52 : decode cX8_nextRegion 52 = .ok (.iload_n 2, 1) := by decide +kernel
theorem dX8_nextRegion_53 : decode cX8_nextRegion 53 = .ok (.goto 4, 3) := by decide +kernel
theorem dX8_nextRegion_56 : decode cX8_nextRegion 56 = .ok (.iload_n 1, 1) := by decide +kernel
theorem dX8_nextRegion_57 : decode cX8_nextRegion 57 = .ok (.istore_n 1, 1) := by decide +kernel
theorem dX8_nextRegion_58 : decode cX8_nextRegion 58 = .ok (.iinc 2 1, 3) := by decide +kernel
theorem dX8_nextRegion_61 : decode cX8_nextRegion 61 = .ok (.goto (-56), 3) := by decide +kernel
theorem dX8_nextRegion_64 : decode cX8_nextRegion 64 = .ok (.iload_n 1, 1) := by decide +kernel
theorem dX8_nextRegion_65 : decode cX8_nextRegion 65 = .ok (.ireturn, 1) := by decide +kernel
theorem dX8_shiftOf_0 : decode cX8_shiftOf 0 = .ok (.aload_n 0, 1) := by decide +kernel
theorem dX8_shiftOf_1 : decode cX8_shiftOf 1 = .ok (.getfield 66, 3) := by decide +kernel
theorem dX8_shiftOf_4 : decode cX8_shiftOf 4 = .ok (.aload_n 0, 1) := by decide +kernel
theorem dX8_shiftOf_5 : decode cX8_shiftOf 5 = .ok (.getfield 75, 3) := by decide +kernel
theorem dX8_shiftOf_8 : decode cX8_shiftOf 8 = .ok (.iload_n 1, 1) := by decide +kernel
theorem dX8_shiftOf_9 : decode cX8_shiftOf 9 = .ok (.iaload, 1) := by decide +kernel
theorem dX8_shiftOf_10 : decode cX8_shiftOf 10 = .ok (.iaload, 1) := by decide +kernel
theorem dX8_shiftOf_11 : decode cX8_shiftOf 11 = .ok (.ireturn, 1) := by decide +kernel
theorem dX8_copyOf_0 : decode cX8_copyOf 0 = .ok (.iload_n 2, 1) := by decide +kernel
theorem dX8_copyOf_1 : decode cX8_copyOf 1 = .ok (.bipush 16, 2) := by decide +kernel
theorem dX8_copyOf_3 : decode cX8_copyOf 3 = .ok (.irem, 1) := by decide +kernel
theorem dX8_copyOf_4 : decode cX8_copyOf 4 = .ok (.aload_n 0, 1) := by decide +kernel
theorem dX8_copyOf_5 : decode cX8_copyOf 5 = .ok (.getfield 57, 3) := by decide +kernel
theorem dX8_copyOf_8 : decode cX8_copyOf 8 = .ok (.aload_n 0, 1) := by decide +kernel
theorem dX8_copyOf_9 : decode cX8_copyOf 9 = .ok (.iload_n 1, 1) := by decide +kernel
theorem dX8_copyOf_10 : decode cX8_copyOf 10 = .ok (.invokevirtual 205, 3) := by decide +kernel
theorem dX8_copyOf_13 : decode cX8_copyOf 13 = .ok (.iaload, 1) := by decide +kernel
theorem dX8_copyOf_14 : decode cX8_copyOf 14 = .ok (.iadd, 1) := by decide +kernel
theorem dX8_copyOf_15 : decode cX8_copyOf 15 = .ok (.istore_n 3, 1) := by decide +kernel
theorem dX8_copyOf_16 : decode cX8_copyOf 16 = .ok (.iload_n 2, 1) := by decide +kernel
theorem dX8_copyOf_17 : decode cX8_copyOf 17 = .ok (.bipush 16, 2) := by decide +kernel
theorem dX8_copyOf_19 : decode cX8_copyOf 19 = .ok (.idiv, 1) := by decide +kernel
theorem dX8_copyOf_20 : decode cX8_copyOf 20 = .ok (.aload_n 0, 1) := by decide +kernel
theorem dX8_copyOf_21 : decode cX8_copyOf 21 = .ok (.getfield 60, 3) := by decide +kernel
theorem dX8_copyOf_24 : decode cX8_copyOf 24 = .ok (.aload_n 0, 1) := by decide +kernel
theorem dX8_copyOf_25 : decode cX8_copyOf 25 = .ok (.iload_n 1, 1) := by decide +kernel
theorem dX8_copyOf_26 : decode cX8_copyOf 26 = .ok (.invokevirtual 205, 3) := by decide +kernel
theorem dX8_copyOf_29 : decode cX8_copyOf 29 = .ok (.iaload, 1) := by decide +kernel
theorem dX8_copyOf_30 : decode cX8_copyOf 30 = .ok (.iadd, 1) := by decide +kernel
theorem dX8_copyOf_31 : decode cX8_copyOf 31 = .ok (.istore 4, 2) := by decide +kernel
theorem dX8_copyOf_33 : decode cX8_copyOf 33 = .ok (.aload_n 0, 1) := by decide +kernel
theorem dX8_copyOf_34 : decode cX8_copyOf 34 = .ok (.iload_n 3, 1) := by decide +kernel
theorem dX8_copyOf_35 : decode cX8_copyOf 35 = .ok (.iload 4, 2) := by decide +kernel
theorem dX8_copyOf_37 : decode cX8_copyOf 37 = .ok (.invokevirtual 104, 3) := by decide +kernel
theorem dX8_copyOf_40 : decode cX8_copyOf 40 = .ok (.ifCond .eq 13, 3) := by decide +kernel
theorem dX8_copyOf_43 : decode cX8_copyOf 43 = .ok (.bipush 16, 2) := by decide +kernel
theorem dX8_copyOf_45 : decode cX8_copyOf 45 = .ok (.iload 4, 2) := by decide +kernel
theorem dX8_copyOf_47 : decode cX8_copyOf 47 = .ok (.imul, 1) := by decide +kernel
theorem dX8_copyOf_48 : decode cX8_copyOf 48 = .ok (.iload_n 3, 1) := by decide +kernel
theorem dX8_copyOf_49 : decode cX8_copyOf 49 = .ok (.iadd, 1) := by decide +kernel
theorem dX8_copyOf_50 : decode cX8_copyOf 50 = .ok (.goto 5, 3) := by decide +kernel
theorem dX8_copyOf_53 : decode cX8_copyOf 53 = .ok (.bipush (-9), 2) := by decide +kernel
theorem dX8_copyOf_55 : decode cX8_copyOf 55 = .ok (.ireturn, 1) := by decide +kernel
theorem dX8_missOf_0 : decode cX8_missOf 0 = .ok (.aload_n 0, 1) := by decide +kernel
theorem dX8_missOf_1 : decode cX8_missOf 1 = .ok (.getfield 16, 3) := by decide +kernel
theorem dX8_missOf_4 : decode cX8_missOf 4 = .ok (.aload_n 0, 1) := by decide +kernel
theorem dX8_missOf_5 : decode cX8_missOf 5 = .ok (.iload_n 1, 1) := by decide +kernel
theorem dX8_missOf_6 : decode cX8_missOf 6 = .ok (.iload_n 2, 1) := by decide +kernel
theorem dX8_missOf_7 : decode cX8_missOf 7 = .ok (.invokevirtual 208, 3) := by decide +kernel
theorem dX8_missOf_10 : decode cX8_missOf 10 = .ok (.iaload, 1) := by decide +kernel
theorem dX8_missOf_11 : decode cX8_missOf 11 = .ok (.aload_n 0, 1) := by decide +kernel
theorem dX8_missOf_12 : decode cX8_missOf 12 = .ok (.getfield 16, 3) := by decide +kernel
theorem dX8_missOf_15 : decode cX8_missOf 15 = .ok (.iload_n 2, 1) := by decide +kernel
theorem dX8_missOf_16 : decode cX8_missOf 16 = .ok (.iaload, 1) := by decide +kernel
theorem dX8_missOf_17 : decode cX8_missOf 17 = .ok (.isub, 1) := by decide +kernel
theorem dX8_missOf_18 : decode cX8_missOf 18 = .ok (.aload_n 0, 1) := by decide +kernel
theorem dX8_missOf_19 : decode cX8_missOf 19 = .ok (.getfield 78, 3) := by decide +kernel
theorem dX8_missOf_22 : decode cX8_missOf 22 = .ok (.iload_n 1, 1) := by decide +kernel
theorem dX8_missOf_23 : decode cX8_missOf 23 = .ok (.iaload, 1) := by decide +kernel
theorem dX8_missOf_24 : decode cX8_missOf 24 = .ok (.isub, 1) := by decide +kernel
theorem dX8_missOf_25 : decode cX8_missOf 25 = .ok (.invokestatic 155, 3) := by decide +kernel
theorem dX8_missOf_28 : decode cX8_missOf 28 = .ok (.ireturn, 1) := by decide +kernel
theorem dX8_darkAt_0 : decode cX8_darkAt 0 = .ok (.iconst 0, 1) := by decide +kernel
theorem dX8_darkAt_1 : decode cX8_darkAt 1 = .ok (.istore_n 2, 1) := by decide +kernel
theorem dX8_darkAt_2 : decode cX8_darkAt 2 = .ok (.iload_n 2, 1) := by decide +kernel
theorem dX8_darkAt_3 : decode cX8_darkAt 3 = .ok (.aload_n 0, 1) := by decide +kernel
theorem dX8_darkAt_4 : decode cX8_darkAt 4 = .ok (.getfield 126, 3) := by decide +kernel
theorem dX8_darkAt_7 : decode cX8_darkAt 7 = .ok (.if_icmp .ge 26, 3) := by decide +kernel
theorem dX8_darkAt_10 : decode cX8_darkAt 10 = .ok (.aload_n 0, 1) := by decide +kernel
theorem dX8_darkAt_11 : decode cX8_darkAt 11 = .ok (.getfield 32, 3) := by decide +kernel
theorem dX8_darkAt_14 : decode cX8_darkAt 14 = .ok (.iload_n 2, 1) := by decide +kernel
theorem dX8_darkAt_15 : decode cX8_darkAt 15 = .ok (.iaload, 1) := by decide +kernel
theorem dX8_darkAt_16 : decode cX8_darkAt 16 = .ok (.iload_n 1, 1) := by decide +kernel
theorem dX8_darkAt_17 : decode cX8_darkAt 17 = .ok (.if_icmp .ne 10, 3) := by decide +kernel
theorem dX8_darkAt_20 : decode cX8_darkAt 20 = .ok (.aload_n 0, 1) := by decide +kernel
theorem dX8_darkAt_21 : decode cX8_darkAt 21 = .ok (.getfield 35, 3) := by decide +kernel
theorem dX8_darkAt_24 : decode cX8_darkAt 24 = .ok (.iload_n 2, 1) := by decide +kernel
theorem dX8_darkAt_25 : decode cX8_darkAt 25 = .ok (.iaload, 1) := by decide +kernel
theorem dX8_darkAt_26 : decode cX8_darkAt 26 = .ok (.ireturn, 1) := by decide +kernel
theorem dX8_darkAt_27 : decode cX8_darkAt 27 = .ok (.iinc 2 1, 3) := by decide +kernel
theorem dX8_darkAt_30 : decode cX8_darkAt 30 = .ok (.goto (-28), 3) := by decide +kernel
theorem dX8_darkAt_33 : decode cX8_darkAt 33 = .ok (.bipush (-9), 2) := by decide +kernel
theorem dX8_darkAt_35 : decode cX8_darkAt 35 = .ok (.ireturn, 1) := by decide +kernel
theorem dX8_beginsFinding_0 : decode cX8_beginsFinding 0 = .ok (.aload_n 0, 1) := by decide +kernel
theorem dX8_beginsFinding_1 : decode cX8_beginsFinding 1 = .ok (.iload_n 1, 1) := by decide +kernel
theorem dX8_beginsFinding_2 : decode cX8_beginsFinding 2 = .ok (.invokevirtual 205, 3) := by decide +kernel
theorem dX8_beginsFinding_5 : decode cX8_beginsFinding 5 = .ok (.istore_n 2, 1) := by decide +kernel
theorem dX8_beginsFinding_6 : decode cX8_beginsFinding 6 = .ok (.aload_n 0, 1) := by decide +kernel
theorem dX8_beginsFinding_7 : decode cX8_beginsFinding 7 = .ok (.getfield 72, 3) := by decide +kernel
theorem dX8_beginsFinding_10 : decode cX8_beginsFinding 10 = .ok (.aload_n 0, 1) := by decide +kernel
theorem dX8_beginsFinding_11 : decode cX8_beginsFinding 11 = .ok (.getfield 75, 3) := by decide +kernel
theorem dX8_beginsFinding_14 : decode cX8_beginsFinding 14 = .ok (.iload_n 1, 1) := by decide +kernel
theorem dX8_beginsFinding_15 : decode cX8_beginsFinding 15 = .ok (.iaload, 1) := by decide +kernel
theorem dX8_beginsFinding_16 : decode cX8_beginsFinding 16 = .ok (.iaload, 1) := by decide +kernel
theorem dX8_beginsFinding_17 : decode cX8_beginsFinding 17 = .ok (.istore_n 3, 1) := by decide +kernel
theorem dX8_beginsFinding_18 : decode cX8_beginsFinding 18 = .ok (.aload_n 0, 1) := by decide +kernel
theorem dX8_beginsFinding_19 : decode cX8_beginsFinding 19 = .ok (.getfield 78, 3) := by decide +kernel
theorem dX8_beginsFinding_22 : decode cX8_beginsFinding 22 = .ok (.iload_n 1, 1) := by decide +kernel
theorem dX8_beginsFinding_23 : decode cX8_beginsFinding 23 = .ok (.aload_n 0, 1) := by decide +kernel
theorem dX8_beginsFinding_24 : decode cX8_beginsFinding 24 = .ok (.getfield 20, 3) := by decide +kernel
theorem dX8_beginsFinding_27 : decode cX8_beginsFinding 27 = .ok (.iconst 2, 1) := by decide +kernel
theorem dX8_beginsFinding_28 : decode cX8_beginsFinding 28 = .ok (.iaload, 1) := by decide +kernel
theorem dX8_beginsFinding_29 : decode cX8_beginsFinding 29 = .ok (.ifCond .ne 7, 3) := by decide +kernel
theorem dX8_beginsFinding_32 : decode cX8_beginsFinding 32 = .ok (.iconst 0, 1) := by decide +kernel
theorem dX8_beginsFinding_33 : decode cX8_beginsFinding 33 = .ok (.goto 19, 3) := by decide +kernel
theorem dX8_beginsFinding_36 : decode cX8_beginsFinding 36 = .ok (.aload_n 0, 1) := by decide +kernel
theorem dX8_beginsFinding_37 : decode cX8_beginsFinding 37 = .ok (.aload_n 0, 1) := by decide +kernel
theorem dX8_beginsFinding_38 : decode cX8_beginsFinding 38 = .ok (.iload_n 1, 1) := by decide +kernel
theorem dX8_beginsFinding_39 : decode cX8_beginsFinding 39 = .ok (.iload_n 3, 1) := by decide +kernel
theorem dX8_beginsFinding_40 : decode cX8_beginsFinding 40 = .ok (.invokevirtual 208, 3) := by decide +kernel
theorem dX8_beginsFinding_43 : decode cX8_beginsFinding 43 = .ok (.invokevirtual 211, 3) := by decide +kernel
theorem dX8_beginsFinding_46 : decode cX8_beginsFinding 46 = .ok (.aload_n 0, 1) := by decide +kernel
theorem dX8_beginsFinding_47 : decode cX8_beginsFinding 47 = .ok (.iload_n 3, 1) := by decide +kernel
theorem dX8_beginsFinding_48 : decode cX8_beginsFinding 48 = .ok (.invokevirtual 211, 3) := by decide +kernel
theorem dX8_beginsFinding_51 : decode cX8_beginsFinding 51 = .ok (.isub, 1) := by decide +kernel
theorem dX8_beginsFinding_52 : decode cX8_beginsFinding 52 = .ok (.iastore, 1) := by decide +kernel
theorem dX8_beginsFinding_53 : decode cX8_beginsFinding 53 = .ok (.iconst 0, 1) := by decide +kernel
theorem dX8_beginsFinding_54 : decode cX8_beginsFinding 54 = .ok (.istore 4, 2) := by decide +kernel
theorem dX8_beginsFinding_56 : decode cX8_beginsFinding 56 = .ok (.iload 4, 2) := by decide +kernel
theorem dX8_beginsFinding_58 : decode cX8_beginsFinding 58 = .ok (.sipush 256, 3) := by decide +kernel
theorem dX8_beginsFinding_61 : decode cX8_beginsFinding 61 = .ok (.if_icmp .ge 23, 3) := by decide +kernel
theorem dX8_beginsFinding_64 : decode cX8_beginsFinding 64 = .ok (.aload_n 0, 1) := by decide +kernel
theorem dX8_beginsFinding_65 : decode cX8_beginsFinding 65 = .ok (.getfield 87, 3) := by decide +kernel
theorem dX8_beginsFinding_68 : decode cX8_beginsFinding 68 = .ok (.sipush 256, 3) := by decide +kernel
theorem dX8_beginsFinding_71 : decode cX8_beginsFinding 71 = .ok (.iload_n 1, 1) := by decide +kernel
theorem dX8_beginsFinding_72 : decode cX8_beginsFinding 72 = .ok (.imul, 1) := by decide +kernel
theorem dX8_beginsFinding_73 : decode cX8_beginsFinding 73 = .ok (.iload 4, 2) := by decide +kernel
theorem dX8_beginsFinding_75 : decode cX8_beginsFinding 75 = .ok (.iadd, 1) := by decide +kernel
theorem dX8_beginsFinding_76 : decode cX8_beginsFinding 76 = .ok (.iconst 0, 1) := by decide +kernel
theorem dX8_beginsFinding_77 : decode cX8_beginsFinding 77 = .ok (.bastore, 1) := by decide +kernel
theorem dX8_beginsFinding_78 : decode cX8_beginsFinding 78 = .ok (.iinc 4 1, 3) := by decide +kernel
theorem dX8_beginsFinding_81 : decode cX8_beginsFinding 81 = .ok (.goto (-25), 3) := by decide +kernel
theorem dX8_beginsFinding_84 : decode cX8_beginsFinding 84 = .ok (.iconst 0, 1) := by decide +kernel
theorem dX8_beginsFinding_85 : decode cX8_beginsFinding 85 = .ok (.istore 4, 2) := by decide +kernel
theorem dX8_beginsFinding_87 : decode cX8_beginsFinding 87 = .ok (.iload 4, 2) := by decide +kernel
theorem dX8_beginsFinding_89 : decode cX8_beginsFinding 89 = .ok (.sipush 256, 3) := by decide +kernel
theorem dX8_beginsFinding_92 : decode cX8_beginsFinding 92 = .ok (.if_icmp .ge 86, 3) := by decide +kernel
theorem dX8_beginsFinding_95 : decode cX8_beginsFinding 95 = .ok (.iconst 0, 1) := by decide +kernel
theorem dX8_beginsFinding_96 : decode cX8_beginsFinding 96 = .ok (.istore 5, 2) := by decide +kernel
theorem dX8_beginsFinding_98 : decode cX8_beginsFinding 98 = .ok (.iload 5, 2) := by decide +kernel
theorem dX8_beginsFinding_100 : decode cX8_beginsFinding 100 = .ok (.aload_n 0, 1) := by decide +kernel
theorem dX8_beginsFinding_101 : decode cX8_beginsFinding 101 = .ok (.invokevirtual 119, 3) := by decide +kernel
theorem dX8_beginsFinding_104 : decode cX8_beginsFinding 104 = .ok (.if_icmp .ge 68, 3) := by decide +kernel
theorem dX8_beginsFinding_107 : decode cX8_beginsFinding 107 = .ok (.aload_n 0, 1) := by decide +kernel
theorem dX8_beginsFinding_108 : decode cX8_beginsFinding 108 = .ok (.getfield 63, 3) := by decide +kernel
theorem dX8_beginsFinding_111 : decode cX8_beginsFinding 111 = .ok (.sipush 256, 3) := by decide +kernel
theorem dX8_beginsFinding_114 : decode cX8_beginsFinding 114 = .ok (.iload_n 2, 1) := by decide +kernel
theorem dX8_beginsFinding_115 : decode cX8_beginsFinding 115 = .ok (.imul, 1) := by decide +kernel
theorem dX8_beginsFinding_116 : decode cX8_beginsFinding 116 = .ok (.iload 4, 2) := by decide +kernel
theorem dX8_beginsFinding_118 : decode cX8_beginsFinding 118 = .ok (.iadd, 1) := by decide +kernel
theorem dX8_beginsFinding_119 : decode cX8_beginsFinding 119 = .ok (.iaload, 1) := by decide +kernel
theorem dX8_beginsFinding_120 : decode cX8_beginsFinding 120 = .ok (.aload_n 0, 1) := by decide +kernel
theorem dX8_beginsFinding_121 : decode cX8_beginsFinding 121 = .ok (.getfield 75, 3) := by decide +kernel
theorem dX8_beginsFinding_124 : decode cX8_beginsFinding 124 = .ok (.iload_n 1, 1) := by decide +kernel
theorem dX8_beginsFinding_125 : decode cX8_beginsFinding 125 = .ok (.iaload, 1) := by decide +kernel
theorem dX8_beginsFinding_126 : decode cX8_beginsFinding 126 = .ok (.if_icmp .ne 46, 3) := by decide +kernel
theorem dX8_beginsFinding_129 : decode cX8_beginsFinding 129 = .ok (.aload_n 0, 1) := by decide +kernel
theorem dX8_beginsFinding_130 : decode cX8_beginsFinding 130 = .ok (.getfield 87, 3) := by decide +kernel
theorem dX8_beginsFinding_133 : decode cX8_beginsFinding 133 = .ok (.sipush 256, 3) := by decide +kernel
theorem dX8_beginsFinding_136 : decode cX8_beginsFinding 136 = .ok (.iload_n 1, 1) := by decide +kernel
theorem dX8_beginsFinding_137 : decode cX8_beginsFinding 137 = .ok (.imul, 1) := by decide +kernel
theorem dX8_beginsFinding_138 : decode cX8_beginsFinding 138 = .ok (.iload 4, 2) := by decide +kernel
theorem dX8_beginsFinding_140 : decode cX8_beginsFinding 140 = .ok (.iadd, 1) := by decide +kernel
theorem dX8_beginsFinding_141 : decode cX8_beginsFinding 141 = .ok (.bipush 16, 2) := by decide +kernel
theorem dX8_beginsFinding_143 : decode cX8_beginsFinding 143 = .ok (.iload 5, 2) := by decide +kernel
theorem dX8_beginsFinding_145 : decode cX8_beginsFinding 145 = .ok (.aload_n 0, 1) := by decide +kernel
theorem dX8_beginsFinding_146 : decode cX8_beginsFinding 146 = .ok (.getfield 20, 3) := by decide +kernel
theorem dX8_beginsFinding_149 : decode cX8_beginsFinding 149 = .ok (.iconst 0, 1) := by decide +kernel
theorem dX8_beginsFinding_150 : decode cX8_beginsFinding 150 = .ok (.iaload, 1) := by decide +kernel
theorem dX8_beginsFinding_151 : decode cX8_beginsFinding 151 = .ok (.idiv, 1) := by decide +kernel
theorem dX8_beginsFinding_152 : decode cX8_beginsFinding 152 = .ok (.imul, 1) := by decide +kernel
theorem dX8_beginsFinding_153 : decode cX8_beginsFinding 153 = .ok (.iadd, 1) := by decide +kernel
theorem dX8_beginsFinding_154 : decode cX8_beginsFinding 154 = .ok (.iload 5, 2) := by decide +kernel
theorem dX8_beginsFinding_156 : decode cX8_beginsFinding 156 = .ok (.aload_n 0, 1) := by decide +kernel
theorem dX8_beginsFinding_157 : decode cX8_beginsFinding 157 = .ok (.getfield 20, 3) := by decide +kernel
theorem dX8_beginsFinding_160 : decode cX8_beginsFinding 160 = .ok (.iconst 0, 1) := by decide +kernel
theorem dX8_beginsFinding_161 : decode cX8_beginsFinding 161 = .ok (.iaload, 1) := by decide +kernel
theorem dX8_beginsFinding_162 : decode cX8_beginsFinding 162 = .ok (.irem, 1) := by decide +kernel
theorem dX8_beginsFinding_163 : decode cX8_beginsFinding 163 = .ok (.iadd, 1) := by decide +kernel
theorem dX8_beginsFinding_164 : decode cX8_beginsFinding 164 = .ok (.iconst 1, 1) := by decide +kernel
theorem dX8_beginsFinding_165 : decode cX8_beginsFinding 165 = .ok (.bastore, 1) := by decide +kernel
theorem dX8_beginsFinding_166 : decode cX8_beginsFinding 166 = .ok (.iinc 5 1, 3) := by decide +kernel
theorem dX8_beginsFinding_169 : decode cX8_beginsFinding 169 = .ok (.goto (-71), 3) := by decide +kernel
theorem dX8_beginsFinding_172 : decode cX8_beginsFinding 172 = .ok (.iinc 4 1, 3) := by decide +kernel
theorem dX8_beginsFinding_175 : decode cX8_beginsFinding 175 = .ok (.goto (-88), 3) := by decide +kernel
theorem dX8_beginsFinding_178 : decode cX8_beginsFinding 178 = .ok (.aload_n 0, 1) := by decide +kernel
theorem dX8_beginsFinding_179 : decode cX8_beginsFinding 179 = .ok (.getfield 81, 3) := by decide +kernel
theorem dX8_beginsFinding_182 : decode cX8_beginsFinding 182 = .ok (.iload_n 1, 1) := by decide +kernel
theorem dX8_beginsFinding_183 : decode cX8_beginsFinding 183 = .ok (.aload_n 0, 1) := by decide +kernel
theorem dX8_beginsFinding_184 : decode cX8_beginsFinding 184 = .ok (.iload_n 1, 1) := by decide +kernel
theorem dX8_beginsFinding_185 : decode cX8_beginsFinding 185 = .ok (.invokevirtual 214, 3) := by decide +kernel
theorem dX8_beginsFinding_188 : decode cX8_beginsFinding 188 = .ok (.iastore, 1) := by decide +kernel
theorem dX8_beginsFinding_189 : decode cX8_beginsFinding 189 = .ok (.return_, 1) := by decide +kernel
theorem dX8_manyIn_0 : decode cX8_manyIn 0 = .ok (.iconst 0, 1) := by decide +kernel
theorem dX8_manyIn_1 : decode cX8_manyIn 1 = .ok (.istore_n 2, 1) := by decide +kernel
theorem dX8_manyIn_2 : decode cX8_manyIn 2 = .ok (.iconst 0, 1) := by decide +kernel
theorem dX8_manyIn_3 : decode cX8_manyIn 3 = .ok (.istore_n 3, 1) := by decide +kernel
theorem dX8_manyIn_4 : decode cX8_manyIn 4 = .ok (.iload_n 3, 1) := by decide +kernel
theorem dX8_manyIn_5 : decode cX8_manyIn 5 = .ok (.sipush 256, 3) := by decide +kernel
theorem dX8_manyIn_8 : decode cX8_manyIn 8 = .ok (.if_icmp .ge 32, 3) := by decide +kernel
theorem dX8_manyIn_11 : decode cX8_manyIn 11 = .ok (.iload_n 2, 1) := by decide +kernel
theorem dX8_manyIn_12 : decode cX8_manyIn 12 = .ok (.aload_n 0, 1) := by decide +kernel
theorem dX8_manyIn_13 : decode cX8_manyIn 13 = .ok (.getfield 87, 3) := by decide +kernel
theorem dX8_manyIn_16 : decode cX8_manyIn 16 = .ok (.sipush 256, 3) := by decide +kernel
theorem dX8_manyIn_19 : decode cX8_manyIn 19 = .ok (.iload_n 1, 1) := by decide +kernel
theorem dX8_manyIn_20 : decode cX8_manyIn 20 = .ok (.imul, 1) := by decide +kernel
theorem dX8_manyIn_21 : decode cX8_manyIn 21 = .ok (.iload_n 3, 1) := by decide +kernel
theorem dX8_manyIn_22 : decode cX8_manyIn 22 = .ok (.iadd, 1) := by decide +kernel
theorem dX8_manyIn_23 : decode cX8_manyIn 23 = .ok (.baload, 1) := by decide +kernel
theorem dX8_manyIn_24 : decode cX8_manyIn 24 = .ok (.ifCond .eq 7, 3) := by decide +kernel
theorem dX8_manyIn_27 : decode cX8_manyIn 27 = .ok (.iconst 1, 1) := by decide +kernel
theorem dX8_manyIn_28 : decode cX8_manyIn 28 = .ok (.goto 4, 3) := by decide +kernel
theorem dX8_manyIn_31 : decode cX8_manyIn 31 = .ok (.iconst 0, 1) := by decide +kernel
theorem dX8_manyIn_32 : decode cX8_manyIn 32 = .ok (.iadd, 1) := by decide +kernel
theorem dX8_manyIn_33 : decode cX8_manyIn 33 = .ok (.istore_n 2, 1) := by decide +kernel
theorem dX8_manyIn_34 : decode cX8_manyIn 34 = .ok (.iinc 3 1, 3) := by decide +kernel
theorem dX8_manyIn_37 : decode cX8_manyIn 37 = .ok (.goto (-33), 3) := by decide +kernel
theorem dX8_manyIn_40 : decode cX8_manyIn 40 = .ok (.iload_n 2, 1) := by decide +kernel
theorem dX8_manyIn_41 : decode cX8_manyIn 41 = .ok (.ireturn, 1) := by decide +kernel
theorem dX8_isHeld_0 : decode cX8_isHeld 0 = .ok (.aload_n 0, 1) := by decide +kernel
theorem dX8_isHeld_1 : decode cX8_isHeld 1 = .ok (.iload_n 2, 1) := by decide +kernel
theorem dX8_isHeld_2 : decode cX8_isHeld 2 = .ok (.iload_n 3, 1) := by decide +kernel
theorem dX8_isHeld_3 : decode cX8_isHeld 3 = .ok (.invokevirtual 104, 3) := by decide +kernel
theorem dX8_isHeld_6 : decode cX8_isHeld 6 = .ok (.ifCond .eq 27, 3) := by decide +kernel
theorem dX8_isHeld_9 : decode cX8_isHeld 9 = .ok (.aload_n 0, 1) := by decide +kernel
theorem dX8_isHeld_10 : decode cX8_isHeld 10 = .ok (.getfield 87, 3) := by decide +kernel
theorem dX8_isHeld_13 : decode cX8_isHeld 13 = .ok (.sipush 256, 3) := by decide +kernel
theorem dX8_isHeld_16 : decode cX8_isHeld 16 = .ok (.iload_n 1, 1) := by decide +kernel
theorem dX8_isHeld_17 : decode cX8_isHeld 17 = .ok (.imul, 1) := by decide +kernel
theorem dX8_isHeld_18 : decode cX8_isHeld 18 = .ok (.bipush 16, 2) := by decide +kernel
theorem dX8_isHeld_20 : decode cX8_isHeld 20 = .ok (.iload_n 3, 1) := by decide +kernel
theorem dX8_isHeld_21 : decode cX8_isHeld 21 = .ok (.imul, 1) := by decide +kernel
theorem dX8_isHeld_22 : decode cX8_isHeld 22 = .ok (.iadd, 1) := by decide +kernel
theorem dX8_isHeld_23 : decode cX8_isHeld 23 = .ok (.iload_n 2, 1) := by decide +kernel
theorem dX8_isHeld_24 : decode cX8_isHeld 24 = .ok (.iadd, 1) := by decide +kernel
theorem dX8_isHeld_25 : decode cX8_isHeld 25 = .ok (.baload, 1) := by decide +kernel
theorem dX8_isHeld_26 : decode cX8_isHeld 26 = .ok (.ifCond .eq 7, 3) := by decide +kernel
theorem dX8_isHeld_29 : decode cX8_isHeld 29 = .ok (.iconst 1, 1) := by decide +kernel
theorem dX8_isHeld_30 : decode cX8_isHeld 30 = .ok (.goto 4, 3) := by decide +kernel
theorem dX8_isHeld_33 : decode cX8_isHeld 33 = .ok (.iconst 0, 1) := by decide +kernel
theorem dX8_isHeld_34 : decode cX8_isHeld 34 = .ok (.ireturn, 1) := by decide +kernel
theorem dX8_comes_0 : decode cX8_comes 0 = .ok (.iload_n 2, 1) := by decide +kernel
theorem dX8_comes_1 : decode cX8_comes 1 = .ok (.bipush 16, 2) := by decide +kernel
theorem dX8_comes_3 : decode cX8_comes 3 = .ok (.irem, 1) := by decide +kernel
theorem dX8_comes_4 : decode cX8_comes 4 = .ok (.istore_n 3, 1) := by decide +kernel
theorem dX8_comes_5 : decode cX8_comes 5 = .ok (.iload_n 2, 1) := by decide +kernel
theorem dX8_comes_6 : decode cX8_comes 6 = .ok (.bipush 16, 2) := by decide +kernel
theorem dX8_comes_8 : decode cX8_comes 8 = .ok (.idiv, 1) := by decide +kernel
theorem dX8_comes_9 : decode cX8_comes 9 = .ok (.istore 4, 2) := by decide +kernel
theorem dX8_comes_11 : decode cX8_comes 11 = .ok (.aload_n 0, 1) := by decide +kernel
theorem dX8_comes_12 : decode cX8_comes 12 = .ok (.iload_n 1, 1) := by decide +kernel
theorem dX8_comes_13 : decode cX8_comes 13 = .ok (.iload_n 3, 1) := by decide +kernel
theorem dX8_comes_14 : decode cX8_comes 14 = .ok (.iconst 1, 1) := by decide +kernel
theorem dX8_comes_15 : decode cX8_comes 15 = .ok (.isub, 1) := by decide +kernel
theorem dX8_comes_16 : decode cX8_comes 16 = .ok (.iload 4, 2) := by decide +kernel
theorem dX8_comes_18 : decode cX8_comes 18 = .ok (.invokevirtual 217, 3) := by decide +kernel
theorem dX8_comes_21 : decode cX8_comes 21 = .ok (.ifCond .ne 42, 3) := by decide +kernel
theorem dX8_comes_24 : decode cX8_comes 24 = .ok (.aload_n 0, 1) := by decide +kernel
theorem dX8_comes_25 : decode cX8_comes 25 = .ok (.iload_n 1, 1) := by decide +kernel
theorem dX8_comes_26 : decode cX8_comes 26 = .ok (.iload_n 3, 1) := by decide +kernel
theorem dX8_comes_27 : decode cX8_comes 27 = .ok (.iconst 1, 1) := by decide +kernel
theorem dX8_comes_28 : decode cX8_comes 28 = .ok (.iadd, 1) := by decide +kernel
theorem dX8_comes_29 : decode cX8_comes 29 = .ok (.iload 4, 2) := by decide +kernel
theorem dX8_comes_31 : decode cX8_comes 31 = .ok (.invokevirtual 217, 3) := by decide +kernel
theorem dX8_comes_34 : decode cX8_comes 34 = .ok (.ifCond .ne 29, 3) := by decide +kernel
theorem dX8_comes_37 : decode cX8_comes 37 = .ok (.aload_n 0, 1) := by decide +kernel
theorem dX8_comes_38 : decode cX8_comes 38 = .ok (.iload_n 1, 1) := by decide +kernel
theorem dX8_comes_39 : decode cX8_comes 39 = .ok (.iload_n 3, 1) := by decide +kernel
theorem dX8_comes_40 : decode cX8_comes 40 = .ok (.iload 4, 2) := by decide +kernel
theorem dX8_comes_42 : decode cX8_comes 42 = .ok (.iconst 1, 1) := by decide +kernel
theorem dX8_comes_43 : decode cX8_comes 43 = .ok (.isub, 1) := by decide +kernel
theorem dX8_comes_44 : decode cX8_comes 44 = .ok (.invokevirtual 217, 3) := by decide +kernel
theorem dX8_comes_47 : decode cX8_comes 47 = .ok (.ifCond .ne 16, 3) := by decide +kernel
theorem dX8_comes_50 : decode cX8_comes 50 = .ok (.aload_n 0, 1) := by decide +kernel
theorem dX8_comes_51 : decode cX8_comes 51 = .ok (.iload_n 1, 1) := by decide +kernel
theorem dX8_comes_52 : decode cX8_comes 52 = .ok (.iload_n 3, 1) := by decide +kernel
theorem dX8_comes_53 : decode cX8_comes 53 = .ok (.iload 4, 2) := by decide +kernel
theorem dX8_comes_55 : decode cX8_comes 55 = .ok (.iconst 1, 1) := by decide +kernel
theorem dX8_comes_56 : decode cX8_comes 56 = .ok (.iadd, 1) := by decide +kernel
theorem dX8_comes_57 : decode cX8_comes 57 = .ok (.invokevirtual 217, 3) := by decide +kernel
theorem dX8_comes_60 : decode cX8_comes 60 = .ok (.ifCond .eq 7, 3) := by decide +kernel
theorem dX8_comes_63 : decode cX8_comes 63 = .ok (.iconst 1, 1) := by decide +kernel
theorem dX8_comes_64 : decode cX8_comes 64 = .ok (.goto 4, 3) := by decide +kernel
theorem dX8_comes_67 : decode cX8_comes 67 = .ok (.iconst 0, 1) := by decide +kernel
theorem dX8_comes_68 : decode cX8_comes 68 = .ok (.istore 5, 2) := by decide +kernel
theorem dX8_comes_70 : decode cX8_comes 70 = .ok (.aload_n 0, 1) := by decide +kernel
theorem dX8_comes_71 : decode cX8_comes 71 = .ok (.iload_n 3, 1) := by decide +kernel
theorem dX8_comes_72 : decode cX8_comes 72 = .ok (.iload 4, 2) := by decide +kernel
theorem dX8_comes_74 : decode cX8_comes 74 = .ok (.invokevirtual 104, 3) := by decide +kernel
theorem dX8_comes_77 : decode cX8_comes 77 = .ok (.ifCond .eq 39, 3) := by decide +kernel
theorem dX8_comes_80 : decode cX8_comes 80 = .ok (.iload 5, 2) := by decide +kernel
theorem dX8_comes_82 : decode cX8_comes 82 = .ok (.ifCond .eq 34, 3) := by decide +kernel
theorem dX8_comes_85 : decode cX8_comes 85 = .ok (.aload_n 0, 1) := by decide +kernel
theorem dX8_comes_86 : decode cX8_comes 86 = .ok (.iload_n 1, 1) := by decide +kernel
theorem dX8_comes_87 : decode cX8_comes 87 = .ok (.iload_n 2, 1) := by decide +kernel
theorem dX8_comes_88 : decode cX8_comes 88 = .ok (.invokevirtual 208, 3) := by decide +kernel
theorem dX8_comes_91 : decode cX8_comes 91 = .ok (.bipush (-9), 2) := by decide +kernel
theorem dX8_comes_93 : decode cX8_comes 93 = .ok (.if_icmp .eq 23, 3) := by decide +kernel
theorem dX8_comes_96 : decode cX8_comes 96 = .ok (.aload_n 0, 1) := by decide +kernel
theorem dX8_comes_97 : decode cX8_comes 97 = .ok (.iload_n 1, 1) := by decide +kernel
theorem dX8_comes_98 : decode cX8_comes 98 = .ok (.iload_n 2, 1) := by decide +kernel
theorem dX8_comes_99 : decode cX8_comes 99 = .ok (.invokevirtual 220, 3) := by decide +kernel
theorem dX8_comes_102 : decode cX8_comes 102 = .ok (.aload_n 0, 1) := by decide +kernel
theorem dX8_comes_103 : decode cX8_comes 103 = .ok (.getfield 20, 3) := by decide +kernel
theorem dX8_comes_106 : decode cX8_comes 106 = .ok (.bipush 7, 2) := by decide +kernel
theorem dX8_comes_108 : decode cX8_comes 108 = .ok (.iaload, 1) := by decide +kernel
theorem dX8_comes_109 : decode cX8_comes 109 = .ok (.if_icmp .gt 7, 3) := by decide +kernel
theorem dX8_comes_112 : decode cX8_comes 112 = .ok (.iconst 1, 1) := by decide +kernel
theorem dX8_comes_113 : decode cX8_comes 113 = .ok (.goto 4, 3) := by decide +kernel
theorem dX8_comes_116 : decode cX8_comes 116 = .ok (.iconst 0, 1) := by decide +kernel
theorem dX8_comes_117 : decode cX8_comes 117 = .ok (.ireturn, 1) := by decide +kernel
theorem dX8_grows_0 : decode cX8_grows 0 = .ok (.iconst 1, 1) := by decide +kernel
theorem dX8_grows_1 : decode cX8_grows 1 = .ok (.istore_n 2, 1) := by decide +kernel
theorem dX8_grows_2 : decode cX8_grows 2 = .ok (.iload_n 2, 1) := by decide +kernel
theorem dX8_grows_3 : decode cX8_grows 3 = .ok (.ifCond .eq 62, 3) := by decide +kernel
theorem dX8_grows_6 : decode cX8_grows 6 = .ok (.iconst 0, 1) := by decide +kernel
theorem dX8_grows_7 : decode cX8_grows 7 = .ok (.istore_n 2, 1) := by decide +kernel
theorem dX8_grows_8 : decode cX8_grows 8 = .ok (.iconst 0, 1) := by decide +kernel
theorem dX8_grows_9 : decode cX8_grows 9 = .ok (.istore_n 3, 1) := by decide +kernel
theorem dX8_grows_10 : decode cX8_grows 10 = .ok (.iload_n 3, 1) := by decide +kernel
theorem dX8_grows_11 : decode cX8_grows 11 = .ok (.sipush 256, 3) := by decide +kernel
theorem dX8_grows_14 : decode cX8_grows 14 = .ok (.if_icmp .ge 48, 3) := by decide +kernel
theorem dX8_grows_17 : decode cX8_grows 17 = .ok (.aload_n 0, 1) := by decide +kernel
theorem dX8_grows_18 : decode cX8_grows 18 = .ok (.getfield 87, 3) := by decide +kernel
theorem dX8_grows_21 : decode cX8_grows 21 = .ok (.sipush 256, 3) := by decide +kernel
theorem dX8_grows_24 : decode cX8_grows 24 = .ok (.iload_n 1, 1) := by decide +kernel
theorem dX8_grows_25 : decode cX8_grows 25 = .ok (.imul, 1) := by decide +kernel
theorem dX8_grows_26 : decode cX8_grows 26 = .ok (.iload_n 3, 1) := by decide +kernel
theorem dX8_grows_27 : decode cX8_grows 27 = .ok (.iadd, 1) := by decide +kernel
theorem dX8_grows_28 : decode cX8_grows 28 = .ok (.baload, 1) := by decide +kernel
theorem dX8_grows_29 : decode cX8_grows 29 = .ok (.ifCond .ne 27, 3) := by decide +kernel
theorem dX8_grows_32 : decode cX8_grows 32 = .ok (.aload_n 0, 1) := by decide +kernel
theorem dX8_grows_33 : decode cX8_grows 33 = .ok (.iload_n 1, 1) := by decide +kernel
theorem dX8_grows_34 : decode cX8_grows 34 = .ok (.iload_n 3, 1) := by decide +kernel
theorem dX8_grows_35 : decode cX8_grows 35 = .ok (.invokevirtual 223, 3) := by decide +kernel
theorem dX8_grows_38 : decode cX8_grows 38 = .ok (.ifCond .eq 18, 3) := by decide +kernel
theorem dX8_grows_41 : decode cX8_grows 41 = .ok (.aload_n 0, 1) := by decide +kernel
theorem dX8_grows_42 : decode cX8_grows 42 = .ok (.getfield 87, 3) := by decide +kernel
theorem dX8_grows_45 : decode cX8_grows 45 = .ok (.sipush 256, 3) := by decide +kernel
theorem dX8_grows_48 : decode cX8_grows 48 = .ok (.iload_n 1, 1) := by decide +kernel
theorem dX8_grows_49 : decode cX8_grows 49 = .ok (.imul, 1) := by decide +kernel
theorem dX8_grows_50 : decode cX8_grows 50 = .ok (.iload_n 3, 1) := by decide +kernel
theorem dX8_grows_51 : decode cX8_grows 51 = .ok (.iadd, 1) := by decide +kernel
theorem dX8_grows_52 : decode cX8_grows 52 = .ok (.iconst 1, 1) := by decide +kernel
theorem dX8_grows_53 : decode cX8_grows 53 = .ok (.bastore, 1) := by decide +kernel
theorem dX8_grows_54 : decode cX8_grows 54 = .ok (.iconst 1, 1) := by decide +kernel
theorem dX8_grows_55 : decode cX8_grows 55 = .ok (.istore_n 2, 1) := by decide +kernel
theorem dX8_grows_56 : decode cX8_grows 56 = .ok (.iinc 3 1, 3) := by decide +kernel
theorem dX8_grows_59 : decode cX8_grows 59 = .ok (.goto (-49), 3) := by decide +kernel
theorem dX8_grows_62 : decode cX8_grows 62 = .ok (.goto (-60), 3) := by decide +kernel
theorem dX8_grows_65 : decode cX8_grows 65 = .ok (.aload_n 0, 1) := by decide +kernel
theorem dX8_grows_66 : decode cX8_grows 66 = .ok (.getfield 84, 3) := by decide +kernel
theorem dX8_grows_69 : decode cX8_grows 69 = .ok (.iload_n 1, 1) := by decide +kernel
theorem dX8_grows_70 : decode cX8_grows 70 = .ok (.aload_n 0, 1) := by decide +kernel
theorem dX8_grows_71 : decode cX8_grows 71 = .ok (.iload_n 1, 1) := by decide +kernel
theorem dX8_grows_72 : decode cX8_grows 72 = .ok (.invokevirtual 214, 3) := by decide +kernel
theorem dX8_grows_75 : decode cX8_grows 75 = .ok (.iastore, 1) := by decide +kernel
theorem dX8_grows_76 : decode cX8_grows 76 = .ok (.return_, 1) := by decide +kernel
theorem dX8_isFindingAhead_0 : decode cX8_isFindingAhead 0 = .ok (.aload_n 0, 1) := by decide +kernel
theorem dX8_isFindingAhead_1 : decode cX8_isFindingAhead 1 = .ok (.getfield 84, 3) := by decide +kernel
theorem dX8_isFindingAhead_4 : decode cX8_isFindingAhead 4 = .ok (.iload_n 1, 1) := by decide +kernel
theorem dX8_isFindingAhead_5 : decode cX8_isFindingAhead 5 = .ok (.iaload, 1) := by decide +kernel
theorem dX8_isFindingAhead_6 : decode cX8_isFindingAhead 6 = .ok (.aload_n 0, 1) := by decide +kernel
theorem dX8_isFindingAhead_7 : decode cX8_isFindingAhead 7 = .ok (.getfield 84, 3) := by decide +kernel
theorem dX8_isFindingAhead_10 : decode cX8_isFindingAhead 10 = .ok (.iload_n 2, 1) := by decide +kernel
theorem dX8_isFindingAhead_11 : decode cX8_isFindingAhead 11 = .ok (.iaload, 1) := by decide +kernel
theorem dX8_isFindingAhead_12 : decode cX8_isFindingAhead 12 = .ok (.if_icmp .eq 24, 3) := by decide +kernel
theorem dX8_isFindingAhead_15 : decode cX8_isFindingAhead 15 = .ok (.aload_n 0, 1) := by decide +kernel
theorem dX8_isFindingAhead_16 : decode cX8_isFindingAhead 16 = .ok (.getfield 84, 3) := by decide +kernel
theorem dX8_isFindingAhead_19 : decode cX8_isFindingAhead 19 = .ok (.iload_n 1, 1) := by decide +kernel
theorem dX8_isFindingAhead_20 : decode cX8_isFindingAhead 20 = .ok (.iaload, 1) := by decide +kernel
theorem dX8_isFindingAhead_21 : decode cX8_isFindingAhead 21 = .ok (.aload_n 0, 1) := by decide +kernel
theorem dX8_isFindingAhead_22 : decode cX8_isFindingAhead 22 = .ok (.getfield 84, 3) := by decide +kernel
theorem dX8_isFindingAhead_25 : decode cX8_isFindingAhead 25 = .ok (.iload_n 2, 1) := by decide +kernel
theorem dX8_isFindingAhead_26 : decode cX8_isFindingAhead 26 = .ok (.iaload, 1) := by decide +kernel
theorem dX8_isFindingAhead_27 : decode cX8_isFindingAhead 27 = .ok (.if_icmp .le 7, 3) := by decide +kernel
theorem dX8_isFindingAhead_30 : decode cX8_isFindingAhead 30 = .ok (.iconst 1, 1) := by decide +kernel
theorem dX8_isFindingAhead_31 : decode cX8_isFindingAhead 31 = .ok (.goto 4, 3) := by decide +kernel
theorem dX8_isFindingAhead_34 : decode cX8_isFindingAhead 34 = .ok (.iconst 0, 1) := by decide +kernel
theorem dX8_isFindingAhead_35 : decode cX8_isFindingAhead 35 = .ok (.ireturn, 1) := by decide +kernel
theorem dX8_isFindingAhead_36 : decode cX8_isFindingAhead 36 = .ok (.aload_n 0, 1) := by decide +kernel
theorem dX8_isFindingAhead_37 : decode cX8_isFindingAhead 37 = .ok (.iload_n 1, 1) := by decide +kernel
theorem dX8_isFindingAhead_38 : decode cX8_isFindingAhead 38 = .ok (.invokevirtual 205, 3) := by decide +kernel
theorem dX8_isFindingAhead_41 : decode cX8_isFindingAhead 41 = .ok (.aload_n 0, 1) := by decide +kernel
theorem dX8_isFindingAhead_42 : decode cX8_isFindingAhead 42 = .ok (.iload_n 2, 1) := by decide +kernel
theorem dX8_isFindingAhead_43 : decode cX8_isFindingAhead 43 = .ok (.invokevirtual 205, 3) := by decide +kernel
theorem dX8_isFindingAhead_46 : decode cX8_isFindingAhead 46 = .ok (.if_icmp .eq 22, 3) := by decide +kernel
theorem dX8_isFindingAhead_49 : decode cX8_isFindingAhead 49 = .ok (.aload_n 0, 1) := by decide +kernel
theorem dX8_isFindingAhead_50 : decode cX8_isFindingAhead 50 = .ok (.iload_n 1, 1) := by decide +kernel
theorem dX8_isFindingAhead_51 : decode cX8_isFindingAhead 51 = .ok (.invokevirtual 205, 3) := by decide +kernel
theorem dX8_isFindingAhead_54 : decode cX8_isFindingAhead 54 = .ok (.aload_n 0, 1) := by decide +kernel
theorem dX8_isFindingAhead_55 : decode cX8_isFindingAhead 55 = .ok (.iload_n 2, 1) := by decide +kernel
theorem dX8_isFindingAhead_56 : decode cX8_isFindingAhead 56 = .ok (.invokevirtual 205, 3) := by decide +kernel
theorem dX8_isFindingAhead_59 : decode cX8_isFindingAhead 59 = .ok (.if_icmp .ge 7, 3) := by decide +kernel
theorem dX8_isFindingAhead_62 : decode cX8_isFindingAhead 62 = .ok (.iconst 1, 1) := by decide +kernel
theorem dX8_isFindingAhead_63 : decode cX8_isFindingAhead 63 = .ok (.goto 4, 3) := by decide +kernel
theorem dX8_isFindingAhead_66 : decode cX8_isFindingAhead 66 = .ok (.iconst 0, 1) := by decide +kernel
theorem dX8_isFindingAhead_67 : decode cX8_isFindingAhead 67 = .ok (.ireturn, 1) := by decide +kernel
theorem dX8_isFindingAhead_68 : decode cX8_isFindingAhead 68 = .ok (.aload_n 0, 1) := by decide +kernel
theorem dX8_isFindingAhead_69 : decode cX8_isFindingAhead 69 = .ok (.getfield 72, 3) := by decide +kernel
theorem dX8_isFindingAhead_72 : decode cX8_isFindingAhead 72 = .ok (.aload_n 0, 1) := by decide +kernel
theorem dX8_isFindingAhead_73 : decode cX8_isFindingAhead 73 = .ok (.getfield 75, 3) := by decide +kernel
theorem dX8_isFindingAhead_76 : decode cX8_isFindingAhead 76 = .ok (.iload_n 1, 1) := by decide +kernel
theorem dX8_isFindingAhead_77 : decode cX8_isFindingAhead 77 = .ok (.iaload, 1) := by decide +kernel
theorem dX8_isFindingAhead_78 : decode cX8_isFindingAhead 78 = .ok (.iaload, 1) := by decide +kernel
theorem dX8_isFindingAhead_79 : decode cX8_isFindingAhead 79 = .ok (.aload_n 0, 1) := by decide +kernel
theorem dX8_isFindingAhead_80 : decode cX8_isFindingAhead 80 = .ok (.getfield 72, 3) := by decide +kernel
theorem dX8_isFindingAhead_83 : decode cX8_isFindingAhead 83 = .ok (.aload_n 0, 1) := by decide +kernel
theorem dX8_isFindingAhead_84 : decode cX8_isFindingAhead 84 = .ok (.getfield 75, 3) := by decide +kernel
theorem dX8_isFindingAhead_87 : decode cX8_isFindingAhead 87 = .ok (.iload_n 2, 1) := by decide +kernel
theorem dX8_isFindingAhead_88 : decode cX8_isFindingAhead 88 = .ok (.iaload, 1) := by decide +kernel
theorem dX8_isFindingAhead_89 : decode cX8_isFindingAhead 89 = .ok (.iaload, 1) := by decide +kernel
theorem dX8_isFindingAhead_90 : decode cX8_isFindingAhead 90 = .ok (.if_icmp .ge 7, 3) := by decide +kernel
theorem dX8_isFindingAhead_93 : decode cX8_isFindingAhead 93 = .ok (.iconst 1, 1) := by decide +kernel
theorem dX8_isFindingAhead_94 : decode cX8_isFindingAhead 94 = .ok (.goto 4, 3) := by decide +kernel
theorem dX8_isFindingAhead_97 : decode cX8_isFindingAhead 97 = .ok (.iconst 0, 1) := by decide +kernel
theorem dX8_isFindingAhead_98 : decode cX8_isFindingAhead 98 = .ok (.ireturn, 1) := by decide +kernel
theorem dX8_findFindings_0 : decode cX8_findFindings 0 = .ok (.aload_n 0, 1) := by decide +kernel
theorem dX8_findFindings_1 : decode cX8_findFindings 1 = .ok (.getfield 93, 3) := by decide +kernel
theorem dX8_findFindings_4 : decode cX8_findFindings 4 = .ok (.iconst 4, 1) := by decide +kernel
theorem dX8_findFindings_5 : decode cX8_findFindings 5 = .ok (.if_icmp .le 4, 3) := by decide +kernel
theorem dX8_findFindings_8 : decode cX8_findFindings 8 = .ok (.return_, 1) := by decide +kernel
theorem dX8_findFindings_9 : decode cX8_findFindings 9 = .ok (.aload_n 0, 1) := by decide +kernel
theorem dX8_findFindings_10 : decode cX8_findFindings 10 = .ok (.invokevirtual 196, 3) := by decide +kernel
theorem dX8_findFindings_13 : decode cX8_findFindings 13 = .ok (.aload_n 0, 1) := by decide +kernel
theorem dX8_findFindings_14 : decode cX8_findFindings 14 = .ok (.iconst 5, 1) := by decide +kernel
theorem dX8_findFindings_15 : decode cX8_findFindings 15 = .ok (.putfield 93, 3) := by decide +kernel
theorem dX8_findFindings_18 : decode cX8_findFindings 18 = .ok (.aload_n 0, 1) := by decide +kernel
theorem dX8_findFindings_19 : decode cX8_findFindings 19 = .ok (.iconst 0, 1) := by decide +kernel
theorem dX8_findFindings_20 : decode cX8_findFindings 20 = .ok (.putfield 199, 3) := by decide +kernel
theorem dX8_findFindings_23 : decode cX8_findFindings 23 = .ok (.aload_n 0, 1) := by decide +kernel
theorem dX8_findFindings_24 : decode cX8_findFindings 24 = .ok (.invokevirtual 226, 3) := by decide +kernel
theorem dX8_findFindings_27 : decode cX8_findFindings 27 = .ok (.istore_n 1, 1) := by decide +kernel
theorem dX8_findFindings_28 : decode cX8_findFindings 28 = .ok (.iload_n 1, 1) := by decide +kernel
theorem dX8_findFindings_29 : decode cX8_findFindings 29 = .ok (.bipush (-9), 2) := by decide +kernel
theorem dX8_findFindings_31 : decode cX8_findFindings 31 = .ok (.if_icmp .eq 56, 3) := by decide +kernel
theorem dX8_findFindings_34 : decode cX8_findFindings 34 = .ok (.aload_n 0, 1) := by decide +kernel
theorem dX8_findFindings_35 : decode cX8_findFindings 35 = .ok (.getfield 199, 3) := by decide +kernel
theorem dX8_findFindings_38 : decode cX8_findFindings 38 = .ok (.bipush 24, 2) := by decide +kernel
theorem dX8_findFindings_40 : decode cX8_findFindings 40 = .ok (.if_icmp .ge 47, 3) := by decide +kernel
theorem dX8_findFindings_43 : decode cX8_findFindings 43 = .ok (.aload_n 0, 1) := by decide +kernel
theorem dX8_findFindings_44 : decode cX8_findFindings 44 = .ok (.getfield 75, 3) := by decide +kernel
theorem dX8_findFindings_47 : decode cX8_findFindings 47 = .ok (.aload_n 0, 1) := by decide +kernel
theorem dX8_findFindings_48 : decode cX8_findFindings 48 = .ok (.getfield 199, 3) := by decide +kernel
theorem dX8_findFindings_51 : decode cX8_findFindings 51 = .ok (.iload_n 1, 1) := by decide +kernel
theorem dX8_findFindings_52 : decode cX8_findFindings 52 = .ok (.iastore, 1) := by decide +kernel
theorem dX8_findFindings_53 : decode cX8_findFindings 53 = .ok (.aload_n 0, 1) := by decide +kernel
theorem dX8_findFindings_54 : decode cX8_findFindings 54 = .ok (.aload_n 0, 1) := by decide +kernel
theorem dX8_findFindings_55 : decode cX8_findFindings 55 = .ok (.getfield 199, 3) := by decide +kernel
theorem dX8_findFindings_58 : decode cX8_findFindings 58 = .ok (.invokevirtual 229, 3) := by decide +kernel
theorem dX8_findFindings_61 : decode cX8_findFindings 61 = .ok (.aload_n 0, 1) := by decide +kernel
theorem dX8_findFindings_62 : decode cX8_findFindings 62 = .ok (.aload_n 0, 1) := by decide +kernel
theorem dX8_findFindings_63 : decode cX8_findFindings 63 = .ok (.getfield 199, 3) := by decide +kernel
theorem dX8_findFindings_66 : decode cX8_findFindings 66 = .ok (.invokevirtual 233, 3) := by decide +kernel
theorem dX8_findFindings_69 : decode cX8_findFindings 69 = .ok (.aload_n 0, 1) := by decide +kernel
theorem dX8_findFindings_70 : decode cX8_findFindings 70 = .ok (.dup, 1) := by decide +kernel
theorem dX8_findFindings_71 : decode cX8_findFindings 71 = .ok (.getfield 199, 3) := by decide +kernel
theorem dX8_findFindings_74 : decode cX8_findFindings 74 = .ok (.iconst 1, 1) := by decide +kernel
theorem dX8_findFindings_75 : decode cX8_findFindings 75 = .ok (.iadd, 1) := by decide +kernel
theorem dX8_findFindings_76 : decode cX8_findFindings 76 = .ok (.putfield 199, 3) := by decide +kernel
theorem dX8_findFindings_79 : decode cX8_findFindings 79 = .ok (.aload_n 0, 1) := by decide +kernel
theorem dX8_findFindings_80 : decode cX8_findFindings 80 = .ok (.invokevirtual 226, 3) := by decide +kernel
theorem dX8_findFindings_83 : decode cX8_findFindings 83 = .ok (.istore_n 1, 1) := by decide +kernel
theorem dX8_findFindings_84 : decode cX8_findFindings 84 = .ok (.goto (-56), 3) := by decide +kernel
theorem dX8_findFindings_87 : decode cX8_findFindings 87 = .ok (.iconst 0, 1) := by decide +kernel
theorem dX8_findFindings_88 : decode cX8_findFindings 88 = .ok (.istore_n 2, 1) := by decide +kernel
theorem dX8_findFindings_89 : decode cX8_findFindings 89 = .ok (.iload_n 2, 1) := by decide +kernel
theorem dX8_findFindings_90 : decode cX8_findFindings 90 = .ok (.aload_n 0, 1) := by decide +kernel
theorem dX8_findFindings_91 : decode cX8_findFindings 91 = .ok (.getfield 199, 3) := by decide +kernel
theorem dX8_findFindings_94 : decode cX8_findFindings 94 = .ok (.if_icmp .ge 54, 3) := by decide +kernel
theorem dX8_findFindings_97 : decode cX8_findFindings 97 = .ok (.iconst 0, 1) := by decide +kernel
theorem dX8_findFindings_98 : decode cX8_findFindings 98 = .ok (.istore_n 3, 1) := by decide +kernel
theorem dX8_findFindings_99 : decode cX8_findFindings 99 = .ok (.iconst 0, 1) := by decide +kernel
theorem dX8_findFindings_100 : decode cX8_findFindings 100 = .ok (.istore 4, 2) := by decide +kernel
theorem dX8_findFindings_102 : decode cX8_findFindings 102 = .ok (.iload 4, 2) := by decide +kernel
theorem dX8_findFindings_104 : decode cX8_findFindings 104 = .ok (.aload_n 0, 1) := by decide +kernel
theorem dX8_findFindings_105 : decode cX8_findFindings 105 = .ok (.getfield 199, 3) := by decide +kernel
theorem dX8_findFindings_108 : decode cX8_findFindings 108 = .ok (.if_icmp .ge 27, 3) := by decide +kernel
theorem dX8_findFindings_111 : decode cX8_findFindings 111 = .ok (.iload_n 3, 1) := by decide +kernel
theorem dX8_findFindings_112 : decode cX8_findFindings 112 = .ok (.aload_n 0, 1) := by decide +kernel
theorem dX8_findFindings_113 : decode cX8_findFindings 113 = .ok (.iload 4, 2) := by decide +kernel
theorem dX8_findFindings_115 : decode cX8_findFindings 115 = .ok (.iload_n 2, 1) := by decide +kernel
theorem dX8_findFindings_116 : decode cX8_findFindings 116 = .ok (.invokevirtual 236, 3) := by decide +kernel
theorem dX8_findFindings_119 : decode cX8_findFindings 119 = .ok (.ifCond .eq 7, 3) := by decide +kernel
theorem dX8_findFindings_122 : decode cX8_findFindings 122 = .ok (.iconst 1, 1) := by decide +kernel
theorem dX8_findFindings_123 : decode cX8_findFindings 123 = .ok (.goto 4, 3) := by decide +kernel
theorem dX8_findFindings_126 : decode cX8_findFindings 126 = .ok (.iconst 0, 1) := by decide +kernel
theorem dX8_findFindings_127 : decode cX8_findFindings 127 = .ok (.iadd, 1) := by decide +kernel
theorem dX8_findFindings_128 : decode cX8_findFindings 128 = .ok (.istore_n 3, 1) := by decide +kernel
theorem dX8_findFindings_129 : decode cX8_findFindings 129 = .ok (.iinc 4 1, 3) := by decide +kernel
theorem dX8_findFindings_132 : decode cX8_findFindings 132 = .ok (.goto (-30), 3) := by decide +kernel
theorem dX8_findFindings_135 : decode cX8_findFindings 135 = .ok (.aload_n 0, 1) := by decide +kernel
theorem dX8_findFindings_136 : decode cX8_findFindings 136 = .ok (.getfield 90, 3) := by decide +kernel
theorem dX8_findFindings_139 : decode cX8_findFindings 139 = .ok (.iload_n 3, 1) := by decide +kernel
theorem dX8_findFindings_140 : decode cX8_findFindings 140 = .ok (.iload_n 2, 1) := by decide +kernel
theorem dX8_findFindings_141 : decode cX8_findFindings 141 = .ok (.iastore, 1) := by decide +kernel
theorem dX8_findFindings_142 : decode cX8_findFindings 142 = .ok (.iinc 2 1, 3) := by decide +kernel
theorem dX8_findFindings_145 : decode cX8_findFindings 145 = .ok (.goto (-56), 3) := by decide +kernel
theorem dX8_findFindings_148 : decode cX8_findFindings 148 = .ok (.return_, 1) := by decide +kernel
theorem dX8_measures_0 : decode cX8_measures 0 = .ok (.aload_n 0, 1) := by decide +kernel
theorem dX8_measures_1 : decode cX8_measures 1 = .ok (.bipush 16, 2) := by decide +kernel
theorem dX8_measures_3 : decode cX8_measures 3 = .ok (.putfield 239, 3) := by decide +kernel
theorem dX8_measures_6 : decode cX8_measures 6 = .ok (.aload_n 0, 1) := by decide +kernel
theorem dX8_measures_7 : decode cX8_measures 7 = .ok (.iconst (-1), 1) := by decide +kernel
theorem dX8_measures_8 : decode cX8_measures 8 = .ok (.putfield 242, 3) := by decide +kernel
theorem dX8_measures_11 : decode cX8_measures 11 = .ok (.aload_n 0, 1) := by decide +kernel
theorem dX8_measures_12 : decode cX8_measures 12 = .ok (.bipush 16, 2) := by decide +kernel
theorem dX8_measures_14 : decode cX8_measures 14 = .ok (.putfield 245, 3) := by decide +kernel
theorem dX8_measures_17 : decode cX8_measures 17 = .ok (.aload_n 0, 1) := by decide +kernel
theorem dX8_measures_18 : decode cX8_measures 18 = .ok (.iconst (-1), 1) := by decide +kernel
theorem dX8_measures_19 : decode cX8_measures 19 = .ok (.putfield 248, 3) := by decide +kernel
theorem dX8_measures_22 : decode cX8_measures 22 = .ok (.aload_n 0, 1) := by decide +kernel
theorem dX8_measures_23 : decode cX8_measures 23 = .ok (.iconst 0, 1) := by decide +kernel
theorem dX8_measures_24 : decode cX8_measures 24 = .ok (.putfield 251, 3) := by decide +kernel
theorem dX8_measures_27 : decode cX8_measures 27 = .ok (.iconst 0, 1) := by decide +kernel
theorem dX8_measures_28 : decode cX8_measures 28 = .ok (.istore_n 2, 1) := by decide +kernel
theorem dX8_measures_29 : decode cX8_measures 29 = .ok (.iload_n 2, 1) := by decide +kernel
theorem dX8_measures_30 : decode cX8_measures 30 = .ok (.sipush 256, 3) := by decide +kernel
theorem dX8_measures_33 : decode cX8_measures 33 = .ok (.if_icmp .ge 143, 3) := by decide +kernel
theorem dX8_measures_36 : decode cX8_measures 36 = .ok (.aload_n 0, 1) := by decide +kernel
theorem dX8_measures_37 : decode cX8_measures 37 = .ok (.getfield 87, 3) := by decide +kernel
theorem dX8_measures_40 : decode cX8_measures 40 = .ok (.sipush 256, 3) := by decide +kernel
theorem dX8_measures_43 : decode cX8_measures 43 = .ok (.iload_n 1, 1) := by decide +kernel
theorem dX8_measures_44 : decode cX8_measures 44 = .ok (.imul, 1) := by decide +kernel
theorem dX8_measures_45 : decode cX8_measures 45 = .ok (.iload_n 2, 1) := by decide +kernel
theorem dX8_measures_46 : decode cX8_measures 46 = .ok (.iadd, 1) := by decide +kernel
theorem dX8_measures_47 : decode cX8_measures 47 = .ok (.baload, 1) := by decide +kernel
theorem dX8_measures_48 : decode cX8_measures 48 = .ok (.ifCond .eq 122, 3) := by decide +kernel
theorem dX8_measures_51 : decode cX8_measures 51 = .ok (.aload_n 0, 1) := by decide +kernel
theorem dX8_measures_52 : decode cX8_measures 52 = .ok (.iload_n 2, 1) := by decide +kernel
theorem dX8_measures_53 : decode cX8_measures 53 = .ok (.bipush 16, 2) := by decide +kernel
theorem dX8_measures_55 : decode cX8_measures 55 = .ok (.irem, 1) := by decide +kernel
theorem dX8_measures_56 : decode cX8_measures 56 = .ok (.aload_n 0, 1) := by decide +kernel
theorem dX8_measures_57 : decode cX8_measures 57 = .ok (.getfield 239, 3) := by decide +kernel
theorem dX8_measures_60 : decode cX8_measures 60 = .ok (.if_icmp .ge 10, 3) := by decide +kernel
theorem dX8_measures_63 : decode cX8_measures 63 = .ok (.iload_n 2, 1) := by decide +kernel
theorem dX8_measures_64 : decode cX8_measures 64 = .ok (.bipush 16, 2) := by decide +kernel
theorem dX8_measures_66 : decode cX8_measures 66 = .ok (.irem, 1) := by decide +kernel
theorem dX8_measures_67 : decode cX8_measures 67 = .ok (.goto 7, 3) := by decide +kernel
theorem dX8_measures_70 : decode cX8_measures 70 = .ok (.aload_n 0, 1) := by decide +kernel
theorem dX8_measures_71 : decode cX8_measures 71 = .ok (.getfield 239, 3) := by decide +kernel
theorem dX8_measures_74 : decode cX8_measures 74 = .ok (.putfield 239, 3) := by decide +kernel
theorem dX8_measures_77 : decode cX8_measures 77 = .ok (.aload_n 0, 1) := by decide +kernel
theorem dX8_measures_78 : decode cX8_measures 78 = .ok (.iload_n 2, 1) := by decide +kernel
theorem dX8_measures_79 : decode cX8_measures 79 = .ok (.bipush 16, 2) := by decide +kernel
theorem dX8_measures_81 : decode cX8_measures 81 = .ok (.irem, 1) := by decide +kernel
theorem dX8_measures_82 : decode cX8_measures 82 = .ok (.aload_n 0, 1) := by decide +kernel
theorem dX8_measures_83 : decode cX8_measures 83 = .ok (.getfield 242, 3) := by decide +kernel
theorem dX8_measures_86 : decode cX8_measures 86 = .ok (.if_icmp .le 10, 3) := by decide +kernel
theorem dX8_measures_89 : decode cX8_measures 89 = .ok (.iload_n 2, 1) := by decide +kernel
theorem dX8_measures_90 : decode cX8_measures 90 = .ok (.bipush 16, 2) := by decide +kernel
theorem dX8_measures_92 : decode cX8_measures 92 = .ok (.irem, 1) := by decide +kernel
theorem dX8_measures_93 : decode cX8_measures 93 = .ok (.goto 7, 3) := by decide +kernel
theorem dX8_measures_96 : decode cX8_measures 96 = .ok (.aload_n 0, 1) := by decide +kernel
theorem dX8_measures_97 : decode cX8_measures 97 = .ok (.getfield 242, 3) := by decide +kernel
theorem dX8_measures_100 : decode cX8_measures 100 = .ok (.putfield 242, 3) := by decide +kernel
theorem dX8_measures_103 : decode cX8_measures 103 = .ok (.aload_n 0, 1) := by decide +kernel
theorem dX8_measures_104 : decode cX8_measures 104 = .ok (.iload_n 2, 1) := by decide +kernel
theorem dX8_measures_105 : decode cX8_measures 105 = .ok (.bipush 16, 2) := by decide +kernel
theorem dX8_measures_107 : decode cX8_measures 107 = .ok (.idiv, 1) := by decide +kernel
theorem dX8_measures_108 : decode cX8_measures 108 = .ok (.aload_n 0, 1) := by decide +kernel
theorem dX8_measures_109 : decode cX8_measures 109 = .ok (.getfield 245, 3) := by decide +kernel
theorem dX8_measures_112 : decode cX8_measures 112 = .ok (.if_icmp .ge 10, 3) := by decide +kernel
theorem dX8_measures_115 : decode cX8_measures 115 = .ok (.iload_n 2, 1) := by decide +kernel
theorem dX8_measures_116 : decode cX8_measures 116 = .ok (.bipush 16, 2) := by decide +kernel
theorem dX8_measures_118 : decode cX8_measures 118 = .ok (.idiv, 1) := by decide +kernel
theorem dX8_measures_119 : decode cX8_measures 119 = .ok (.goto 7, 3) := by decide +kernel
theorem dX8_measures_122 : decode cX8_measures 122 = .ok (.aload_n 0, 1) := by decide +kernel
theorem dX8_measures_123 : decode cX8_measures 123 = .ok (.getfield 245, 3) := by decide +kernel
theorem dX8_measures_126 : decode cX8_measures 126 = .ok (.putfield 245, 3) := by decide +kernel
theorem dX8_measures_129 : decode cX8_measures 129 = .ok (.aload_n 0, 1) := by decide +kernel
theorem dX8_measures_130 : decode cX8_measures 130 = .ok (.iload_n 2, 1) := by decide +kernel
theorem dX8_measures_131 : decode cX8_measures 131 = .ok (.bipush 16, 2) := by decide +kernel
theorem dX8_measures_133 : decode cX8_measures 133 = .ok (.idiv, 1) := by decide +kernel
theorem dX8_measures_134 : decode cX8_measures 134 = .ok (.aload_n 0, 1) := by decide +kernel
theorem dX8_measures_135 : decode cX8_measures 135 = .ok (.getfield 248, 3) := by decide +kernel
theorem dX8_measures_138 : decode cX8_measures 138 = .ok (.if_icmp .le 10, 3) := by decide +kernel
theorem dX8_measures_141 : decode cX8_measures 141 = .ok (.iload_n 2, 1) := by decide +kernel
theorem dX8_measures_142 : decode cX8_measures 142 = .ok (.bipush 16, 2) := by decide +kernel
theorem dX8_measures_144 : decode cX8_measures 144 = .ok (.idiv, 1) := by decide +kernel
theorem dX8_measures_145 : decode cX8_measures 145 = .ok (.goto 7, 3) := by decide +kernel
theorem dX8_measures_148 : decode cX8_measures 148 = .ok (.aload_n 0, 1) := by decide +kernel
theorem dX8_measures_149 : decode cX8_measures 149 = .ok (.getfield 248, 3) := by decide +kernel
theorem dX8_measures_152 : decode cX8_measures 152 = .ok (.putfield 248, 3) := by decide +kernel
theorem dX8_measures_155 : decode cX8_measures 155 = .ok (.aload_n 0, 1) := by decide +kernel
theorem dX8_measures_156 : decode cX8_measures 156 = .ok (.dup, 1) := by decide +kernel
theorem dX8_measures_157 : decode cX8_measures 157 = .ok (.getfield 251, 3) := by decide +kernel
theorem dX8_measures_160 : decode cX8_measures 160 = .ok (.aload_n 0, 1) := by decide +kernel
theorem dX8_measures_161 : decode cX8_measures 161 = .ok (.iload_n 1, 1) := by decide +kernel
theorem dX8_measures_162 : decode cX8_measures 162 = .ok (.iload_n 2, 1) := by decide +kernel
theorem dX8_measures_163 : decode cX8_measures 163 = .ok (.invokevirtual 220, 3) := by decide +kernel
theorem dX8_measures_166 : decode cX8_measures 166 = .ok (.iadd, 1) := by decide +kernel
theorem dX8_measures_167 : decode cX8_measures 167 = .ok (.putfield 251, 3) := by decide +kernel
theorem dX8_measures_170 : decode cX8_measures 170 = .ok (.iinc 2 1, 3) := by decide +kernel
theorem dX8_measures_173 : decode cX8_measures 173 = .ok (.goto (-144), 3) := by decide +kernel
theorem dX8_measures_176 : decode cX8_measures 176 = .ok (.return_, 1) := by decide +kernel
theorem dX8_finding_0 : decode cX8_finding 0 = .ok (.aload_n 0, 1) := by decide +kernel
theorem dX8_finding_1 : decode cX8_finding 1 = .ok (.invokevirtual 254, 3) := by decide +kernel
theorem dX8_finding_4 : decode cX8_finding 4 = .ok (.iload_n 1, 1) := by decide +kernel
theorem dX8_finding_5 : decode cX8_finding 5 = .ok (.iconst 0, 1) := by decide +kernel
theorem dX8_finding_6 : decode cX8_finding 6 = .ok (.aload_n 0, 1) := by decide +kernel
theorem dX8_finding_7 : decode cX8_finding 7 = .ok (.getfield 199, 3) := by decide +kernel
theorem dX8_finding_10 : decode cX8_finding 10 = .ok (.iconst 1, 1) := by decide +kernel
theorem dX8_finding_11 : decode cX8_finding 11 = .ok (.isub, 1) := by decide +kernel
theorem dX8_finding_12 : decode cX8_finding 12 = .ok (.invokestatic 96, 3) := by decide +kernel
theorem dX8_finding_15 : decode cX8_finding 15 = .ok (.ifCond .ne 5, 3) := by decide +kernel
theorem dX8_finding_18 : decode cX8_finding 18 = .ok (.iconst (-1), 1) := by decide +kernel
theorem dX8_finding_19 : decode cX8_finding 19 = .ok (.ireturn, 1) := by decide +kernel
theorem dX8_finding_20 : decode cX8_finding 20 = .ok (.aload_n 0, 1) := by decide +kernel
theorem dX8_finding_21 : decode cX8_finding 21 = .ok (.getfield 90, 3) := by decide +kernel
theorem dX8_finding_24 : decode cX8_finding 24 = .ok (.iload_n 1, 1) := by decide +kernel
theorem dX8_finding_25 : decode cX8_finding 25 = .ok (.iaload, 1) := by decide +kernel
theorem dX8_finding_26 : decode cX8_finding 26 = .ok (.istore_n 3, 1) := by decide +kernel
theorem dX8_finding_27 : decode cX8_finding 27 = .ok (.aload_n 0, 1) := by decide +kernel
theorem dX8_finding_28 : decode cX8_finding 28 = .ok (.iload_n 3, 1) := by decide +kernel
theorem dX8_finding_29 : decode cX8_finding 29 = .ok (.invokevirtual 257, 3) := by decide +kernel
theorem dX8_finding_32 : decode cX8_finding 32 = .ok (.iload_n 2, 1) := by decide +kernel
theorem dX8_finding_33 : decode cX8_finding 33 = .ok (.tableswitch 122 0 9 #[55, 61, 73, 80, 87, 92, 97, 102, 107, 117], 55) := by decide +kernel
theorem dX8_finding_88 : decode cX8_finding 88 = .ok (.aload_n 0, 1) := by decide +kernel
theorem dX8_finding_89 : decode cX8_finding 89 = .ok (.iload_n 3, 1) := by decide +kernel
theorem dX8_finding_90 : decode cX8_finding 90 = .ok (.invokevirtual 205, 3) := by decide +kernel
theorem dX8_finding_93 : decode cX8_finding 93 = .ok (.ireturn, 1) := by decide +kernel
theorem dX8_finding_94 : decode cX8_finding 94 = .ok (.aload_n 0, 1) := by decide +kernel
theorem dX8_finding_95 : decode cX8_finding 95 = .ok (.getfield 69, 3) := by decide +kernel
theorem dX8_finding_98 : decode cX8_finding 98 = .ok (.aload_n 0, 1) := by decide +kernel
theorem dX8_finding_99 : decode cX8_finding 99 = .ok (.getfield 75, 3) := by decide +kernel
theorem dX8_finding_102 : decode cX8_finding 102 = .ok (.iload_n 3, 1) := by decide +kernel
theorem dX8_finding_103 : decode cX8_finding 103 = .ok (.iaload, 1) := by decide +kernel
theorem dX8_finding_104 : decode cX8_finding 104 = .ok (.iaload, 1) := by decide +kernel
theorem dX8_finding_105 : decode cX8_finding 105 = .ok (.ireturn, 1) := by decide +kernel
theorem dX8_finding_106 : decode cX8_finding 106 = .ok (.aload_n 0, 1) := by decide +kernel
theorem dX8_finding_107 : decode cX8_finding 107 = .ok (.getfield 81, 3) := by decide +kernel
theorem dX8_finding_110 : decode cX8_finding 110 = .ok (.iload_n 3, 1) := by decide +kernel
theorem dX8_finding_111 : decode cX8_finding 111 = .ok (.iaload, 1) := by decide +kernel
