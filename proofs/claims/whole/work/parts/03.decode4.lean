theorem dX9_go_203 : decode cX9_go 203 = .ok (.isub, 1) := by decide +kernel
theorem dX9_go_204 : decode cX9_go 204 = .ok (.goto 4, 3) := by decide +kernel
theorem dX9_go_207 : decode cX9_go 207 = .ok (.iconst 0, 1) := by decide +kernel
theorem dX9_go_208 : decode cX9_go 208 = .ok (.iastore, 1) := by decide +kernel
theorem dX9_go_209 : decode cX9_go 209 = .ok (.aload_n 0, 1) := by decide +kernel
theorem dX9_go_210 : decode cX9_go 210 = .ok (.getfield 81, 3) := by decide +kernel
theorem dX9_go_213 : decode cX9_go 213 = .ok (.iload 4, 2) := by decide +kernel
theorem dX9_go_215 : decode cX9_go 215 = .ok (.aload_n 0, 1) := by decide +kernel
theorem dX9_go_216 : decode cX9_go 216 = .ok (.getfield 72, 3) := by decide +kernel
theorem dX9_go_219 : decode cX9_go 219 = .ok (.iload 4, 2) := by decide +kernel
theorem dX9_go_221 : decode cX9_go 221 = .ok (.iaload, 1) := by decide +kernel
theorem dX9_go_222 : decode cX9_go 222 = .ok (.aload_n 0, 1) := by decide +kernel
theorem dX9_go_223 : decode cX9_go 223 = .ok (.getfield 13, 3) := by decide +kernel
theorem dX9_go_226 : decode cX9_go 226 = .ok (.iconst 4, 1) := by decide +kernel
theorem dX9_go_227 : decode cX9_go 227 = .ok (.isub, 1) := by decide +kernel
theorem dX9_go_228 : decode cX9_go 228 = .ok (.if_icmp .le 7, 3) := by decide +kernel
theorem dX9_go_231 : decode cX9_go 231 = .ok (.iconst 1, 1) := by decide +kernel
theorem dX9_go_232 : decode cX9_go 232 = .ok (.goto 4, 3) := by decide +kernel
theorem dX9_go_235 : decode cX9_go 235 = .ok (.iconst 0, 1) := by decide +kernel
theorem dX9_go_236 : decode cX9_go 236 = .ok (.bastore, 1) := by decide +kernel
theorem dX9_go_237 : decode cX9_go 237 = .ok (.goto 62, 3) := by decide +kernel
theorem dX9_go_240 : decode cX9_go 240 = .ok (.aload_n 0, 1) := by decide +kernel
theorem dX9_go_241 : decode cX9_go 241 = .ok (.getfield 72, 3) := by decide +kernel
theorem dX9_go_244 : decode cX9_go 244 = .ok (.iload 4, 2) := by decide +kernel
theorem dX9_go_246 : decode cX9_go 246 = .ok (.aload_n 0, 1) := by decide +kernel
theorem dX9_go_247 : decode cX9_go 247 = .ok (.getfield 72, 3) := by decide +kernel
theorem dX9_go_250 : decode cX9_go 250 = .ok (.iload 4, 2) := by decide +kernel
theorem dX9_go_252 : decode cX9_go 252 = .ok (.iaload, 1) := by decide +kernel
theorem dX9_go_253 : decode cX9_go 253 = .ok (.bipush 97, 2) := by decide +kernel
theorem dX9_go_255 : decode cX9_go 255 = .ok (.if_icmp .le 8, 3) := by decide +kernel
theorem dX9_go_258 : decode cX9_go 258 = .ok (.bipush 99, 2) := by decide +kernel
theorem dX9_go_260 : decode cX9_go 260 = .ok (.goto 12, 3) := by decide +kernel
theorem dX9_go_263 : decode cX9_go 263 = .ok (.aload_n 0, 1) := by decide +kernel
theorem dX9_go_264 : decode cX9_go 264 = .ok (.getfield 72, 3) := by decide +kernel
theorem dX9_go_267 : decode cX9_go 267 = .ok (.iload 4, 2) := by decide +kernel
theorem dX9_go_269 : decode cX9_go 269 = .ok (.iaload, 1) := by decide +kernel
theorem dX9_go_270 : decode cX9_go 270 = .ok (.iconst 2, 1) := by decide +kernel
theorem dX9_go_271 : decode cX9_go 271 = .ok (.iadd, 1) := by decide +kernel
theorem dX9_go_272 : decode cX9_go 272 = .ok (.iastore, 1) := by decide +kernel
theorem dX9_go_273 : decode cX9_go 273 = .ok (.aload_n 0, 1) := by decide +kernel
theorem dX9_go_274 : decode cX9_go 274 = .ok (.getfield 81, 3) := by decide +kernel
theorem dX9_go_277 : decode cX9_go 277 = .ok (.iload 4, 2) := by decide +kernel
theorem dX9_go_279 : decode cX9_go 279 = .ok (.aload_n 0, 1) := by decide +kernel
theorem dX9_go_280 : decode cX9_go 280 = .ok (.getfield 72, 3) := by decide +kernel
theorem dX9_go_283 : decode cX9_go 283 = .ok (.iload 4, 2) := by decide +kernel
theorem dX9_go_285 : decode cX9_go 285 = .ok (.iaload, 1) := by decide +kernel
theorem dX9_go_286 : decode cX9_go 286 = .ok (.aload_n 0, 1) := by decide +kernel
theorem dX9_go_287 : decode cX9_go 287 = .ok (.getfield 13, 3) := by decide +kernel
theorem dX9_go_290 : decode cX9_go 290 = .ok (.if_icmp .lt 7, 3) := by decide +kernel
theorem dX9_go_293 : decode cX9_go 293 = .ok (.iconst 1, 1) := by decide +kernel
theorem dX9_go_294 : decode cX9_go 294 = .ok (.goto 4, 3) := by decide +kernel
theorem dX9_go_297 : decode cX9_go 297 = .ok (.iconst 0, 1) := by decide +kernel
theorem dX9_go_298 : decode cX9_go 298 = .ok (.bastore, 1) := by decide +kernel
theorem dX9_go_299 : decode cX9_go 299 = .ok (.iload_n 3, 1) := by decide +kernel
theorem dX9_go_300 : decode cX9_go 300 = .ok (.iload_n 1, 1) := by decide +kernel
theorem dX9_go_301 : decode cX9_go 301 = .ok (.iload 4, 2) := by decide +kernel
theorem dX9_go_303 : decode cX9_go 303 = .ok (.invokestatic 160, 3) := by decide +kernel
theorem dX9_go_306 : decode cX9_go 306 = .ok (.ifCond .ne 20, 3) := by decide +kernel
theorem dX9_go_309 : decode cX9_go 309 = .ok (.aload_n 0, 1) := by decide +kernel
theorem dX9_go_310 : decode cX9_go 310 = .ok (.getfield 81, 3) := by decide +kernel
theorem dX9_go_313 : decode cX9_go 313 = .ok (.iload 4, 2) := by decide +kernel
theorem dX9_go_315 : decode cX9_go 315 = .ok (.baload, 1) := by decide +kernel
theorem dX9_go_316 : decode cX9_go 316 = .ok (.ifCond .ne 10, 3) := by decide +kernel
theorem dX9_go_319 : decode cX9_go 319 = .ok (.iconst 1, 1) := by decide +kernel
theorem dX9_go_320 : decode cX9_go 320 = .ok (.iload 4, 2) := by decide +kernel
theorem dX9_go_322 : decode cX9_go 322 = .ok (.ishl, 1) := by decide +kernel
theorem dX9_go_323 : decode cX9_go 323 = .ok (.goto 4, 3) := by decide +kernel
theorem dX9_go_326 : decode cX9_go 326 = .ok (.iconst 0, 1) := by decide +kernel
theorem dX9_go_327 : decode cX9_go 327 = .ok (.ior, 1) := by decide +kernel
theorem dX9_go_328 : decode cX9_go 328 = .ok (.istore_n 3, 1) := by decide +kernel
theorem dX9_go_329 : decode cX9_go 329 = .ok (.iinc 4 1, 3) := by decide +kernel
theorem dX9_go_332 : decode cX9_go 332 = .ok (.goto (-281), 3) := by decide +kernel
theorem dX9_go_335 : decode cX9_go 335 = .ok (.iload_n 3, 1) := by decide +kernel
theorem dX9_go_336 : decode cX9_go 336 = .ok (.ireturn, 1) := by decide +kernel
theorem dX9_may_0 : decode cX9_may 0 = .ok (.aload_n 0, 1) := by decide +kernel
theorem dX9_may_1 : decode cX9_may 1 = .ok (.iconst 0, 1) := by decide +kernel
theorem dX9_may_2 : decode cX9_may 2 = .ok (.putfield 87, 3) := by decide +kernel
theorem dX9_may_5 : decode cX9_may 5 = .ok (.aload_n 0, 1) := by decide +kernel
theorem dX9_may_6 : decode cX9_may 6 = .ok (.iload_n 1, 1) := by decide +kernel
theorem dX9_may_7 : decode cX9_may 7 = .ok (.invokevirtual 167, 3) := by decide +kernel
theorem dX9_may_10 : decode cX9_may 10 = .ok (.ifCond .eq 6, 3) := by decide +kernel
theorem dX9_may_13 : decode cX9_may 13 = .ok (.bipush (-2), 2) := by decide +kernel
theorem dX9_may_15 : decode cX9_may 15 = .ok (.ireturn, 1) := by decide +kernel
theorem dX9_may_16 : decode cX9_may 16 = .ok (.aload_n 0, 1) := by decide +kernel
theorem dX9_may_17 : decode cX9_may 17 = .ok (.invokevirtual 170, 3) := by decide +kernel
theorem dX9_may_20 : decode cX9_may 20 = .ok (.aload_n 0, 1) := by decide +kernel
theorem dX9_may_21 : decode cX9_may 21 = .ok (.iload_n 1, 1) := by decide +kernel
theorem dX9_may_22 : decode cX9_may 22 = .ok (.invokevirtual 173, 3) := by decide +kernel
theorem dX9_may_25 : decode cX9_may 25 = .ok (.ifCond .eq 7, 3) := by decide +kernel
theorem dX9_may_28 : decode cX9_may 28 = .ok (.iconst 1, 1) := by decide +kernel
theorem dX9_may_29 : decode cX9_may 29 = .ok (.goto 4, 3) := by decide +kernel
theorem dX9_may_32 : decode cX9_may 32 = .ok (.iconst 0, 1) := by decide +kernel
theorem dX9_may_33 : decode cX9_may 33 = .ok (.ireturn, 1) := by decide +kernel
theorem dX9_layPage_0 : decode cX9_layPage 0 = .ok (.iconst 0, 1) := by decide +kernel
theorem dX9_layPage_1 : decode cX9_layPage 1 = .ok (.istore_n 3, 1) := by decide +kernel
theorem dX9_layPage_2 : decode cX9_layPage 2 = .ok (.iload_n 3, 1) := by decide +kernel
theorem dX9_layPage_3 : decode cX9_layPage 3 = .ok (.iconst 5, 1) := by decide +kernel
theorem dX9_layPage_4 : decode cX9_layPage 4 = .ok (.if_icmp .ge 83, 3) := by decide +kernel
theorem dX9_layPage_7 : decode cX9_layPage 7 = .ok (.aload_n 1, 1) := by decide +kernel
theorem dX9_layPage_8 : decode cX9_layPage 8 = .ok (.iload_n 2, 1) := by decide +kernel
theorem dX9_layPage_9 : decode cX9_layPage 9 = .ok (.iload_n 3, 1) := by decide +kernel
theorem dX9_layPage_10 : decode cX9_layPage 10 = .ok (.iadd, 1) := by decide +kernel
theorem dX9_layPage_11 : decode cX9_layPage 11 = .ok (.aload_n 0, 1) := by decide +kernel
theorem dX9_layPage_12 : decode cX9_layPage 12 = .ok (.getfield 17, 3) := by decide +kernel
theorem dX9_layPage_15 : decode cX9_layPage 15 = .ok (.iload_n 3, 1) := by decide +kernel
theorem dX9_layPage_16 : decode cX9_layPage 16 = .ok (.iaload, 1) := by decide +kernel
theorem dX9_layPage_17 : decode cX9_layPage 17 = .ok (.iastore, 1) := by decide +kernel
theorem dX9_layPage_18 : decode cX9_layPage 18 = .ok (.aload_n 1, 1) := by decide +kernel
theorem dX9_layPage_19 : decode cX9_layPage 19 = .ok (.iload_n 2, 1) := by decide +kernel
theorem dX9_layPage_20 : decode cX9_layPage 20 = .ok (.iconst 5, 1) := by decide +kernel
theorem dX9_layPage_21 : decode cX9_layPage 21 = .ok (.iadd, 1) := by decide +kernel
theorem dX9_layPage_22 : decode cX9_layPage 22 = .ok (.iload_n 3, 1) := by decide +kernel
theorem dX9_layPage_23 : decode cX9_layPage 23 = .ok (.iadd, 1) := by decide +kernel
theorem dX9_layPage_24 : decode cX9_layPage 24 = .ok (.aload_n 0, 1) := by decide +kernel
theorem dX9_layPage_25 : decode cX9_layPage 25 = .ok (.getfield 20, 3) := by decide +kernel
theorem dX9_layPage_28 : decode cX9_layPage 28 = .ok (.iload_n 3, 1) := by decide +kernel
theorem dX9_layPage_29 : decode cX9_layPage 29 = .ok (.iaload, 1) := by decide +kernel
theorem dX9_layPage_30 : decode cX9_layPage 30 = .ok (.iastore, 1) := by decide +kernel
theorem dX9_layPage_31 : decode cX9_layPage 31 = .ok (.aload_n 1, 1) := by decide +kernel
theorem dX9_layPage_32 : decode cX9_layPage 32 = .ok (.iload_n 2, 1) := by decide +kernel
theorem dX9_layPage_33 : decode cX9_layPage 33 = .ok (.bipush 10, 2) := by decide +kernel
theorem dX9_layPage_35 : decode cX9_layPage 35 = .ok (.iadd, 1) := by decide +kernel
theorem dX9_layPage_36 : decode cX9_layPage 36 = .ok (.iload_n 3, 1) := by decide +kernel
theorem dX9_layPage_37 : decode cX9_layPage 37 = .ok (.iadd, 1) := by decide +kernel
theorem dX9_layPage_38 : decode cX9_layPage 38 = .ok (.aload_n 0, 1) := by decide +kernel
theorem dX9_layPage_39 : decode cX9_layPage 39 = .ok (.getfield 23, 3) := by decide +kernel
theorem dX9_layPage_42 : decode cX9_layPage 42 = .ok (.iload_n 3, 1) := by decide +kernel
theorem dX9_layPage_43 : decode cX9_layPage 43 = .ok (.iaload, 1) := by decide +kernel
theorem dX9_layPage_44 : decode cX9_layPage 44 = .ok (.iastore, 1) := by decide +kernel
theorem dX9_layPage_45 : decode cX9_layPage 45 = .ok (.aload_n 1, 1) := by decide +kernel
theorem dX9_layPage_46 : decode cX9_layPage 46 = .ok (.iload_n 2, 1) := by decide +kernel
theorem dX9_layPage_47 : decode cX9_layPage 47 = .ok (.bipush 15, 2) := by decide +kernel
theorem dX9_layPage_49 : decode cX9_layPage 49 = .ok (.iadd, 1) := by decide +kernel
theorem dX9_layPage_50 : decode cX9_layPage 50 = .ok (.iload_n 3, 1) := by decide +kernel
theorem dX9_layPage_51 : decode cX9_layPage 51 = .ok (.iadd, 1) := by decide +kernel
theorem dX9_layPage_52 : decode cX9_layPage 52 = .ok (.aload_n 0, 1) := by decide +kernel
theorem dX9_layPage_53 : decode cX9_layPage 53 = .ok (.getfield 26, 3) := by decide +kernel
theorem dX9_layPage_56 : decode cX9_layPage 56 = .ok (.iload_n 3, 1) := by decide +kernel
theorem dX9_layPage_57 : decode cX9_layPage 57 = .ok (.baload, 1) := by decide +kernel
theorem dX9_layPage_58 : decode cX9_layPage 58 = .ok (.ifCond .eq 7, 3) := by decide +kernel
theorem dX9_layPage_61 : decode cX9_layPage 61 = .ok (.iconst 1, 1) := by decide +kernel
theorem dX9_layPage_62 : decode cX9_layPage 62 = .ok (.goto 4, 3) := by decide +kernel
theorem dX9_layPage_65 : decode cX9_layPage 65 = .ok (.iconst 0, 1) := by decide +kernel
theorem dX9_layPage_66 : decode cX9_layPage 66 = .ok (.iastore, 1) := by decide +kernel
theorem dX9_layPage_67 : decode cX9_layPage 67 = .ok (.aload_n 1, 1) := by decide +kernel
theorem dX9_layPage_68 : decode cX9_layPage 68 = .ok (.iload_n 2, 1) := by decide +kernel
theorem dX9_layPage_69 : decode cX9_layPage 69 = .ok (.bipush 20, 2) := by decide +kernel
theorem dX9_layPage_71 : decode cX9_layPage 71 = .ok (.iadd, 1) := by decide +kernel
theorem dX9_layPage_72 : decode cX9_layPage 72 = .ok (.iload_n 3, 1) := by decide +kernel
theorem dX9_layPage_73 : decode cX9_layPage 73 = .ok (.iadd, 1) := by decide +kernel
theorem dX9_layPage_74 : decode cX9_layPage 74 = .ok (.aload_n 0, 1) := by decide +kernel
theorem dX9_layPage_75 : decode cX9_layPage 75 = .ok (.getfield 36, 3) := by decide +kernel
theorem dX9_layPage_78 : decode cX9_layPage 78 = .ok (.iload_n 3, 1) := by decide +kernel
theorem dX9_layPage_79 : decode cX9_layPage 79 = .ok (.iaload, 1) := by decide +kernel
theorem dX9_layPage_80 : decode cX9_layPage 80 = .ok (.iastore, 1) := by decide +kernel
theorem dX9_layPage_81 : decode cX9_layPage 81 = .ok (.iinc 3 1, 3) := by decide +kernel
theorem dX9_layPage_84 : decode cX9_layPage 84 = .ok (.goto (-82), 3) := by decide +kernel
theorem dX9_layPage_87 : decode cX9_layPage 87 = .ok (.aload_n 1, 1) := by decide +kernel
theorem dX9_layPage_88 : decode cX9_layPage 88 = .ok (.iload_n 2, 1) := by decide +kernel
theorem dX9_layPage_89 : decode cX9_layPage 89 = .ok (.bipush 25, 2) := by decide +kernel
theorem dX9_layPage_91 : decode cX9_layPage 91 = .ok (.iadd, 1) := by decide +kernel
theorem dX9_layPage_92 : decode cX9_layPage 92 = .ok (.aload_n 0, 1) := by decide +kernel
theorem dX9_layPage_93 : decode cX9_layPage 93 = .ok (.getfield 142, 3) := by decide +kernel
theorem dX9_layPage_96 : decode cX9_layPage 96 = .ok (.iastore, 1) := by decide +kernel
theorem dX9_layPage_97 : decode cX9_layPage 97 = .ok (.aload_n 1, 1) := by decide +kernel
theorem dX9_layPage_98 : decode cX9_layPage 98 = .ok (.iload_n 2, 1) := by decide +kernel
theorem dX9_layPage_99 : decode cX9_layPage 99 = .ok (.bipush 26, 2) := by decide +kernel
theorem dX9_layPage_101 : decode cX9_layPage 101 = .ok (.iadd, 1) := by decide +kernel
theorem dX9_layPage_102 : decode cX9_layPage 102 = .ok (.aload_n 0, 1) := by decide +kernel
theorem dX9_layPage_103 : decode cX9_layPage 103 = .ok (.getfield 145, 3) := by decide +kernel
theorem dX9_layPage_106 : decode cX9_layPage 106 = .ok (.iastore, 1) := by decide +kernel
theorem dX9_layPage_107 : decode cX9_layPage 107 = .ok (.return_, 1) := by decide +kernel
theorem dX9_takePage_0 : decode cX9_takePage 0 = .ok (.iconst 0, 1) := by decide +kernel
theorem dX9_takePage_1 : decode cX9_takePage 1 = .ok (.istore_n 3, 1) := by decide +kernel
theorem dX9_takePage_2 : decode cX9_takePage 2 = .ok (.iload_n 3, 1) := by decide +kernel
theorem dX9_takePage_3 : decode cX9_takePage 3 = .ok (.iconst 5, 1) := by decide +kernel
theorem dX9_takePage_4 : decode cX9_takePage 4 = .ok (.if_icmp .ge 84, 3) := by decide +kernel
theorem dX9_takePage_7 : decode cX9_takePage 7 = .ok (.aload_n 0, 1) := by decide +kernel
theorem dX9_takePage_8 : decode cX9_takePage 8 = .ok (.getfield 17, 3) := by decide +kernel
theorem dX9_takePage_11 : decode cX9_takePage 11 = .ok (.iload_n 3, 1) := by decide +kernel
theorem dX9_takePage_12 : decode cX9_takePage 12 = .ok (.aload_n 1, 1) := by decide +kernel
theorem dX9_takePage_13 : decode cX9_takePage 13 = .ok (.iload_n 2, 1) := by decide +kernel
theorem dX9_takePage_14 : decode cX9_takePage 14 = .ok (.iload_n 3, 1) := by decide +kernel
theorem dX9_takePage_15 : decode cX9_takePage 15 = .ok (.iadd, 1) := by decide +kernel
theorem dX9_takePage_16 : decode cX9_takePage 16 = .ok (.iaload, 1) := by decide +kernel
theorem dX9_takePage_17 : decode cX9_takePage 17 = .ok (.iastore, 1) := by decide +kernel
theorem dX9_takePage_18 : decode cX9_takePage 18 = .ok (.aload_n 0, 1) := by decide +kernel
theorem dX9_takePage_19 : decode cX9_takePage 19 = .ok (.getfield 20, 3) := by decide +kernel
theorem dX9_takePage_22 : decode cX9_takePage 22 = .ok (.iload_n 3, 1) := by decide +kernel
theorem dX9_takePage_23 : decode cX9_takePage 23 = .ok (.aload_n 1, 1) := by decide +kernel
theorem dX9_takePage_24 : decode cX9_takePage 24 = .ok (.iload_n 2, 1) := by decide +kernel
theorem dX9_takePage_25 : decode cX9_takePage 25 = .ok (.iconst 5, 1) := by decide +kernel
theorem dX9_takePage_26 : decode cX9_takePage 26 = .ok (.iadd, 1) := by decide +kernel
theorem dX9_takePage_27 : decode cX9_takePage 27 = .ok (.iload_n 3, 1) := by decide +kernel
theorem dX9_takePage_28 : decode cX9_takePage 28 = .ok (.iadd, 1) := by decide +kernel
theorem dX9_takePage_29 : decode cX9_takePage 29 = .ok (.iaload, 1) := by decide +kernel
theorem dX9_takePage_30 : decode cX9_takePage 30 = .ok (.iastore, 1) := by decide +kernel
theorem dX9_takePage_31 : decode cX9_takePage 31 = .ok (.aload_n 0, 1) := by decide +kernel
theorem dX9_takePage_32 : decode cX9_takePage 32 = .ok (.getfield 23, 3) := by decide +kernel
theorem dX9_takePage_35 : decode cX9_takePage 35 = .ok (.iload_n 3, 1) := by decide +kernel
theorem dX9_takePage_36 : decode cX9_takePage 36 = .ok (.aload_n 1, 1) := by decide +kernel
theorem dX9_takePage_37 : decode cX9_takePage 37 = .ok (.iload_n 2, 1) := by decide +kernel
theorem dX9_takePage_38 : decode cX9_takePage 38 = .ok (.bipush 10, 2) := by decide +kernel
theorem dX9_takePage_40 : decode cX9_takePage 40 = .ok (.iadd, 1) := by decide +kernel
theorem dX9_takePage_41 : decode cX9_takePage 41 = .ok (.iload_n 3, 1) := by decide +kernel
theorem dX9_takePage_42 : decode cX9_takePage 42 = .ok (.iadd, 1) := by decide +kernel
theorem dX9_takePage_43 : decode cX9_takePage 43 = .ok (.iaload, 1) := by decide +kernel
theorem dX9_takePage_44 : decode cX9_takePage 44 = .ok (.iastore, 1) := by decide +kernel
theorem dX9_takePage_45 : decode cX9_takePage 45 = .ok (.aload_n 0, 1) := by decide +kernel
theorem dX9_takePage_46 : decode cX9_takePage 46 = .ok (.getfield 26, 3) := by decide +kernel
theorem dX9_takePage_49 : decode cX9_takePage 49 = .ok (.iload_n 3, 1) := by decide +kernel
theorem dX9_takePage_50 : decode cX9_takePage 50 = .ok (.aload_n 1, 1) := by decide +kernel
theorem dX9_takePage_51 : decode cX9_takePage 51 = .ok (.iload_n 2, 1) := by decide +kernel
theorem dX9_takePage_52 : decode cX9_takePage 52 = .ok (.bipush 15, 2) := by decide +kernel
theorem dX9_takePage_54 : decode cX9_takePage 54 = .ok (.iadd, 1) := by decide +kernel
theorem dX9_takePage_55 : decode cX9_takePage 55 = .ok (.iload_n 3, 1) := by decide +kernel
theorem dX9_takePage_56 : decode cX9_takePage 56 = .ok (.iadd, 1) := by decide +kernel
theorem dX9_takePage_57 : decode cX9_takePage 57 = .ok (.iaload, 1) := by decide +kernel
theorem dX9_takePage_58 : decode cX9_takePage 58 = .ok (.iconst 1, 1) := by decide +kernel
theorem dX9_takePage_59 : decode cX9_takePage 59 = .ok (.if_icmp .ne 7, 3) := by decide +kernel
theorem dX9_takePage_62 : decode cX9_takePage 62 = .ok (.iconst 1, 1) := by decide +kernel
theorem dX9_takePage_63 : decode cX9_takePage 63 = .ok (.goto 4, 3) := by decide +kernel
theorem dX9_takePage_66 : decode cX9_takePage 66 = .ok (.iconst 0, 1) := by decide +kernel
theorem dX9_takePage_67 : decode cX9_takePage 67 = .ok (.bastore, 1) := by decide +kernel
theorem dX9_takePage_68 : decode cX9_takePage 68 = .ok (.aload_n 0, 1) := by decide +kernel
theorem dX9_takePage_69 : decode cX9_takePage 69 = .ok (.getfield 36, 3) := by decide +kernel
theorem dX9_takePage_72 : decode cX9_takePage 72 = .ok (.iload_n 3, 1) := by decide +kernel
theorem dX9_takePage_73 : decode cX9_takePage 73 = .ok (.aload_n 1, 1) := by decide +kernel
theorem dX9_takePage_74 : decode cX9_takePage 74 = .ok (.iload_n 2, 1) := by decide +kernel
theorem dX9_takePage_75 : decode cX9_takePage 75 = .ok (.bipush 20, 2) := by decide +kernel
theorem dX9_takePage_77 : decode cX9_takePage 77 = .ok (.iadd, 1) := by decide +kernel
theorem dX9_takePage_78 : decode cX9_takePage 78 = .ok (.iload_n 3, 1) := by decide +kernel
theorem dX9_takePage_79 : decode cX9_takePage 79 = .ok (.iadd, 1) := by decide +kernel
theorem dX9_takePage_80 : decode cX9_takePage 80 = .ok (.iaload, 1) := by decide +kernel
theorem dX9_takePage_81 : decode cX9_takePage 81 = .ok (.iastore, 1) := by decide +kernel
theorem dX9_takePage_82 : decode cX9_takePage 82 = .ok (.iinc 3 1, 3) := by decide +kernel
theorem dX9_takePage_85 : decode cX9_takePage 85 = .ok (.goto (-83), 3) := by decide +kernel
theorem dX9_takePage_88 : decode cX9_takePage 88 = .ok (.aload_n 0, 1) := by decide +kernel
theorem dX9_takePage_89 : decode cX9_takePage 89 = .ok (.aload_n 1, 1) := by decide +kernel
theorem dX9_takePage_90 : decode cX9_takePage 90 = .ok (.iload_n 2, 1) := by decide +kernel
theorem dX9_takePage_91 : decode cX9_takePage 91 = .ok (.bipush 25, 2) := by decide +kernel
theorem dX9_takePage_93 : decode cX9_takePage 93 = .ok (.iadd, 1) := by decide +kernel
theorem dX9_takePage_94 : decode cX9_takePage 94 = .ok (.iaload, 1) := by decide +kernel
theorem dX9_takePage_95 : decode cX9_takePage 95 = .ok (.putfield 142, 3) := by decide +kernel
theorem dX9_takePage_98 : decode cX9_takePage 98 = .ok (.aload_n 0, 1) := by decide +kernel
theorem dX9_takePage_99 : decode cX9_takePage 99 = .ok (.aload_n 1, 1) := by decide +kernel
theorem dX9_takePage_100 : decode cX9_takePage 100 = .ok (.iload_n 2, 1) := by decide +kernel
theorem dX9_takePage_101 : decode cX9_takePage 101 = .ok (.bipush 26, 2) := by decide +kernel
theorem dX9_takePage_103 : decode cX9_takePage 103 = .ok (.iadd, 1) := by decide +kernel
theorem dX9_takePage_104 : decode cX9_takePage 104 = .ok (.iaload, 1) := by decide +kernel
theorem dX9_takePage_105 : decode cX9_takePage 105 = .ok (.putfield 145, 3) := by decide +kernel
theorem dX9_takePage_108 : decode cX9_takePage 108 = .ok (.return_, 1) := by decide +kernel
theorem dX9_note_0 : decode cX9_note 0 = .ok (.aload_n 0, 1) := by decide +kernel
theorem dX9_note_1 : decode cX9_note 1 = .ok (.getfield 148, 3) := by decide +kernel
theorem dX9_note_4 : decode cX9_note 4 = .ok (.bipush 12, 2) := by decide +kernel
theorem dX9_note_6 : decode cX9_note 6 = .ok (.if_icmp .ne 43, 3) := by decide +kernel
theorem dX9_note_9 : decode cX9_note 9 = .ok (.iconst 0, 1) := by decide +kernel
theorem dX9_note_10 : decode cX9_note 10 = .ok (.istore_n 1, 1) := by decide +kernel
theorem dX9_note_11 : decode cX9_note 11 = .ok (.iload_n 1, 1) := by decide +kernel
theorem dX9_note_12 : decode cX9_note 12 = .ok (.sipush 297, 3) := by decide +kernel
theorem dX9_note_15 : decode cX9_note 15 = .ok (.if_icmp .ge 24, 3) := by decide +kernel
theorem dX9_note_18 : decode cX9_note 18 = .ok (.aload_n 0, 1) := by decide +kernel
theorem dX9_note_19 : decode cX9_note 19 = .ok (.getfield 54, 3) := by decide +kernel
theorem dX9_note_22 : decode cX9_note 22 = .ok (.iload_n 1, 1) := by decide +kernel
theorem dX9_note_23 : decode cX9_note 23 = .ok (.aload_n 0, 1) := by decide +kernel
theorem dX9_note_24 : decode cX9_note 24 = .ok (.getfield 54, 3) := by decide +kernel
theorem dX9_note_27 : decode cX9_note 27 = .ok (.iload_n 1, 1) := by decide +kernel
theorem dX9_note_28 : decode cX9_note 28 = .ok (.bipush 27, 2) := by decide +kernel
theorem dX9_note_30 : decode cX9_note 30 = .ok (.iadd, 1) := by decide +kernel
theorem dX9_note_31 : decode cX9_note 31 = .ok (.iaload, 1) := by decide +kernel
theorem dX9_note_32 : decode cX9_note 32 = .ok (.iastore, 1) := by decide +kernel
theorem dX9_note_33 : decode cX9_note 33 = .ok (.iinc 1 1, 3) := by decide +kernel
theorem dX9_note_36 : decode cX9_note 36 = .ok (.goto (-25), 3) := by decide +kernel
theorem dX9_note_39 : decode cX9_note 39 = .ok (.aload_n 0, 1) := by decide +kernel
theorem dX9_note_40 : decode cX9_note 40 = .ok (.dup, 1) := by decide +kernel
theorem dX9_note_41 : decode cX9_note 41 = .ok (.getfield 148, 3) := by decide +kernel
theorem dX9_note_44 : decode cX9_note 44 = .ok (.iconst 1, 1) := by decide +kernel
theorem dX9_note_45 : decode cX9_note 45 = .ok (.isub, 1) := by decide +kernel
theorem dX9_note_46 : decode cX9_note 46 = .ok (.putfield 148, 3) := by decide +kernel
theorem dX9_note_49 : decode cX9_note 49 = .ok (.aload_n 0, 1) := by decide +kernel
theorem dX9_note_50 : decode cX9_note 50 = .ok (.aload_n 0, 1) := by decide +kernel
theorem dX9_note_51 : decode cX9_note 51 = .ok (.getfield 54, 3) := by decide +kernel
theorem dX9_note_54 : decode cX9_note 54 = .ok (.bipush 27, 2) := by decide +kernel
theorem dX9_note_56 : decode cX9_note 56 = .ok (.aload_n 0, 1) := by decide +kernel
theorem dX9_note_57 : decode cX9_note 57 = .ok (.getfield 148, 3) := by decide +kernel
theorem dX9_note_60 : decode cX9_note 60 = .ok (.imul, 1) := by decide +kernel
theorem dX9_note_61 : decode cX9_note 61 = .ok (.invokevirtual 176, 3) := by decide +kernel
theorem dX9_note_64 : decode cX9_note 64 = .ok (.aload_n 0, 1) := by decide +kernel
theorem dX9_note_65 : decode cX9_note 65 = .ok (.dup, 1) := by decide +kernel
theorem dX9_note_66 : decode cX9_note 66 = .ok (.getfield 148, 3) := by decide +kernel
theorem dX9_note_69 : decode cX9_note 69 = .ok (.iconst 1, 1) := by decide +kernel
theorem dX9_note_70 : decode cX9_note 70 = .ok (.iadd, 1) := by decide +kernel
theorem dX9_note_71 : decode cX9_note 71 = .ok (.putfield 148, 3) := by decide +kernel
theorem dX9_note_74 : decode cX9_note 74 = .ok (.return_, 1) := by decide +kernel
theorem dX9_quarter_0 : decode cX9_quarter 0 = .ok (.aload_n 0, 1) := by decide +kernel
theorem dX9_quarter_1 : decode cX9_quarter 1 = .ok (.iconst 0, 1) := by decide +kernel
theorem dX9_quarter_2 : decode cX9_quarter 2 = .ok (.putfield 87, 3) := by decide +kernel
theorem dX9_quarter_5 : decode cX9_quarter 5 = .ok (.aload_n 0, 1) := by decide +kernel
theorem dX9_quarter_6 : decode cX9_quarter 6 = .ok (.iload_n 1, 1) := by decide +kernel
theorem dX9_quarter_7 : decode cX9_quarter 7 = .ok (.invokevirtual 167, 3) := by decide +kernel
theorem dX9_quarter_10 : decode cX9_quarter 10 = .ok (.ifCond .eq 6, 3) := by decide +kernel
theorem dX9_quarter_13 : decode cX9_quarter 13 = .ok (.bipush (-2), 2) := by decide +kernel
theorem dX9_quarter_15 : decode cX9_quarter 15 = .ok (.ireturn, 1) := by decide +kernel
theorem dX9_quarter_16 : decode cX9_quarter 16 = .ok (.aload_n 0, 1) := by decide +kernel
theorem dX9_quarter_17 : decode cX9_quarter 17 = .ok (.invokevirtual 170, 3) := by decide +kernel
theorem dX9_quarter_20 : decode cX9_quarter 20 = .ok (.aload_n 0, 1) := by decide +kernel
theorem dX9_quarter_21 : decode cX9_quarter 21 = .ok (.iload_n 1, 1) := by decide +kernel
theorem dX9_quarter_22 : decode cX9_quarter 22 = .ok (.invokevirtual 173, 3) := by decide +kernel
theorem dX9_quarter_25 : decode cX9_quarter 25 = .ok (.ifCond .ne 6, 3) := by decide +kernel
theorem dX9_quarter_28 : decode cX9_quarter 28 = .ok (.bipush (-3), 2) := by decide +kernel
theorem dX9_quarter_30 : decode cX9_quarter 30 = .ok (.ireturn, 1) := by decide +kernel
theorem dX9_quarter_31 : decode cX9_quarter 31 = .ok (.aload_n 0, 1) := by decide +kernel
theorem dX9_quarter_32 : decode cX9_quarter 32 = .ok (.invokevirtual 180, 3) := by decide +kernel
theorem dX9_quarter_35 : decode cX9_quarter 35 = .ok (.aload_n 0, 1) := by decide +kernel
theorem dX9_quarter_36 : decode cX9_quarter 36 = .ok (.iload_n 1, 1) := by decide +kernel
theorem dX9_quarter_37 : decode cX9_quarter 37 = .ok (.invokevirtual 183, 3) := by decide +kernel
theorem dX9_quarter_40 : decode cX9_quarter 40 = .ok (.istore_n 2, 1) := by decide +kernel
theorem dX9_quarter_41 : decode cX9_quarter 41 = .ok (.iconst 0, 1) := by decide +kernel
theorem dX9_quarter_42 : decode cX9_quarter 42 = .ok (.istore_n 3, 1) := by decide +kernel
theorem dX9_quarter_43 : decode cX9_quarter 43 = .ok (.iload_n 3, 1) := by decide +kernel
theorem dX9_quarter_44 : decode cX9_quarter 44 = .ok (.aload_n 0, 1) := by decide +kernel
theorem dX9_quarter_45 : decode cX9_quarter 45 = .ok (.getfield 90, 3) := by decide +kernel
theorem dX9_quarter_48 : decode cX9_quarter 48 = .ok (.if_icmp .ge 79, 3) := by decide +kernel
theorem dX9_quarter_51 : decode cX9_quarter 51 = .ok (.aload_n 0, 1) := by decide +kernel
theorem dX9_quarter_52 : decode cX9_quarter 52 = .ok (.getfield 17, 3) := by decide +kernel
theorem dX9_quarter_55 : decode cX9_quarter 55 = .ok (.iload_n 3, 1) := by decide +kernel
theorem dX9_quarter_56 : decode cX9_quarter 56 = .ok (.aload_n 0, 1) := by decide +kernel
theorem dX9_quarter_57 : decode cX9_quarter 57 = .ok (.getfield 72, 3) := by decide +kernel
theorem dX9_quarter_60 : decode cX9_quarter 60 = .ok (.iload_n 3, 1) := by decide +kernel
theorem dX9_quarter_61 : decode cX9_quarter 61 = .ok (.iaload, 1) := by decide +kernel
theorem dX9_quarter_62 : decode cX9_quarter 62 = .ok (.iastore, 1) := by decide +kernel
theorem dX9_quarter_63 : decode cX9_quarter 63 = .ok (.aload_n 0, 1) := by decide +kernel
theorem dX9_quarter_64 : decode cX9_quarter 64 = .ok (.getfield 20, 3) := by decide +kernel
theorem dX9_quarter_67 : decode cX9_quarter 67 = .ok (.iload_n 3, 1) := by decide +kernel
theorem dX9_quarter_68 : decode cX9_quarter 68 = .ok (.aload_n 0, 1) := by decide +kernel
theorem dX9_quarter_69 : decode cX9_quarter 69 = .ok (.getfield 75, 3) := by decide +kernel
theorem dX9_quarter_72 : decode cX9_quarter 72 = .ok (.iload_n 3, 1) := by decide +kernel
theorem dX9_quarter_73 : decode cX9_quarter 73 = .ok (.iaload, 1) := by decide +kernel
theorem dX9_quarter_74 : decode cX9_quarter 74 = .ok (.iastore, 1) := by decide +kernel
theorem dX9_quarter_75 : decode cX9_quarter 75 = .ok (.aload_n 0, 1) := by decide +kernel
theorem dX9_quarter_76 : decode cX9_quarter 76 = .ok (.getfield 23, 3) := by decide +kernel
theorem dX9_quarter_79 : decode cX9_quarter 79 = .ok (.iload_n 3, 1) := by decide +kernel
theorem dX9_quarter_80 : decode cX9_quarter 80 = .ok (.aload_n 0, 1) := by decide +kernel
theorem dX9_quarter_81 : decode cX9_quarter 81 = .ok (.getfield 78, 3) := by decide +kernel
theorem dX9_quarter_84 : decode cX9_quarter 84 = .ok (.iload_n 3, 1) := by decide +kernel
theorem dX9_quarter_85 : decode cX9_quarter 85 = .ok (.iaload, 1) := by decide +kernel
theorem dX9_quarter_86 : decode cX9_quarter 86 = .ok (.iastore, 1) := by decide +kernel
theorem dX9_quarter_87 : decode cX9_quarter 87 = .ok (.aload_n 0, 1) := by decide +kernel
theorem dX9_quarter_88 : decode cX9_quarter 88 = .ok (.getfield 26, 3) := by decide +kernel
theorem dX9_quarter_91 : decode cX9_quarter 91 = .ok (.iload_n 3, 1) := by decide +kernel
theorem dX9_quarter_92 : decode cX9_quarter 92 = .ok (.aload_n 0, 1) := by decide +kernel
theorem dX9_quarter_93 : decode cX9_quarter 93 = .ok (.getfield 81, 3) := by decide +kernel
theorem dX9_quarter_96 : decode cX9_quarter 96 = .ok (.iload_n 3, 1) := by decide +kernel
theorem dX9_quarter_97 : decode cX9_quarter 97 = .ok (.baload, 1) := by decide +kernel
theorem dX9_quarter_98 : decode cX9_quarter 98 = .ok (.bastore, 1) := by decide +kernel
theorem dX9_quarter_99 : decode cX9_quarter 99 = .ok (.aload_n 0, 1) := by decide +kernel
theorem dX9_quarter_100 : decode cX9_quarter 100 = .ok (.getfield 36, 3) := by decide +kernel
theorem dX9_quarter_103 : decode cX9_quarter 103 = .ok (.iload_n 3, 1) := by decide +kernel
theorem dX9_quarter_104 : decode cX9_quarter 104 = .ok (.dup2, 1) := by decide +kernel
theorem dX9_quarter_105 : decode cX9_quarter 105 = .ok (.iaload, 1) := by decide +kernel
theorem dX9_quarter_106 : decode cX9_quarter 106 = .ok (.iload_n 1, 1) := by decide +kernel
theorem dX9_quarter_107 : decode cX9_quarter 107 = .ok (.iload_n 3, 1) := by decide +kernel
theorem dX9_quarter_108 : decode cX9_quarter 108 = .ok (.invokestatic 160, 3) := by decide +kernel
theorem dX9_quarter_111 : decode cX9_quarter 111 = .ok (.ifCond .eq 7, 3) := by decide +kernel
theorem dX9_quarter_114 : decode cX9_quarter 114 = .ok (.iconst 1, 1) := by decide +kernel
theorem dX9_quarter_115 : decode cX9_quarter 115 = .ok (.goto 4, 3) := by decide +kernel
theorem dX9_quarter_118 : decode cX9_quarter 118 = .ok (.iconst 0, 1) := by decide +kernel
theorem dX9_quarter_119 : decode cX9_quarter 119 = .ok (.iadd, 1) := by decide +kernel
theorem dX9_quarter_120 : decode cX9_quarter 120 = .ok (.iastore, 1) := by decide +kernel
theorem dX9_quarter_121 : decode cX9_quarter 121 = .ok (.iinc 3 1, 3) := by decide +kernel
theorem dX9_quarter_124 : decode cX9_quarter 124 = .ok (.goto (-81), 3) := by decide +kernel
theorem dX9_quarter_127 : decode cX9_quarter 127 = .ok (.aload_n 0, 1) := by decide +kernel
theorem dX9_quarter_128 : decode cX9_quarter 128 = .ok (.dup, 1) := by decide +kernel
theorem dX9_quarter_129 : decode cX9_quarter 129 = .ok (.getfield 142, 3) := by decide +kernel
theorem dX9_quarter_132 : decode cX9_quarter 132 = .ok (.iconst 1, 1) := by decide +kernel
theorem dX9_quarter_133 : decode cX9_quarter 133 = .ok (.iadd, 1) := by decide +kernel
theorem dX9_quarter_134 : decode cX9_quarter 134 = .ok (.putfield 142, 3) := by decide +kernel
theorem dX9_quarter_137 : decode cX9_quarter 137 = .ok (.aload_n 0, 1) := by decide +kernel
theorem dX9_quarter_138 : decode cX9_quarter 138 = .ok (.dup, 1) := by decide +kernel
theorem dX9_quarter_139 : decode cX9_quarter 139 = .ok (.getfield 145, 3) := by decide +kernel
theorem dX9_quarter_142 : decode cX9_quarter 142 = .ok (.iload_n 2, 1) := by decide +kernel
theorem dX9_quarter_143 : decode cX9_quarter 143 = .ok (.ifCond .ne 7, 3) := by decide +kernel
theorem dX9_quarter_146 : decode cX9_quarter 146 = .ok (.iconst 1, 1) := by decide +kernel
theorem dX9_quarter_147 : decode cX9_quarter 147 = .ok (.goto 4, 3) := by decide +kernel
theorem dX9_quarter_150 : decode cX9_quarter 150 = .ok (.iconst 0, 1) := by decide +kernel
theorem dX9_quarter_151 : decode cX9_quarter 151 = .ok (.iadd, 1) := by decide +kernel
theorem dX9_quarter_152 : decode cX9_quarter 152 = .ok (.putfield 145, 3) := by decide +kernel
theorem dX9_quarter_155 : decode cX9_quarter 155 = .ok (.iload_n 2, 1) := by decide +kernel
theorem dX9_quarter_156 : decode cX9_quarter 156 = .ok (.ireturn, 1) := by decide +kernel
theorem dX9_drum_0 : decode cX9_drum 0 = .ok (.aload_n 0, 1) := by decide +kernel
theorem dX9_drum_1 : decode cX9_drum 1 = .ok (.iconst 0, 1) := by decide +kernel
theorem dX9_drum_2 : decode cX9_drum 2 = .ok (.putfield 87, 3) := by decide +kernel
theorem dX9_drum_5 : decode cX9_drum 5 = .ok (.aload_n 0, 1) := by decide +kernel
theorem dX9_drum_6 : decode cX9_drum 6 = .ok (.invokevirtual 180, 3) := by decide +kernel
theorem dX9_drum_9 : decode cX9_drum 9 = .ok (.iconst 0, 1) := by decide +kernel
theorem dX9_drum_10 : decode cX9_drum 10 = .ok (.istore_n 1, 1) := by decide +kernel
theorem dX9_drum_11 : decode cX9_drum 11 = .ok (.iconst 0, 1) := by decide +kernel
theorem dX9_drum_12 : decode cX9_drum 12 = .ok (.istore_n 2, 1) := by decide +kernel
theorem dX9_drum_13 : decode cX9_drum 13 = .ok (.iload_n 2, 1) := by decide +kernel
theorem dX9_drum_14 : decode cX9_drum 14 = .ok (.aload_n 0, 1) := by decide +kernel
theorem dX9_drum_15 : decode cX9_drum 15 = .ok (.getfield 90, 3) := by decide +kernel
theorem dX9_drum_18 : decode cX9_drum 18 = .ok (.if_icmp .ge 58, 3) := by decide +kernel
theorem dX9_drum_21 : decode cX9_drum 21 = .ok (.aload_n 0, 1) := by decide +kernel
theorem dX9_drum_22 : decode cX9_drum 22 = .ok (.getfield 26, 3) := by decide +kernel
theorem dX9_drum_25 : decode cX9_drum 25 = .ok (.iload_n 2, 1) := by decide +kernel
theorem dX9_drum_26 : decode cX9_drum 26 = .ok (.baload, 1) := by decide +kernel
theorem dX9_drum_27 : decode cX9_drum 27 = .ok (.ifCond .eq 43, 3) := by decide +kernel
theorem dX9_drum_30 : decode cX9_drum 30 = .ok (.iinc 1 1, 3) := by decide +kernel
theorem dX9_drum_33 : decode cX9_drum 33 = .ok (.aload_n 0, 1) := by decide +kernel
theorem dX9_drum_34 : decode cX9_drum 34 = .ok (.getfield 26, 3) := by decide +kernel
theorem dX9_drum_37 : decode cX9_drum 37 = .ok (.iload_n 2, 1) := by decide +kernel
theorem dX9_drum_38 : decode cX9_drum 38 = .ok (.iconst 0, 1) := by decide +kernel
theorem dX9_drum_39 : decode cX9_drum 39 = .ok (.bastore, 1) := by decide +kernel
theorem dX9_drum_40 : decode cX9_drum 40 = .ok (.aload_n 0, 1) := by decide +kernel
theorem dX9_drum_41 : decode cX9_drum 41 = .ok (.getfield 17, 3) := by decide +kernel
theorem dX9_drum_44 : decode cX9_drum 44 = .ok (.iload_n 2, 1) := by decide +kernel
theorem dX9_drum_45 : decode cX9_drum 45 = .ok (.aload_n 0, 1) := by decide +kernel
theorem dX9_drum_46 : decode cX9_drum 46 = .ok (.getfield 17, 3) := by decide +kernel
theorem dX9_drum_49 : decode cX9_drum 49 = .ok (.iload_n 2, 1) := by decide +kernel
theorem dX9_drum_50 : decode cX9_drum 50 = .ok (.iaload, 1) := by decide +kernel
theorem dX9_drum_51 : decode cX9_drum 51 = .ok (.bipush 96, 2) := by decide +kernel
theorem dX9_drum_53 : decode cX9_drum 53 = .ok (.if_icmp .le 8, 3) := by decide +kernel
theorem dX9_drum_56 : decode cX9_drum 56 = .ok (.bipush 99, 2) := by decide +kernel
theorem dX9_drum_58 : decode cX9_drum 58 = .ok (.goto 11, 3) := by decide +kernel
theorem dX9_drum_61 : decode cX9_drum 61 = .ok (.aload_n 0, 1) := by decide +kernel
theorem dX9_drum_62 : decode cX9_drum 62 = .ok (.getfield 17, 3) := by decide +kernel
theorem dX9_drum_65 : decode cX9_drum 65 = .ok (.iload_n 2, 1) := by decide +kernel
theorem dX9_drum_66 : decode cX9_drum 66 = .ok (.iaload, 1) := by decide +kernel
theorem dX9_drum_67 : decode cX9_drum 67 = .ok (.iconst 3, 1) := by decide +kernel
theorem dX9_drum_68 : decode cX9_drum 68 = .ok (.iadd, 1) := by decide +kernel
theorem dX9_drum_69 : decode cX9_drum 69 = .ok (.iastore, 1) := by decide +kernel
theorem dX9_drum_70 : decode cX9_drum 70 = .ok (.iinc 2 1, 3) := by decide +kernel
theorem dX9_drum_73 : decode cX9_drum 73 = .ok (.goto (-60), 3) := by decide +kernel
theorem dX9_drum_76 : decode cX9_drum 76 = .ok (.iload_n 1, 1) := by decide +kernel
theorem dX9_drum_77 : decode cX9_drum 77 = .ok (.ireturn, 1) := by decide +kernel
theorem dX9_undo_0 : decode cX9_undo 0 = .ok (.aload_n 0, 1) := by decide +kernel
theorem dX9_undo_1 : decode cX9_undo 1 = .ok (.iconst 0, 1) := by decide +kernel
theorem dX9_undo_2 : decode cX9_undo 2 = .ok (.putfield 87, 3) := by decide +kernel
theorem dX9_undo_5 : decode cX9_undo 5 = .ok (.aload_n 0, 1) := by decide +kernel
theorem dX9_undo_6 : decode cX9_undo 6 = .ok (.getfield 148, 3) := by decide +kernel
theorem dX9_undo_9 : decode cX9_undo 9 = .ok (.ifCond .ne 6, 3) := by decide +kernel
theorem dX9_undo_12 : decode cX9_undo 12 = .ok (.bipush (-3), 2) := by decide +kernel
theorem dX9_undo_14 : decode cX9_undo 14 = .ok (.ireturn, 1) := by decide +kernel
theorem dX9_undo_15 : decode cX9_undo 15 = .ok (.aload_n 0, 1) := by decide +kernel
theorem dX9_undo_16 : decode cX9_undo 16 = .ok (.dup, 1) := by decide +kernel
theorem dX9_undo_17 : decode cX9_undo 17 = .ok (.getfield 148, 3) := by decide +kernel
theorem dX9_undo_20 : decode cX9_undo 20 = .ok (.iconst 1, 1) := by decide +kernel
theorem dX9_undo_21 : decode cX9_undo 21 = .ok (.isub, 1) := by decide +kernel
theorem dX9_undo_22 : decode cX9_undo 22 = .ok (.putfield 148, 3) := by decide +kernel
theorem dX9_undo_25 : decode cX9_undo 25 = .ok (.aload_n 0, 1) := by decide +kernel
theorem dX9_undo_26 : decode cX9_undo 26 = .ok (.aload_n 0, 1) := by decide +kernel
theorem dX9_undo_27 : decode cX9_undo 27 = .ok (.getfield 54, 3) := by decide +kernel
theorem dX9_undo_30 : decode cX9_undo 30 = .ok (.bipush 27, 2) := by decide +kernel
theorem dX9_undo_32 : decode cX9_undo 32 = .ok (.aload_n 0, 1) := by decide +kernel
theorem dX9_undo_33 : decode cX9_undo 33 = .ok (.getfield 148, 3) := by decide +kernel
theorem dX9_undo_36 : decode cX9_undo 36 = .ok (.imul, 1) := by decide +kernel
theorem dX9_undo_37 : decode cX9_undo 37 = .ok (.invokevirtual 186, 3) := by decide +kernel
theorem dX9_undo_40 : decode cX9_undo 40 = .ok (.aload_n 0, 1) := by decide +kernel
theorem dX9_undo_41 : decode cX9_undo 41 = .ok (.getfield 148, 3) := by decide +kernel
theorem dX9_undo_44 : decode cX9_undo 44 = .ok (.ireturn, 1) := by decide +kernel
theorem dX9_allTired_0 : decode cX9_allTired 0 = .ok (.iconst 0, 1) := by decide +kernel
theorem dX9_allTired_1 : decode cX9_allTired 1 = .ok (.istore_n 1, 1) := by decide +kernel
theorem dX9_allTired_2 : decode cX9_allTired 2 = .ok (.iconst 0, 1) := by decide +kernel
theorem dX9_allTired_3 : decode cX9_allTired 3 = .ok (.istore_n 2, 1) := by decide +kernel
theorem dX9_allTired_4 : decode cX9_allTired 4 = .ok (.iload_n 2, 1) := by decide +kernel
theorem dX9_allTired_5 : decode cX9_allTired 5 = .ok (.aload_n 0, 1) := by decide +kernel
theorem dX9_allTired_6 : decode cX9_allTired 6 = .ok (.getfield 90, 3) := by decide +kernel
theorem dX9_allTired_9 : decode cX9_allTired 9 = .ok (.if_icmp .ge 18, 3) := by decide +kernel
theorem dX9_allTired_12 : decode cX9_allTired 12 = .ok (.iload_n 1, 1) := by decide +kernel
theorem dX9_allTired_13 : decode cX9_allTired 13 = .ok (.aload_n 0, 1) := by decide +kernel
theorem dX9_allTired_14 : decode cX9_allTired 14 = .ok (.getfield 72, 3) := by decide +kernel
theorem dX9_allTired_17 : decode cX9_allTired 17 = .ok (.iload_n 2, 1) := by decide +kernel
theorem dX9_allTired_18 : decode cX9_allTired 18 = .ok (.iaload, 1) := by decide +kernel
theorem dX9_allTired_19 : decode cX9_allTired 19 = .ok (.iadd, 1) := by decide +kernel
theorem dX9_allTired_20 : decode cX9_allTired 20 = .ok (.istore_n 1, 1) := by decide +kernel
theorem dX9_allTired_21 : decode cX9_allTired 21 = .ok (.iinc 2 1, 3) := by decide +kernel
theorem dX9_allTired_24 : decode cX9_allTired 24 = .ok (.goto (-20), 3) := by decide +kernel
theorem dX9_allTired_27 : decode cX9_allTired 27 = .ok (.iload_n 1, 1) := by decide +kernel
theorem dX9_allTired_28 : decode cX9_allTired 28 = .ok (.ireturn, 1) := by decide +kernel
theorem dX9_findRota_0 : decode cX9_findRota 0 = .ok (.bipush (-9), 2) := by decide +kernel
theorem dX9_findRota_2 : decode cX9_findRota 2 = .ok (.istore_n 2, 1) := by decide +kernel
theorem dX9_findRota_3 : decode cX9_findRota 3 = .ok (.iconst 1, 1) := by decide +kernel
theorem dX9_findRota_4 : decode cX9_findRota 4 = .ok (.aload_n 0, 1) := by decide +kernel
theorem dX9_findRota_5 : decode cX9_findRota 5 = .ok (.getfield 90, 3) := by decide +kernel
theorem dX9_findRota_8 : decode cX9_findRota 8 = .ok (.iload_n 1, 1) := by decide +kernel
theorem dX9_findRota_9 : decode cX9_findRota 9 = .ok (.imul, 1) := by decide +kernel
theorem dX9_findRota_10 : decode cX9_findRota 10 = .ok (.ishl, 1) := by decide +kernel
theorem dX9_findRota_11 : decode cX9_findRota 11 = .ok (.istore_n 3, 1) := by decide +kernel
theorem dX9_findRota_12 : decode cX9_findRota 12 = .ok (.iconst 0, 1) := by decide +kernel
theorem dX9_findRota_13 : decode cX9_findRota 13 = .ok (.istore 4, 2) := by decide +kernel
theorem dX9_findRota_15 : decode cX9_findRota 15 = .ok (.iload 4, 2) := by decide +kernel
theorem dX9_findRota_17 : decode cX9_findRota 17 = .ok (.iload_n 3, 1) := by decide +kernel
theorem dX9_findRota_18 : decode cX9_findRota 18 = .ok (.if_icmp .ge 171, 3) := by decide +kernel
theorem dX9_findRota_21 : decode cX9_findRota 21 = .ok (.aload_n 0, 1) := by decide +kernel
theorem dX9_findRota_22 : decode cX9_findRota 22 = .ok (.invokevirtual 170, 3) := by decide +kernel
theorem dX9_findRota_25 : decode cX9_findRota 25 = .ok (.iconst 1, 1) := by decide +kernel
theorem dX9_findRota_26 : decode cX9_findRota 26 = .ok (.istore 5, 2) := by decide +kernel
theorem dX9_findRota_28 : decode cX9_findRota 28 = .ok (.aload_n 0, 1) := by decide +kernel
theorem dX9_findRota_29 : decode cX9_findRota 29 = .ok (.getfield 90, 3) := by decide +kernel
theorem dX9_findRota_32 : decode cX9_findRota 32 = .ok (.iload_n 1, 1) := by decide +kernel
theorem dX9_findRota_33 : decode cX9_findRota 33 = .ok (.imul, 1) := by decide +kernel
theorem dX9_findRota_34 : decode cX9_findRota 34 = .ok (.istore 6, 2) := by decide +kernel
theorem dX9_findRota_36 : decode cX9_findRota 36 = .ok (.iconst 0, 1) := by decide +kernel
theorem dX9_findRota_37 : decode cX9_findRota 37 = .ok (.istore 7, 2) := by decide +kernel
theorem dX9_findRota_39 : decode cX9_findRota 39 = .ok (.iload 7, 2) := by decide +kernel
theorem dX9_findRota_41 : decode cX9_findRota 41 = .ok (.iload_n 1, 1) := by decide +kernel
theorem dX9_findRota_42 : decode cX9_findRota 42 = .ok (.if_icmp .ge 64, 3) := by decide +kernel
theorem dX9_findRota_45 : decode cX9_findRota 45 = .ok (.iload 5, 2) := by decide +kernel
theorem dX9_findRota_47 : decode cX9_findRota 47 = .ok (.ifCond .eq 59, 3) := by decide +kernel
theorem dX9_findRota_50 : decode cX9_findRota 50 = .ok (.iload 6, 2) := by decide +kernel
theorem dX9_findRota_52 : decode cX9_findRota 52 = .ok (.aload_n 0, 1) := by decide +kernel
theorem dX9_findRota_53 : decode cX9_findRota 53 = .ok (.getfield 90, 3) := by decide +kernel
theorem dX9_findRota_56 : decode cX9_findRota 56 = .ok (.isub, 1) := by decide +kernel
theorem dX9_findRota_57 : decode cX9_findRota 57 = .ok (.istore 6, 2) := by decide +kernel
theorem dX9_findRota_59 : decode cX9_findRota 59 = .ok (.iload 4, 2) := by decide +kernel
theorem dX9_findRota_61 : decode cX9_findRota 61 = .ok (.iload 6, 2) := by decide +kernel
theorem dX9_findRota_63 : decode cX9_findRota 63 = .ok (.ishr, 1) := by decide +kernel
theorem dX9_findRota_64 : decode cX9_findRota 64 = .ok (.iconst 1, 1) := by decide +kernel
theorem dX9_findRota_65 : decode cX9_findRota 65 = .ok (.aload_n 0, 1) := by decide +kernel
theorem dX9_findRota_66 : decode cX9_findRota 66 = .ok (.getfield 90, 3) := by decide +kernel
theorem dX9_findRota_69 : decode cX9_findRota 69 = .ok (.ishl, 1) := by decide +kernel
theorem dX9_findRota_70 : decode cX9_findRota 70 = .ok (.iconst 1, 1) := by decide +kernel
theorem dX9_findRota_71 : decode cX9_findRota 71 = .ok (.isub, 1) := by decide +kernel
theorem dX9_findRota_72 : decode cX9_findRota 72 = .ok (.iand, 1) := by decide +kernel
theorem dX9_findRota_73 : decode cX9_findRota 73 = .ok (.istore 8, 2) := by decide +kernel
theorem dX9_findRota_75 : decode cX9_findRota 75 = .ok (.aload_n 0, 1) := by decide +kernel
theorem dX9_findRota_76 : decode cX9_findRota 76 = .ok (.iload 8, 2) := by decide +kernel
theorem dX9_findRota_78 : decode cX9_findRota 78 = .ok (.invokevirtual 173, 3) := by decide +kernel
theorem dX9_findRota_81 : decode cX9_findRota 81 = .ok (.ifCond .eq 16, 3) := by decide +kernel
theorem dX9_findRota_84 : decode cX9_findRota 84 = .ok (.aload_n 0, 1) := by decide +kernel
theorem dX9_findRota_85 : decode cX9_findRota 85 = .ok (.iload 8, 2) := by decide +kernel
theorem dX9_findRota_87 : decode cX9_findRota 87 = .ok (.invokevirtual 183, 3) := by decide +kernel
theorem dX9_findRota_90 : decode cX9_findRota 90 = .ok (.ifCond .eq 7, 3) := by decide +kernel
theorem dX9_findRota_93 : decode cX9_findRota 93 = .ok (.iconst 1, 1) := by decide +kernel
theorem dX9_findRota_94 : decode cX9_findRota 94 = .ok (.goto 4, 3) := by decide +kernel
theorem dX9_findRota_97 : decode cX9_findRota 97 = .ok (.iconst 0, 1) := by decide +kernel
theorem dX9_findRota_98 : decode cX9_findRota 98 = .ok (.istore 5, 2) := by decide +kernel
theorem dX9_findRota_100 : decode cX9_findRota 100 = .ok (.iinc 7 1, 3) := by decide +kernel
theorem dX9_findRota_103 : decode cX9_findRota 103 = .ok (.goto (-64), 3) := by decide +kernel
theorem dX9_findRota_106 : decode cX9_findRota 106 = .ok (.iload 5, 2) := by decide +kernel
theorem dX9_findRota_108 : decode cX9_findRota 108 = .ok (.ifCond .eq 75, 3) := by decide +kernel
theorem dX9_findRota_111 : decode cX9_findRota 111 = .ok (.iload_n 2, 1) := by decide +kernel
theorem dX9_findRota_112 : decode cX9_findRota 112 = .ok (.bipush (-9), 2) := by decide +kernel
theorem dX9_findRota_114 : decode cX9_findRota 114 = .ok (.if_icmp .eq 11, 3) := by decide +kernel
theorem dX9_findRota_117 : decode cX9_findRota 117 = .ok (.aload_n 0, 1) := by decide +kernel
theorem dX9_findRota_118 : decode cX9_findRota 118 = .ok (.invokevirtual 189, 3) := by decide +kernel
theorem dX9_findRota_121 : decode cX9_findRota 121 = .ok (.iload_n 2, 1) := by decide +kernel
theorem dX9_findRota_122 : decode cX9_findRota 122 = .ok (.if_icmp .ge 61, 3) := by decide +kernel
theorem dX9_findRota_125 : decode cX9_findRota 125 = .ok (.aload_n 0, 1) := by decide +kernel
theorem dX9_findRota_126 : decode cX9_findRota 126 = .ok (.invokevirtual 189, 3) := by decide +kernel
theorem dX9_findRota_129 : decode cX9_findRota 129 = .ok (.istore_n 2, 1) := by decide +kernel
theorem dX9_findRota_130 : decode cX9_findRota 130 = .ok (.aload_n 0, 1) := by decide +kernel
theorem dX9_findRota_131 : decode cX9_findRota 131 = .ok (.getfield 90, 3) := by decide +kernel
theorem dX9_findRota_134 : decode cX9_findRota 134 = .ok (.iload_n 1, 1) := by decide +kernel
theorem dX9_findRota_135 : decode cX9_findRota 135 = .ok (.imul, 1) := by decide +kernel
theorem dX9_findRota_136 : decode cX9_findRota 136 = .ok (.istore 6, 2) := by decide +kernel
theorem dX9_findRota_138 : decode cX9_findRota 138 = .ok (.iconst 0, 1) := by decide +kernel
theorem dX9_findRota_139 : decode cX9_findRota 139 = .ok (.istore 7, 2) := by decide +kernel
theorem dX9_findRota_141 : decode cX9_findRota 141 = .ok (.iload 7, 2) := by decide +kernel
theorem dX9_findRota_143 : decode cX9_findRota 143 = .ok (.iload_n 1, 1) := by decide +kernel
theorem dX9_findRota_144 : decode cX9_findRota 144 = .ok (.if_icmp .ge 39, 3) := by decide +kernel
theorem dX9_findRota_147 : decode cX9_findRota 147 = .ok (.iload 6, 2) := by decide +kernel
theorem dX9_findRota_149 : decode cX9_findRota 149 = .ok (.aload_n 0, 1) := by decide +kernel
theorem dX9_findRota_150 : decode cX9_findRota 150 = .ok (.getfield 90, 3) := by decide +kernel
theorem dX9_findRota_153 : decode cX9_findRota 153 = .ok (.isub, 1) := by decide +kernel
theorem dX9_findRota_154 : decode cX9_findRota 154 = .ok (.istore 6, 2) := by decide +kernel
theorem dX9_findRota_156 : decode cX9_findRota 156 = .ok (.aload_n 0, 1) := by decide +kernel
theorem dX9_findRota_157 : decode cX9_findRota 157 = .ok (.getfield 84, 3) := by decide +kernel
theorem dX9_findRota_160 : decode cX9_findRota 160 = .ok (.iload 7, 2) := by decide +kernel
theorem dX9_findRota_162 : decode cX9_findRota 162 = .ok (.iload 4, 2) := by decide +kernel
theorem dX9_findRota_164 : decode cX9_findRota 164 = .ok (.iload 6, 2) := by decide +kernel
theorem dX9_findRota_166 : decode cX9_findRota 166 = .ok (.ishr, 1) := by decide +kernel
theorem dX9_findRota_167 : decode cX9_findRota 167 = .ok (.iconst 1, 1) := by decide +kernel
theorem dX9_findRota_168 : decode cX9_findRota 168 = .ok (.aload_n 0, 1) := by decide +kernel
theorem dX9_findRota_169 : decode cX9_findRota 169 = .ok (.getfield 90, 3) := by decide +kernel
theorem dX9_findRota_172 : decode cX9_findRota 172 = .ok (.ishl, 1) := by decide +kernel
theorem dX9_findRota_173 : decode cX9_findRota 173 = .ok (.iconst 1, 1) := by decide +kernel
theorem dX9_findRota_174 : decode cX9_findRota 174 = .ok (.isub, 1) := by decide +kernel
theorem dX9_findRota_175 : decode cX9_findRota 175 = .ok (.iand, 1) := by decide +kernel
theorem dX9_findRota_176 : decode cX9_findRota 176 = .ok (.iastore, 1) := by decide +kernel
theorem dX9_findRota_177 : decode cX9_findRota 177 = .ok (.iinc 7 1, 3) := by decide +kernel
theorem dX9_findRota_180 : decode cX9_findRota 180 = .ok (.goto (-39), 3) := by decide +kernel
theorem dX9_findRota_183 : decode cX9_findRota 183 = .ok (.iinc 4 1, 3) := by decide +kernel
theorem dX9_findRota_186 : decode cX9_findRota 186 = .ok (.goto (-171), 3) := by decide +kernel
theorem dX9_findRota_189 : decode cX9_findRota 189 = .ok (.iload_n 2, 1) := by decide +kernel
theorem dX9_findRota_190 : decode cX9_findRota 190 = .ok (.ireturn, 1) := by decide +kernel
theorem dX9_noRota_0 : decode cX9_noRota 0 = .ok (.iload_n 1, 1) := by decide +kernel
theorem dX9_noRota_1 : decode cX9_noRota 1 = .ok (.i2l, 1) := by decide +kernel
theorem dX9_noRota_2 : decode cX9_noRota 2 = .ok (.lconst 1, 1) := by decide +kernel
theorem dX9_noRota_3 : decode cX9_noRota 3 = .ok (.ldc2_w 192, 3) := by decide +kernel
theorem dX9_noRota_6 : decode cX9_noRota 6 = .ok (.invokestatic 93, 3) := by decide +kernel
theorem dX9_noRota_9 : decode cX9_noRota 9 = .ok (.ifCond .ne 8, 3) := by decide +kernel
theorem dX9_noRota_12 : decode cX9_noRota 12 = .ok (.bipush (-2), 2) := by decide +kernel
theorem dX9_noRota_14 : decode cX9_noRota 14 = .ok (.goto 17, 3) := by decide +kernel
theorem dX9_noRota_17 : decode cX9_noRota 17 = .ok (.aload_n 0, 1) := by decide +kernel
theorem dX9_noRota_18 : decode cX9_noRota 18 = .ok (.getfield 90, 3) := by decide +kernel
theorem dX9_noRota_21 : decode cX9_noRota 21 = .ok (.iconst 4, 1) := by decide +kernel
theorem dX9_noRota_22 : decode cX9_noRota 22 = .ok (.if_icmp .le 8, 3) := by decide +kernel
theorem dX9_noRota_25 : decode cX9_noRota 25 = .ok (.bipush (-3), 2) := by decide +kernel
theorem dX9_noRota_27 : decode cX9_noRota 27 = .ok (.goto 4, 3) := by decide +kernel
theorem dX9_noRota_30 : decode cX9_noRota 30 = .ok (.iconst 0, 1) := by decide +kernel
theorem dX9_noRota_31 : decode cX9_noRota 31 = .ok (.ireturn, 1) := by decide +kernel
theorem dX9_rota_0 : decode cX9_rota 0 = .ok (.aload_n 0, 1) := by decide +kernel
theorem dX9_rota_1 : decode cX9_rota 1 = .ok (.iconst 0, 1) := by decide +kernel
theorem dX9_rota_2 : decode cX9_rota 2 = .ok (.putfield 87, 3) := by decide +kernel
theorem dX9_rota_5 : decode cX9_rota 5 = .ok (.aload_n 0, 1) := by decide +kernel
theorem dX9_rota_6 : decode cX9_rota 6 = .ok (.iload_n 1, 1) := by decide +kernel
theorem dX9_rota_7 : decode cX9_rota 7 = .ok (.invokevirtual 194, 3) := by decide +kernel
theorem dX9_rota_10 : decode cX9_rota 10 = .ok (.istore_n 2, 1) := by decide +kernel
theorem dX9_rota_11 : decode cX9_rota 11 = .ok (.iload_n 2, 1) := by decide +kernel
theorem dX9_rota_12 : decode cX9_rota 12 = .ok (.ifCond .eq 7, 3) := by decide +kernel
theorem dX9_rota_15 : decode cX9_rota 15 = .ok (.iload_n 2, 1) := by decide +kernel
theorem dX9_rota_16 : decode cX9_rota 16 = .ok (.goto 8, 3) := by decide +kernel
theorem dX9_rota_19 : decode cX9_rota 19 = .ok (.aload_n 0, 1) := by decide +kernel
theorem dX9_rota_20 : decode cX9_rota 20 = .ok (.iload_n 1, 1) := by decide +kernel
theorem dX9_rota_21 : decode cX9_rota 21 = .ok (.invokevirtual 197, 3) := by decide +kernel
theorem dX9_rota_24 : decode cX9_rota 24 = .ok (.ireturn, 1) := by decide +kernel
theorem dX9_rotaAt_0 : decode cX9_rotaAt 0 = .ok (.aload_n 0, 1) := by decide +kernel
theorem dX9_rotaAt_1 : decode cX9_rotaAt 1 = .ok (.iconst 0, 1) := by decide +kernel
theorem dX9_rotaAt_2 : decode cX9_rotaAt 2 = .ok (.putfield 87, 3) := by decide +kernel
theorem dX9_rotaAt_5 : decode cX9_rotaAt 5 = .ok (.aload_n 0, 1) := by decide +kernel
theorem dX9_rotaAt_6 : decode cX9_rotaAt 6 = .ok (.iload_n 1, 1) := by decide +kernel
theorem dX9_rotaAt_7 : decode cX9_rotaAt 7 = .ok (.invokevirtual 194, 3) := by decide +kernel
theorem dX9_rotaAt_10 : decode cX9_rotaAt 10 = .ok (.istore_n 3, 1) := by decide +kernel
theorem dX9_rotaAt_11 : decode cX9_rotaAt 11 = .ok (.iload_n 3, 1) := by decide +kernel
theorem dX9_rotaAt_12 : decode cX9_rotaAt 12 = .ok (.ifCond .eq 5, 3) := by decide +kernel
theorem dX9_rotaAt_15 : decode cX9_rotaAt 15 = .ok (.iload_n 3, 1) := by decide +kernel
theorem dX9_rotaAt_16 : decode cX9_rotaAt 16 = .ok (.ireturn, 1) := by decide +kernel
theorem dX9_rotaAt_17 : decode cX9_rotaAt 17 = .ok (.aload_n 0, 1) := by decide +kernel
theorem dX9_rotaAt_18 : decode cX9_rotaAt 18 = .ok (.iload_n 1, 1) := by decide +kernel
theorem dX9_rotaAt_19 : decode cX9_rotaAt 19 = .ok (.invokevirtual 197, 3) := by decide +kernel
theorem dX9_rotaAt_22 : decode cX9_rotaAt 22 = .ok (.bipush (-9), 2) := by decide +kernel
theorem dX9_rotaAt_24 : decode cX9_rotaAt 24 = .ok (.if_icmp .eq 25, 3) := by decide +kernel
theorem dX9_rotaAt_27 : decode cX9_rotaAt 27 = .ok (.iload_n 2, 1) := by decide +kernel
theorem dX9_rotaAt_28 : decode cX9_rotaAt 28 = .ok (.i2l, 1) := by decide +kernel
theorem dX9_rotaAt_29 : decode cX9_rotaAt 29 = .ok (.lconst 0, 1) := by decide +kernel
theorem dX9_rotaAt_30 : decode cX9_rotaAt 30 = .ok (.iload_n 1, 1) := by decide +kernel
theorem dX9_rotaAt_31 : decode cX9_rotaAt 31 = .ok (.iconst 1, 1) := by decide +kernel
theorem dX9_rotaAt_32 : decode cX9_rotaAt 32 = .ok (.isub, 1) := by decide +kernel
theorem dX9_rotaAt_33 : decode cX9_rotaAt 33 = .ok (.i2l, 1) := by decide +kernel
theorem dX9_rotaAt_34 : decode cX9_rotaAt 34 = .ok (.invokestatic 93, 3) := by decide +kernel
theorem dX9_rotaAt_37 : decode cX9_rotaAt 37 = .ok (.ifCond .eq 12, 3) := by decide +kernel
theorem dX9_rotaAt_40 : decode cX9_rotaAt 40 = .ok (.aload_n 0, 1) := by decide +kernel
theorem dX9_rotaAt_41 : decode cX9_rotaAt 41 = .ok (.getfield 84, 3) := by decide +kernel
theorem dX9_rotaAt_44 : decode cX9_rotaAt 44 = .ok (.iload_n 2, 1) := by decide +kernel
theorem dX9_rotaAt_45 : decode cX9_rotaAt 45 = .ok (.iaload, 1) := by decide +kernel
theorem dX9_rotaAt_46 : decode cX9_rotaAt 46 = .ok (.goto 5, 3) := by decide +kernel
theorem dX9_rotaAt_49 : decode cX9_rotaAt 49 = .ok (.bipush (-9), 2) := by decide +kernel
theorem dX9_rotaAt_51 : decode cX9_rotaAt 51 = .ok (.ireturn, 1) := by decide +kernel
theorem dX9_doAllNod_0 : decode cX9_doAllNod 0 = .ok (.iconst 1, 1) := by decide +kernel
theorem dX9_doAllNod_1 : decode cX9_doAllNod 1 = .ok (.istore_n 1, 1) := by decide +kernel
theorem dX9_doAllNod_2 : decode cX9_doAllNod 2 = .ok (.iconst 0, 1) := by decide +kernel
theorem dX9_doAllNod_3 : decode cX9_doAllNod 3 = .ok (.istore_n 2, 1) := by decide +kernel
theorem dX9_doAllNod_4 : decode cX9_doAllNod 4 = .ok (.iload_n 2, 1) := by decide +kernel
theorem dX9_doAllNod_5 : decode cX9_doAllNod 5 = .ok (.aload_n 0, 1) := by decide +kernel
theorem dX9_doAllNod_6 : decode cX9_doAllNod 6 = .ok (.getfield 90, 3) := by decide +kernel
theorem dX9_doAllNod_9 : decode cX9_doAllNod 9 = .ok (.if_icmp .ge 28, 3) := by decide +kernel
theorem dX9_doAllNod_12 : decode cX9_doAllNod 12 = .ok (.iload_n 1, 1) := by decide +kernel
theorem dX9_doAllNod_13 : decode cX9_doAllNod 13 = .ok (.ifCond .eq 16, 3) := by decide +kernel
theorem dX9_doAllNod_16 : decode cX9_doAllNod 16 = .ok (.aload_n 0, 1) := by decide +kernel
theorem dX9_doAllNod_17 : decode cX9_doAllNod 17 = .ok (.getfield 81, 3) := by decide +kernel
theorem dX9_doAllNod_20 : decode cX9_doAllNod 20 = .ok (.iload_n 2, 1) := by decide +kernel
theorem dX9_doAllNod_21 : decode cX9_doAllNod 21 = .ok (.baload, 1) := by decide +kernel
theorem dX9_doAllNod_22 : decode cX9_doAllNod 22 = .ok (.ifCond .eq 7, 3) := by decide +kernel
theorem dX9_doAllNod_25 : decode cX9_doAllNod 25 = .ok (.iconst 1, 1) := by decide +kernel
theorem dX9_doAllNod_26 : decode cX9_doAllNod 26 = .ok (.goto 4, 3) := by decide +kernel
theorem dX9_doAllNod_29 : decode cX9_doAllNod 29 = .ok (.iconst 0, 1) := by decide +kernel
theorem dX9_doAllNod_30 : decode cX9_doAllNod 30 = .ok (.istore_n 1, 1) := by decide +kernel
theorem dX9_doAllNod_31 : decode cX9_doAllNod 31 = .ok (.iinc 2 1, 3) := by decide +kernel
theorem dX9_doAllNod_34 : decode cX9_doAllNod 34 = .ok (.goto (-30), 3) := by decide +kernel
theorem dX9_doAllNod_37 : decode cX9_doAllNod 37 = .ok (.iload_n 1, 1) := by decide +kernel
theorem dX9_doAllNod_38 : decode cX9_doAllNod 38 = .ok (.ireturn, 1) := by decide +kernel
theorem dX9_allNod_0 : decode cX9_allNod 0 = .ok (.aload_n 0, 1) := by decide +kernel
theorem dX9_allNod_1 : decode cX9_allNod 1 = .ok (.iconst 0, 1) := by decide +kernel
theorem dX9_allNod_2 : decode cX9_allNod 2 = .ok (.putfield 87, 3) := by decide +kernel
theorem dX9_allNod_5 : decode cX9_allNod 5 = .ok (.aload_n 0, 1) := by decide +kernel
theorem dX9_allNod_6 : decode cX9_allNod 6 = .ok (.invokevirtual 170, 3) := by decide +kernel
theorem dX9_allNod_9 : decode cX9_allNod 9 = .ok (.iconst 0, 1) := by decide +kernel
theorem dX9_allNod_10 : decode cX9_allNod 10 = .ok (.istore_n 1, 1) := by decide +kernel
theorem dX9_allNod_11 : decode cX9_allNod 11 = .ok (.iload_n 1, 1) := by decide +kernel
theorem dX9_allNod_12 : decode cX9_allNod 12 = .ok (.bipush 100, 2) := by decide +kernel
theorem dX9_allNod_14 : decode cX9_allNod 14 = .ok (.if_icmp .ge 24, 3) := by decide +kernel
theorem dX9_allNod_17 : decode cX9_allNod 17 = .ok (.aload_n 0, 1) := by decide +kernel
theorem dX9_allNod_18 : decode cX9_allNod 18 = .ok (.invokevirtual 200, 3) := by decide +kernel
theorem dX9_allNod_21 : decode cX9_allNod 21 = .ok (.ifCond .eq 5, 3) := by decide +kernel
theorem dX9_allNod_24 : decode cX9_allNod 24 = .ok (.iload_n 1, 1) := by decide +kernel
theorem dX9_allNod_25 : decode cX9_allNod 25 = .ok (.ireturn, 1) := by decide +kernel
theorem dX9_allNod_26 : decode cX9_allNod 26 = .ok (.aload_n 0, 1) := by decide +kernel
theorem dX9_allNod_27 : decode cX9_allNod 27 = .ok (.iconst 0, 1) := by decide +kernel
theorem dX9_allNod_28 : decode cX9_allNod 28 = .ok (.invokevirtual 183, 3) := by decide +kernel
theorem dX9_allNod_31 : decode cX9_allNod 31 = .ok (.pop, 1) := by decide +kernel
theorem dX9_allNod_32 : decode cX9_allNod 32 = .ok (.iinc 1 1, 3) := by decide +kernel
theorem dX9_allNod_35 : decode cX9_allNod 35 = .ok (.goto (-24), 3) := by decide +kernel
theorem dX9_allNod_38 : decode cX9_allNod 38 = .ok (.bipush (-9), 2) := by decide +kernel
theorem dX9_allNod_40 : decode cX9_allNod 40 = .ok (.ireturn, 1) := by decide +kernel
theorem dX9_divisor_0 : decode cX9_divisor 0 = .ok (.lload_n 0, 1) := by decide +kernel
theorem dX9_divisor_1 : decode cX9_divisor 1 = .ok (.lstore 4, 2) := by decide +kernel
theorem dX9_divisor_3 : decode cX9_divisor 3 = .ok (.lload_n 2, 1) := by decide +kernel
theorem dX9_divisor_4 : decode cX9_divisor 4 = .ok (.lstore 6, 2) := by decide +kernel
theorem dX9_divisor_6 : decode cX9_divisor 6 = .ok (.lload 6, 2) := by decide +kernel
theorem dX9_divisor_8 : decode cX9_divisor 8 = .ok (.lconst 0, 1) := by decide +kernel
theorem dX9_divisor_9 : decode cX9_divisor 9 = .ok (.lcmp, 1) := by decide +kernel
theorem dX9_divisor_10 : decode cX9_divisor 10 = .ok (.ifCond .eq 21, 3) := by decide +kernel
theorem dX9_divisor_13 : decode cX9_divisor 13 = .ok (.lload 4, 2) := by decide +kernel
theorem dX9_divisor_15 : decode cX9_divisor 15 = .ok (.lload 6, 2) := by decide +kernel
theorem dX9_divisor_17 : decode cX9_divisor 17 = .ok (.lrem, 1) := by decide +kernel
theorem dX9_divisor_18 : decode cX9_divisor 18 = .ok (.lstore 8, 2) := by decide +kernel
theorem dX9_divisor_20 : decode cX9_divisor 20 = .ok (.lload 6, 2) := by decide +kernel
theorem dX9_divisor_22 : decode cX9_divisor 22 = .ok (.lstore 4, 2) := by decide +kernel
theorem dX9_divisor_24 : decode cX9_divisor 24 = .ok (.lload 8, 2) := by decide +kernel
theorem dX9_divisor_26 : decode cX9_divisor 26 = .ok (.lstore 6, 2) := by decide +kernel
theorem dX9_divisor_28 : decode cX9_divisor 28 = .ok (.goto (-22), 3) := by decide +kernel
theorem dX9_divisor_31 : decode cX9_divisor 31 = .ok (.lload 4, 2) := by decide +kernel
theorem dX9_divisor_33 : decode cX9_divisor 33 = .ok (.lreturn, 1) := by decide +kernel
theorem dX9_awakeBy_0 : decode cX9_awakeBy 0 = .ok (.aload_n 0, 1) := by decide +kernel
theorem dX9_awakeBy_1 : decode cX9_awakeBy 1 = .ok (.getfield 26, 3) := by decide +kernel
theorem dX9_awakeBy_4 : decode cX9_awakeBy 4 = .ok (.iload_n 1, 1) := by decide +kernel
theorem dX9_awakeBy_5 : decode cX9_awakeBy 5 = .ok (.baload, 1) := by decide +kernel
theorem dX9_awakeBy_6 : decode cX9_awakeBy 6 = .ok (.ifCond .eq 7, 3) := by decide +kernel
theorem dX9_awakeBy_9 : decode cX9_awakeBy 9 = .ok (.lconst 0, 1) := by decide +kernel
theorem dX9_awakeBy_10 : decode cX9_awakeBy 10 = .ok (.goto 4, 3) := by decide +kernel
theorem dX9_awakeBy_13 : decode cX9_awakeBy 13 = .ok (.lconst 1, 1) := by decide +kernel
theorem dX9_awakeBy_14 : decode cX9_awakeBy 14 = .ok (.lstore 4, 2) := by decide +kernel
theorem dX9_awakeBy_16 : decode cX9_awakeBy 16 = .ok (.aload_n 0, 1) := by decide +kernel
theorem dX9_awakeBy_17 : decode cX9_awakeBy 17 = .ok (.getfield 17, 3) := by decide +kernel
theorem dX9_awakeBy_20 : decode cX9_awakeBy 20 = .ok (.iload_n 1, 1) := by decide +kernel
theorem dX9_awakeBy_21 : decode cX9_awakeBy 21 = .ok (.iaload, 1) := by decide +kernel
theorem dX9_awakeBy_22 : decode cX9_awakeBy 22 = .ok (.istore 6, 2) := by decide +kernel
theorem dX9_awakeBy_24 : decode cX9_awakeBy 24 = .ok (.iconst 0, 1) := by decide +kernel
theorem dX9_awakeBy_25 : decode cX9_awakeBy 25 = .ok (.istore 7, 2) := by decide +kernel
theorem dX9_awakeBy_27 : decode cX9_awakeBy 27 = .ok (.iload 7, 2) := by decide +kernel
theorem dX9_awakeBy_29 : decode cX9_awakeBy 29 = .ok (.iload_n 2, 1) := by decide +kernel
theorem dX9_awakeBy_30 : decode cX9_awakeBy 30 = .ok (.if_icmp .ge 67, 3) := by decide +kernel
theorem dX9_awakeBy_33 : decode cX9_awakeBy 33 = .ok (.iload 6, 2) := by decide +kernel
theorem dX9_awakeBy_35 : decode cX9_awakeBy 35 = .ok (.bipush 97, 2) := by decide +kernel
theorem dX9_awakeBy_37 : decode cX9_awakeBy 37 = .ok (.if_icmp .le 8, 3) := by decide +kernel
theorem dX9_awakeBy_40 : decode cX9_awakeBy 40 = .ok (.bipush 99, 2) := by decide +kernel
theorem dX9_awakeBy_42 : decode cX9_awakeBy 42 = .ok (.goto 7, 3) := by decide +kernel
theorem dX9_awakeBy_45 : decode cX9_awakeBy 45 = .ok (.iload 6, 2) := by decide +kernel
theorem dX9_awakeBy_47 : decode cX9_awakeBy 47 = .ok (.iconst 2, 1) := by decide +kernel
theorem dX9_awakeBy_48 : decode cX9_awakeBy 48 = .ok (.iadd, 1) := by decide +kernel
theorem dX9_awakeBy_49 : decode cX9_awakeBy 49 = .ok (.istore 6, 2) := by decide +kernel
theorem dX9_awakeBy_51 : decode cX9_awakeBy 51 = .ok (.lload 4, 2) := by decide +kernel
theorem dX9_awakeBy_53 : decode cX9_awakeBy 53 = .ok (.iload 6, 2) := by decide +kernel
theorem dX9_awakeBy_55 : decode cX9_awakeBy 55 = .ok (.aload_n 0, 1) := by decide +kernel
theorem dX9_awakeBy_56 : decode cX9_awakeBy 56 = .ok (.getfield 13, 3) := by decide +kernel
theorem dX9_awakeBy_59 : decode cX9_awakeBy 59 = .ok (.if_icmp .lt 7, 3) := by decide +kernel
theorem dX9_awakeBy_62 : decode cX9_awakeBy 62 = .ok (.lconst 0, 1) := by decide +kernel
theorem dX9_awakeBy_63 : decode cX9_awakeBy 63 = .ok (.goto 25, 3) := by decide +kernel
theorem dX9_awakeBy_66 : decode cX9_awakeBy 66 = .ok (.iconst 2, 1) := by decide +kernel
theorem dX9_awakeBy_67 : decode cX9_awakeBy 67 = .ok (.iload 6, 2) := by decide +kernel
theorem dX9_awakeBy_69 : decode cX9_awakeBy 69 = .ok (.imul, 1) := by decide +kernel
theorem dX9_awakeBy_70 : decode cX9_awakeBy 70 = .ok (.aload_n 0, 1) := by decide +kernel
theorem dX9_awakeBy_71 : decode cX9_awakeBy 71 = .ok (.getfield 13, 3) := by decide +kernel
theorem dX9_awakeBy_74 : decode cX9_awakeBy 74 = .ok (.if_icmp .lt 11, 3) := by decide +kernel
theorem dX9_awakeBy_77 : decode cX9_awakeBy 77 = .ok (.bipush 10, 2) := by decide +kernel
theorem dX9_awakeBy_79 : decode cX9_awakeBy 79 = .ok (.iload_n 3, 1) := by decide +kernel
theorem dX9_awakeBy_80 : decode cX9_awakeBy 80 = .ok (.isub, 1) := by decide +kernel
theorem dX9_awakeBy_81 : decode cX9_awakeBy 81 = .ok (.i2l, 1) := by decide +kernel
theorem dX9_awakeBy_82 : decode cX9_awakeBy 82 = .ok (.goto 6, 3) := by decide +kernel
theorem dX9_awakeBy_85 : decode cX9_awakeBy 85 = .ok (.ldc2_w 203, 3) := by decide +kernel
theorem dX9_awakeBy_88 : decode cX9_awakeBy 88 = .ok (.lmul, 1) := by decide +kernel
theorem dX9_awakeBy_89 : decode cX9_awakeBy 89 = .ok (.lstore 4, 2) := by decide +kernel
theorem dX9_awakeBy_91 : decode cX9_awakeBy 91 = .ok (.iinc 7 1, 3) := by decide +kernel
theorem dX9_awakeBy_94 : decode cX9_awakeBy 94 = .ok (.goto (-67), 3) := by decide +kernel
theorem dX9_awakeBy_97 : decode cX9_awakeBy 97 = .ok (.lload 4, 2) := by decide +kernel
theorem dX9_awakeBy_99 : decode cX9_awakeBy 99 = .ok (.lreturn, 1) := by decide +kernel
theorem dX9_chance_0 : decode cX9_chance 0 = .ok (.aload_n 0, 1) := by decide +kernel
theorem dX9_chance_1 : decode cX9_chance 1 = .ok (.iconst 0, 1) := by decide +kernel
theorem dX9_chance_2 : decode cX9_chance 2 = .ok (.putfield 87, 3) := by decide +kernel
theorem dX9_chance_5 : decode cX9_chance 5 = .ok (.iload_n 1, 1) := by decide +kernel
theorem dX9_chance_6 : decode cX9_chance 6 = .ok (.i2l, 1) := by decide +kernel
theorem dX9_chance_7 : decode cX9_chance 7 = .ok (.lconst 1, 1) := by decide +kernel
theorem dX9_chance_8 : decode cX9_chance 8 = .ok (.ldc2_w 205, 3) := by decide +kernel
theorem dX9_chance_11 : decode cX9_chance 11 = .ok (.invokestatic 93, 3) := by decide +kernel
theorem dX9_chance_14 : decode cX9_chance 14 = .ok (.ifCond .eq 15, 3) := by decide +kernel
theorem dX9_chance_17 : decode cX9_chance 17 = .ok (.iload_n 2, 1) := by decide +kernel
theorem dX9_chance_18 : decode cX9_chance 18 = .ok (.i2l, 1) := by decide +kernel
theorem dX9_chance_19 : decode cX9_chance 19 = .ok (.lconst 0, 1) := by decide +kernel
theorem dX9_chance_20 : decode cX9_chance 20 = .ok (.ldc2_w 203, 3) := by decide +kernel
theorem dX9_chance_23 : decode cX9_chance 23 = .ok (.invokestatic 93, 3) := by decide +kernel
theorem dX9_chance_26 : decode cX9_chance 26 = .ok (.ifCond .ne 7, 3) := by decide +kernel
theorem dX9_chance_29 : decode cX9_chance 29 = .ok (.ldc2_w 207, 3) := by decide +kernel
theorem dX9_chance_32 : decode cX9_chance 32 = .ok (.lreturn, 1) := by decide +kernel
theorem dX9_chance_33 : decode cX9_chance 33 = .ok (.iload_n 1, 1) := by decide +kernel
theorem dX9_chance_34 : decode cX9_chance 34 = .ok (.iconst 1, 1) := by decide +kernel
theorem dX9_chance_35 : decode cX9_chance 35 = .ok (.if_icmp .ne 9, 3) := by decide +kernel
theorem dX9_chance_38 : decode cX9_chance 38 = .ok (.ldc2_w 203, 3) := by decide +kernel
theorem dX9_chance_41 : decode cX9_chance 41 = .ok (.goto 17, 3) := by decide +kernel
theorem dX9_chance_44 : decode cX9_chance 44 = .ok (.iload_n 1, 1) := by decide +kernel
theorem dX9_chance_45 : decode cX9_chance 45 = .ok (.iconst 2, 1) := by decide +kernel
theorem dX9_chance_46 : decode cX9_chance 46 = .ok (.if_icmp .ne 9, 3) := by decide +kernel
theorem dX9_chance_49 : decode cX9_chance 49 = .ok (.ldc2_w 209, 3) := by decide +kernel
theorem dX9_chance_52 : decode cX9_chance 52 = .ok (.goto 6, 3) := by decide +kernel
theorem dX9_chance_55 : decode cX9_chance 55 = .ok (.ldc2_w 211, 3) := by decide +kernel
theorem dX9_chance_58 : decode cX9_chance 58 = .ok (.lstore 4, 2) := by decide +kernel
theorem dX9_chance_60 : decode cX9_chance 60 = .ok (.lconst 1, 1) := by decide +kernel
theorem dX9_chance_61 : decode cX9_chance 61 = .ok (.lstore 6, 2) := by decide +kernel
theorem dX9_chance_63 : decode cX9_chance 63 = .ok (.lconst 1, 1) := by decide +kernel
theorem dX9_chance_64 : decode cX9_chance 64 = .ok (.lstore 8, 2) := by decide +kernel
theorem dX9_chance_66 : decode cX9_chance 66 = .ok (.iconst 0, 1) := by decide +kernel
theorem dX9_chance_67 : decode cX9_chance 67 = .ok (.istore 10, 2) := by decide +kernel
theorem dX9_chance_69 : decode cX9_chance 69 = .ok (.iload 10, 2) := by decide +kernel
theorem dX9_chance_71 : decode cX9_chance 71 = .ok (.aload_n 0, 1) := by decide +kernel
theorem dX9_chance_72 : decode cX9_chance 72 = .ok (.getfield 90, 3) := by decide +kernel
theorem dX9_chance_75 : decode cX9_chance 75 = .ok (.if_icmp .ge 32, 3) := by decide +kernel
theorem dX9_chance_78 : decode cX9_chance 78 = .ok (.lload 6, 2) := by decide +kernel
theorem dX9_chance_80 : decode cX9_chance 80 = .ok (.lload 4, 2) := by decide +kernel
theorem dX9_chance_82 : decode cX9_chance 82 = .ok (.aload_n 0, 1) := by decide +kernel
theorem dX9_chance_83 : decode cX9_chance 83 = .ok (.iload 10, 2) := by decide +kernel
theorem dX9_chance_85 : decode cX9_chance 85 = .ok (.iload_n 1, 1) := by decide +kernel
theorem dX9_chance_86 : decode cX9_chance 86 = .ok (.iload_n 2, 1) := by decide +kernel
theorem dX9_chance_87 : decode cX9_chance 87 = .ok (.invokevirtual 213, 3) := by decide +kernel
theorem dX9_chance_90 : decode cX9_chance 90 = .ok (.lsub, 1) := by decide +kernel
theorem dX9_chance_91 : decode cX9_chance 91 = .ok (.lmul, 1) := by decide +kernel
theorem dX9_chance_92 : decode cX9_chance 92 = .ok (.lstore 6, 2) := by decide +kernel
theorem dX9_chance_94 : decode cX9_chance 94 = .ok (.lload 8, 2) := by decide +kernel
theorem dX9_chance_96 : decode cX9_chance 96 = .ok (.lload 4, 2) := by decide +kernel
theorem dX9_chance_98 : decode cX9_chance 98 = .ok (.lmul, 1) := by decide +kernel
theorem dX9_chance_99 : decode cX9_chance 99 = .ok (.lstore 8, 2) := by decide +kernel
theorem dX9_chance_101 : decode cX9_chance 101 = .ok (.iinc 10 1, 3) := by decide +kernel
theorem dX9_chance_104 : decode cX9_chance 104 = .ok (.goto (-35), 3) := by decide +kernel
theorem dX9_chance_107 : decode cX9_chance 107 = .ok (.lload 6, 2) := by decide +kernel
theorem dX9_chance_109 : decode cX9_chance 109 = .ok (.lload 8, 2) := by decide +kernel
theorem dX9_chance_111 : decode cX9_chance 111 = .ok (.invokestatic 217, 3) := by decide +kernel
theorem dX9_chance_114 : decode cX9_chance 114 = .ok (.lstore 10, 2) := by decide +kernel
theorem dX9_chance_116 : decode cX9_chance 116 = .ok (.iload_n 3, 1) := by decide +kernel
theorem dX9_chance_117 : decode cX9_chance 117 = .ok (.ifCond .eq 11, 3) := by decide +kernel
theorem dX9_chance_120 : decode cX9_chance 120 = .ok (.lload 6, 2) := by decide +kernel
theorem dX9_chance_122 : decode cX9_chance 122 = .ok (.lload 10, 2) := by decide +kernel
theorem dX9_chance_124 : decode cX9_chance 124 = .ok (.ldiv, 1) := by decide +kernel
theorem dX9_chance_125 : decode cX9_chance 125 = .ok (.goto 8, 3) := by decide +kernel
theorem dX9_chance_128 : decode cX9_chance 128 = .ok (.lload 8, 2) := by decide +kernel
theorem dX9_chance_130 : decode cX9_chance 130 = .ok (.lload 10, 2) := by decide +kernel
theorem dX9_chance_132 : decode cX9_chance 132 = .ok (.ldiv, 1) := by decide +kernel
theorem dX9_chance_133 : decode cX9_chance 133 = .ok (.lreturn, 1) := by decide +kernel
theorem dX9_plan_0 : decode cX9_plan 0 = .ok (.aload_n 0, 1) := by decide +kernel
theorem dX9_plan_1 : decode cX9_plan 1 = .ok (.iconst 0, 1) := by decide +kernel
theorem dX9_plan_2 : decode cX9_plan 2 = .ok (.putfield 87, 3) := by decide +kernel
theorem dX9_plan_5 : decode cX9_plan 5 = .ok (.iload_n 1, 1) := by decide +kernel
theorem dX9_plan_6 : decode cX9_plan 6 = .ok (.i2l, 1) := by decide +kernel
theorem dX9_plan_7 : decode cX9_plan 7 = .ok (.lconst 0, 1) := by decide +kernel
theorem dX9_plan_8 : decode cX9_plan 8 = .ok (.ldc2_w 205, 3) := by decide +kernel
theorem dX9_plan_11 : decode cX9_plan 11 = .ok (.invokestatic 93, 3) := by decide +kernel
theorem dX9_plan_14 : decode cX9_plan 14 = .ok (.ifCond .eq 11, 3) := by decide +kernel
theorem dX9_plan_17 : decode cX9_plan 17 = .ok (.aload_n 0, 1) := by decide +kernel
theorem dX9_plan_18 : decode cX9_plan 18 = .ok (.iload_n 2, 1) := by decide +kernel
theorem dX9_plan_19 : decode cX9_plan 19 = .ok (.invokevirtual 167, 3) := by decide +kernel
theorem dX9_plan_22 : decode cX9_plan 22 = .ok (.ifCond .eq 6, 3) := by decide +kernel
theorem dX9_plan_25 : decode cX9_plan 25 = .ok (.bipush (-2), 2) := by decide +kernel
theorem dX9_plan_27 : decode cX9_plan 27 = .ok (.ireturn, 1) := by decide +kernel
theorem dX9_plan_28 : decode cX9_plan 28 = .ok (.aload_n 0, 1) := by decide +kernel
theorem dX9_plan_29 : decode cX9_plan 29 = .ok (.getfield 39, 3) := by decide +kernel
theorem dX9_plan_32 : decode cX9_plan 32 = .ok (.iload_n 1, 1) := by decide +kernel
theorem dX9_plan_33 : decode cX9_plan 33 = .ok (.iaload, 1) := by decide +kernel
theorem dX9_plan_34 : decode cX9_plan 34 = .ok (.istore_n 3, 1) := by decide +kernel
theorem dX9_plan_35 : decode cX9_plan 35 = .ok (.aload_n 0, 1) := by decide +kernel
theorem dX9_plan_36 : decode cX9_plan 36 = .ok (.getfield 39, 3) := by decide +kernel
theorem dX9_plan_39 : decode cX9_plan 39 = .ok (.iload_n 1, 1) := by decide +kernel
theorem dX9_plan_40 : decode cX9_plan 40 = .ok (.iload_n 2, 1) := by decide +kernel
theorem dX9_plan_41 : decode cX9_plan 41 = .ok (.iastore, 1) := by decide +kernel
theorem dX9_plan_42 : decode cX9_plan 42 = .ok (.iload_n 3, 1) := by decide +kernel
theorem dX9_plan_43 : decode cX9_plan 43 = .ok (.ireturn, 1) := by decide +kernel
theorem dX9_weakest_0 : decode cX9_weakest 0 = .ok (.aload_n 0, 1) := by decide +kernel
theorem dX9_weakest_1 : decode cX9_weakest 1 = .ok (.iconst 0, 1) := by decide +kernel
theorem dX9_weakest_2 : decode cX9_weakest 2 = .ok (.putfield 87, 3) := by decide +kernel
theorem dX9_weakest_5 : decode cX9_weakest 5 = .ok (.aload_n 0, 1) := by decide +kernel
theorem dX9_weakest_6 : decode cX9_weakest 6 = .ok (.invokevirtual 170, 3) := by decide +kernel
theorem dX9_weakest_9 : decode cX9_weakest 9 = .ok (.iconst 0, 1) := by decide +kernel
theorem dX9_weakest_10 : decode cX9_weakest 10 = .ok (.istore_n 1, 1) := by decide +kernel
theorem dX9_weakest_11 : decode cX9_weakest 11 = .ok (.ldc 221, 2) := by decide +kernel
theorem dX9_weakest_13 : decode cX9_weakest 13 = .ok (.istore_n 2, 1) := by decide +kernel
theorem dX9_weakest_14 : decode cX9_weakest 14 = .ok (.iconst 0, 1) := by decide +kernel
theorem dX9_weakest_15 : decode cX9_weakest 15 = .ok (.istore_n 3, 1) := by decide +kernel
theorem dX9_weakest_16 : decode cX9_weakest 16 = .ok (.iload_n 3, 1) := by decide +kernel
theorem dX9_weakest_17 : decode cX9_weakest 17 = .ok (.bipush 8, 2) := by decide +kernel
theorem dX9_weakest_19 : decode cX9_weakest 19 = .ok (.if_icmp .ge 108, 3) := by decide +kernel
theorem dX9_weakest_22 : decode cX9_weakest 22 = .ok (.aload_n 0, 1) := by decide +kernel
theorem dX9_weakest_23 : decode cX9_weakest 23 = .ok (.aload_n 0, 1) := by decide +kernel
theorem dX9_weakest_24 : decode cX9_weakest 24 = .ok (.aload_n 0, 1) := by decide +kernel
theorem dX9_weakest_25 : decode cX9_weakest 25 = .ok (.getfield 39, 3) := by decide +kernel
theorem dX9_weakest_28 : decode cX9_weakest 28 = .ok (.iload_n 3, 1) := by decide +kernel
theorem dX9_weakest_29 : decode cX9_weakest 29 = .ok (.iconst 4, 1) := by decide +kernel
theorem dX9_weakest_30 : decode cX9_weakest 30 = .ok (.irem, 1) := by decide +kernel
theorem dX9_weakest_31 : decode cX9_weakest 31 = .ok (.iaload, 1) := by decide +kernel
theorem dX9_weakest_32 : decode cX9_weakest 32 = .ok (.invokevirtual 173, 3) := by decide +kernel
theorem dX9_weakest_35 : decode cX9_weakest 35 = .ok (.ifCond .eq 14, 3) := by decide +kernel
theorem dX9_weakest_38 : decode cX9_weakest 38 = .ok (.aload_n 0, 1) := by decide +kernel
theorem dX9_weakest_39 : decode cX9_weakest 39 = .ok (.getfield 39, 3) := by decide +kernel
theorem dX9_weakest_42 : decode cX9_weakest 42 = .ok (.iload_n 3, 1) := by decide +kernel
theorem dX9_weakest_43 : decode cX9_weakest 43 = .ok (.iconst 4, 1) := by decide +kernel
theorem dX9_weakest_44 : decode cX9_weakest 44 = .ok (.irem, 1) := by decide +kernel
theorem dX9_weakest_45 : decode cX9_weakest 45 = .ok (.iaload, 1) := by decide +kernel
theorem dX9_weakest_46 : decode cX9_weakest 46 = .ok (.goto 4, 3) := by decide +kernel
theorem dX9_weakest_49 : decode cX9_weakest 49 = .ok (.iconst 0, 1) := by decide +kernel
theorem dX9_weakest_50 : decode cX9_weakest 50 = .ok (.invokevirtual 183, 3) := by decide +kernel
theorem dX9_weakest_53 : decode cX9_weakest 53 = .ok (.istore 4, 2) := by decide +kernel
theorem dX9_weakest_55 : decode cX9_weakest 55 = .ok (.iconst 0, 1) := by decide +kernel
theorem dX9_weakest_56 : decode cX9_weakest 56 = .ok (.istore 5, 2) := by decide +kernel
theorem dX9_weakest_58 : decode cX9_weakest 58 = .ok (.iconst 0, 1) := by decide +kernel
theorem dX9_weakest_59 : decode cX9_weakest 59 = .ok (.istore 6, 2) := by decide +kernel
theorem dX9_weakest_61 : decode cX9_weakest 61 = .ok (.iload 6, 2) := by decide +kernel
theorem dX9_weakest_63 : decode cX9_weakest 63 = .ok (.aload_n 0, 1) := by decide +kernel
theorem dX9_weakest_64 : decode cX9_weakest 64 = .ok (.getfield 90, 3) := by decide +kernel
theorem dX9_weakest_67 : decode cX9_weakest 67 = .ok (.if_icmp .ge 29, 3) := by decide +kernel
theorem dX9_weakest_70 : decode cX9_weakest 70 = .ok (.iload 5, 2) := by decide +kernel
theorem dX9_weakest_72 : decode cX9_weakest 72 = .ok (.iload 4, 2) := by decide +kernel
theorem dX9_weakest_74 : decode cX9_weakest 74 = .ok (.iload 6, 2) := by decide +kernel
theorem dX9_weakest_76 : decode cX9_weakest 76 = .ok (.invokestatic 160, 3) := by decide +kernel
theorem dX9_weakest_79 : decode cX9_weakest 79 = .ok (.ifCond .eq 7, 3) := by decide +kernel
theorem dX9_weakest_82 : decode cX9_weakest 82 = .ok (.iconst 1, 1) := by decide +kernel
theorem dX9_weakest_83 : decode cX9_weakest 83 = .ok (.goto 4, 3) := by decide +kernel
theorem dX9_weakest_86 : decode cX9_weakest 86 = .ok (.iconst 0, 1) := by decide +kernel
theorem dX9_weakest_87 : decode cX9_weakest 87 = .ok (.iadd, 1) := by decide +kernel
theorem dX9_weakest_88 : decode cX9_weakest 88 = .ok (.istore 5, 2) := by decide +kernel
theorem dX9_weakest_90 : decode cX9_weakest 90 = .ok (.iinc 6 1, 3) := by decide +kernel
theorem dX9_weakest_93 : decode cX9_weakest 93 = .ok (.goto (-32), 3) := by decide +kernel
theorem dX9_weakest_96 : decode cX9_weakest 96 = .ok (.iload 5, 2) := by decide +kernel
theorem dX9_weakest_98 : decode cX9_weakest 98 = .ok (.iload_n 2, 1) := by decide +kernel
theorem dX9_weakest_99 : decode cX9_weakest 99 = .ok (.if_icmp .ge 7, 3) := by decide +kernel
theorem dX9_weakest_102 : decode cX9_weakest 102 = .ok (.iload_n 3, 1) := by decide +kernel
theorem dX9_weakest_103 : decode cX9_weakest 103 = .ok (.goto 4, 3) := by decide +kernel
theorem dX9_weakest_106 : decode cX9_weakest 106 = .ok (.iload_n 1, 1) := by decide +kernel
theorem dX9_weakest_107 : decode cX9_weakest 107 = .ok (.istore_n 1, 1) := by decide +kernel
theorem dX9_weakest_108 : decode cX9_weakest 108 = .ok (.iload 5, 2) := by decide +kernel
theorem dX9_weakest_110 : decode cX9_weakest 110 = .ok (.iload_n 2, 1) := by decide +kernel
theorem dX9_weakest_111 : decode cX9_weakest 111 = .ok (.if_icmp .ge 8, 3) := by decide +kernel
theorem dX9_weakest_114 : decode cX9_weakest 114 = .ok (.iload 5, 2) := by decide +kernel
theorem dX9_weakest_116 : decode cX9_weakest 116 = .ok (.goto 4, 3) := by decide +kernel
theorem dX9_weakest_119 : decode cX9_weakest 119 = .ok (.iload_n 2, 1) := by decide +kernel
theorem dX9_weakest_120 : decode cX9_weakest 120 = .ok (.istore_n 2, 1) := by decide +kernel
theorem dX9_weakest_121 : decode cX9_weakest 121 = .ok (.iinc 3 1, 3) := by decide +kernel
theorem dX9_weakest_124 : decode cX9_weakest 124 = .ok (.goto (-108), 3) := by decide +kernel
theorem dX9_weakest_127 : decode cX9_weakest 127 = .ok (.iload_n 1, 1) := by decide +kernel
theorem dX9_weakest_128 : decode cX9_weakest 128 = .ok (.ireturn, 1) := by decide +kernel
theorem dX9_settled_0 : decode cX9_settled 0 = .ok (.aload_n 0, 1) := by decide +kernel
theorem dX9_settled_1 : decode cX9_settled 1 = .ok (.iconst 0, 1) := by decide +kernel
theorem dX9_settled_2 : decode cX9_settled 2 = .ok (.putfield 87, 3) := by decide +kernel
theorem dX9_settled_5 : decode cX9_settled 5 = .ok (.aload_n 0, 1) := by decide +kernel
theorem dX9_settled_6 : decode cX9_settled 6 = .ok (.invokevirtual 170, 3) := by decide +kernel
theorem dX9_settled_9 : decode cX9_settled 9 = .ok (.iconst 0, 1) := by decide +kernel
theorem dX9_settled_10 : decode cX9_settled 10 = .ok (.istore_n 2, 1) := by decide +kernel
theorem dX9_settled_11 : decode cX9_settled 11 = .ok (.iconst 0, 1) := by decide +kernel
theorem dX9_settled_12 : decode cX9_settled 12 = .ok (.istore_n 3, 1) := by decide +kernel
theorem dX9_settled_13 : decode cX9_settled 13 = .ok (.iload_n 3, 1) := by decide +kernel
theorem dX9_settled_14 : decode cX9_settled 14 = .ok (.aload_n 0, 1) := by decide +kernel
theorem dX9_settled_15 : decode cX9_settled 15 = .ok (.getfield 90, 3) := by decide +kernel
theorem dX9_settled_18 : decode cX9_settled 18 = .ok (.if_icmp .ge 68, 3) := by decide +kernel
theorem dX9_settled_21 : decode cX9_settled 21 = .ok (.aload_n 0, 1) := by decide +kernel
theorem dX9_settled_22 : decode cX9_settled 22 = .ok (.getfield 78, 3) := by decide +kernel
theorem dX9_settled_25 : decode cX9_settled 25 = .ok (.iload_n 3, 1) := by decide +kernel
theorem dX9_settled_26 : decode cX9_settled 26 = .ok (.iaload, 1) := by decide +kernel
theorem dX9_settled_27 : decode cX9_settled 27 = .ok (.aload_n 0, 1) := by decide +kernel
theorem dX9_settled_28 : decode cX9_settled 28 = .ok (.getfield 75, 3) := by decide +kernel
theorem dX9_settled_31 : decode cX9_settled 31 = .ok (.iload_n 3, 1) := by decide +kernel
theorem dX9_settled_32 : decode cX9_settled 32 = .ok (.iaload, 1) := by decide +kernel
theorem dX9_settled_33 : decode cX9_settled 33 = .ok (.if_icmp .ge 12, 3) := by decide +kernel
theorem dX9_settled_36 : decode cX9_settled 36 = .ok (.aload_n 0, 1) := by decide +kernel
theorem dX9_settled_37 : decode cX9_settled 37 = .ok (.getfield 78, 3) := by decide +kernel
theorem dX9_settled_40 : decode cX9_settled 40 = .ok (.iload_n 3, 1) := by decide +kernel
theorem dX9_settled_41 : decode cX9_settled 41 = .ok (.iaload, 1) := by decide +kernel
theorem dX9_settled_42 : decode cX9_settled 42 = .ok (.goto 9, 3) := by decide +kernel
theorem dX9_settled_45 : decode cX9_settled 45 = .ok (.aload_n 0, 1) := by decide +kernel
theorem dX9_settled_46 : decode cX9_settled 46 = .ok (.getfield 75, 3) := by decide +kernel
theorem dX9_settled_49 : decode cX9_settled 49 = .ok (.iload_n 3, 1) := by decide +kernel
theorem dX9_settled_50 : decode cX9_settled 50 = .ok (.iaload, 1) := by decide +kernel
theorem dX9_settled_51 : decode cX9_settled 51 = .ok (.istore 4, 2) := by decide +kernel
theorem dX9_settled_53 : decode cX9_settled 53 = .ok (.aload_n 0, 1) := by decide +kernel
theorem dX9_settled_54 : decode cX9_settled 54 = .ok (.getfield 78, 3) := by decide +kernel
theorem dX9_settled_57 : decode cX9_settled 57 = .ok (.iload_n 3, 1) := by decide +kernel
theorem dX9_settled_58 : decode cX9_settled 58 = .ok (.dup2, 1) := by decide +kernel
theorem dX9_settled_59 : decode cX9_settled 59 = .ok (.iaload, 1) := by decide +kernel
theorem dX9_settled_60 : decode cX9_settled 60 = .ok (.iload 4, 2) := by decide +kernel
theorem dX9_settled_62 : decode cX9_settled 62 = .ok (.isub, 1) := by decide +kernel
theorem dX9_settled_63 : decode cX9_settled 63 = .ok (.iastore, 1) := by decide +kernel
theorem dX9_settled_64 : decode cX9_settled 64 = .ok (.aload_n 0, 1) := by decide +kernel
theorem dX9_settled_65 : decode cX9_settled 65 = .ok (.getfield 75, 3) := by decide +kernel
theorem dX9_settled_68 : decode cX9_settled 68 = .ok (.iload_n 3, 1) := by decide +kernel
theorem dX9_settled_69 : decode cX9_settled 69 = .ok (.dup2, 1) := by decide +kernel
theorem dX9_settled_70 : decode cX9_settled 70 = .ok (.iaload, 1) := by decide +kernel
theorem dX9_settled_71 : decode cX9_settled 71 = .ok (.iload 4, 2) := by decide +kernel
theorem dX9_settled_73 : decode cX9_settled 73 = .ok (.isub, 1) := by decide +kernel
theorem dX9_settled_74 : decode cX9_settled 74 = .ok (.iastore, 1) := by decide +kernel
theorem dX9_settled_75 : decode cX9_settled 75 = .ok (.iload_n 2, 1) := by decide +kernel
theorem dX9_settled_76 : decode cX9_settled 76 = .ok (.iload 4, 2) := by decide +kernel
theorem dX9_settled_78 : decode cX9_settled 78 = .ok (.iadd, 1) := by decide +kernel
theorem dX9_settled_79 : decode cX9_settled 79 = .ok (.istore_n 2, 1) := by decide +kernel
theorem dX9_settled_80 : decode cX9_settled 80 = .ok (.iinc 3 1, 3) := by decide +kernel
theorem dX9_settled_83 : decode cX9_settled 83 = .ok (.goto (-70), 3) := by decide +kernel
theorem dX9_settled_86 : decode cX9_settled 86 = .ok (.iconst 0, 1) := by decide +kernel
theorem dX9_settled_87 : decode cX9_settled 87 = .ok (.istore_n 3, 1) := by decide +kernel
theorem dX9_settled_88 : decode cX9_settled 88 = .ok (.iconst 0, 1) := by decide +kernel
theorem dX9_settled_89 : decode cX9_settled 89 = .ok (.istore 4, 2) := by decide +kernel
theorem dX9_settled_91 : decode cX9_settled 91 = .ok (.iload 4, 2) := by decide +kernel
theorem dX9_settled_93 : decode cX9_settled 93 = .ok (.aload_n 0, 1) := by decide +kernel
theorem dX9_settled_94 : decode cX9_settled 94 = .ok (.getfield 90, 3) := by decide +kernel
theorem dX9_settled_97 : decode cX9_settled 97 = .ok (.if_icmp .ge 120, 3) := by decide +kernel
theorem dX9_settled_100 : decode cX9_settled 100 = .ok (.aload_n 0, 1) := by decide +kernel
theorem dX9_settled_101 : decode cX9_settled 101 = .ok (.getfield 33, 3) := by decide +kernel
theorem dX9_settled_104 : decode cX9_settled 104 = .ok (.iload 4, 2) := by decide +kernel
theorem dX9_settled_106 : decode cX9_settled 106 = .ok (.iaload, 1) := by decide +kernel
theorem dX9_settled_107 : decode cX9_settled 107 = .ok (.istore 5, 2) := by decide +kernel
theorem dX9_settled_109 : decode cX9_settled 109 = .ok (.iload 5, 2) := by decide +kernel
theorem dX9_settled_111 : decode cX9_settled 111 = .ok (.bipush (-9), 2) := by decide +kernel
theorem dX9_settled_113 : decode cX9_settled 113 = .ok (.if_icmp .ne 7, 3) := by decide +kernel
theorem dX9_settled_116 : decode cX9_settled 116 = .ok (.iconst 0, 1) := by decide +kernel
theorem dX9_settled_117 : decode cX9_settled 117 = .ok (.goto 37, 3) := by decide +kernel
theorem dX9_settled_120 : decode cX9_settled 120 = .ok (.aload_n 0, 1) := by decide +kernel
theorem dX9_settled_121 : decode cX9_settled 121 = .ok (.getfield 78, 3) := by decide +kernel
theorem dX9_settled_124 : decode cX9_settled 124 = .ok (.iload 4, 2) := by decide +kernel
theorem dX9_settled_126 : decode cX9_settled 126 = .ok (.iaload, 1) := by decide +kernel
theorem dX9_settled_127 : decode cX9_settled 127 = .ok (.aload_n 0, 1) := by decide +kernel
theorem dX9_settled_128 : decode cX9_settled 128 = .ok (.getfield 75, 3) := by decide +kernel
theorem dX9_settled_131 : decode cX9_settled 131 = .ok (.iload 5, 2) := by decide +kernel
theorem dX9_settled_133 : decode cX9_settled 133 = .ok (.iaload, 1) := by decide +kernel
theorem dX9_settled_134 : decode cX9_settled 134 = .ok (.if_icmp .ge 13, 3) := by decide +kernel
theorem dX9_settled_137 : decode cX9_settled 137 = .ok (.aload_n 0, 1) := by decide +kernel
theorem dX9_settled_138 : decode cX9_settled 138 = .ok (.getfield 78, 3) := by decide +kernel
theorem dX9_settled_141 : decode cX9_settled 141 = .ok (.iload 4, 2) := by decide +kernel
theorem dX9_settled_143 : decode cX9_settled 143 = .ok (.iaload, 1) := by decide +kernel
theorem dX9_settled_144 : decode cX9_settled 144 = .ok (.goto 10, 3) := by decide +kernel
theorem dX9_settled_147 : decode cX9_settled 147 = .ok (.aload_n 0, 1) := by decide +kernel
theorem dX9_settled_148 : decode cX9_settled 148 = .ok (.getfield 75, 3) := by decide +kernel
theorem dX9_settled_151 : decode cX9_settled 151 = .ok (.iload 5, 2) := by decide +kernel
theorem dX9_settled_153 : decode cX9_settled 153 = .ok (.iaload, 1) := by decide +kernel
theorem dX9_settled_154 : decode cX9_settled 154 = .ok (.istore 6, 2) := by decide +kernel
theorem dX9_settled_156 : decode cX9_settled 156 = .ok (.iload 6, 2) := by decide +kernel
theorem dX9_settled_158 : decode cX9_settled 158 = .ok (.ifCond .le 32, 3) := by decide +kernel
theorem dX9_settled_161 : decode cX9_settled 161 = .ok (.aload_n 0, 1) := by decide +kernel
theorem dX9_settled_162 : decode cX9_settled 162 = .ok (.getfield 78, 3) := by decide +kernel
theorem dX9_settled_165 : decode cX9_settled 165 = .ok (.iload 4, 2) := by decide +kernel
theorem dX9_settled_167 : decode cX9_settled 167 = .ok (.dup2, 1) := by decide +kernel
theorem dX9_settled_168 : decode cX9_settled 168 = .ok (.iaload, 1) := by decide +kernel
theorem dX9_settled_169 : decode cX9_settled 169 = .ok (.iload 6, 2) := by decide +kernel
theorem dX9_settled_171 : decode cX9_settled 171 = .ok (.isub, 1) := by decide +kernel
theorem dX9_settled_172 : decode cX9_settled 172 = .ok (.iastore, 1) := by decide +kernel
theorem dX9_settled_173 : decode cX9_settled 173 = .ok (.aload_n 0, 1) := by decide +kernel
theorem dX9_settled_174 : decode cX9_settled 174 = .ok (.getfield 75, 3) := by decide +kernel
theorem dX9_settled_177 : decode cX9_settled 177 = .ok (.iload 5, 2) := by decide +kernel
theorem dX9_settled_179 : decode cX9_settled 179 = .ok (.dup2, 1) := by decide +kernel
theorem dX9_settled_180 : decode cX9_settled 180 = .ok (.iaload, 1) := by decide +kernel
theorem dX9_settled_181 : decode cX9_settled 181 = .ok (.iload 6, 2) := by decide +kernel
theorem dX9_settled_183 : decode cX9_settled 183 = .ok (.isub, 1) := by decide +kernel
theorem dX9_settled_184 : decode cX9_settled 184 = .ok (.iastore, 1) := by decide +kernel
theorem dX9_settled_185 : decode cX9_settled 185 = .ok (.iload_n 2, 1) := by decide +kernel
theorem dX9_settled_186 : decode cX9_settled 186 = .ok (.iload 6, 2) := by decide +kernel
theorem dX9_settled_188 : decode cX9_settled 188 = .ok (.iadd, 1) := by decide +kernel
theorem dX9_settled_189 : decode cX9_settled 189 = .ok (.istore_n 2, 1) := by decide +kernel
theorem dX9_settled_190 : decode cX9_settled 190 = .ok (.iload_n 3, 1) := by decide +kernel
theorem dX9_settled_191 : decode cX9_settled 191 = .ok (.aload_n 0, 1) := by decide +kernel
theorem dX9_settled_192 : decode cX9_settled 192 = .ok (.getfield 78, 3) := by decide +kernel
theorem dX9_settled_195 : decode cX9_settled 195 = .ok (.iload 4, 2) := by decide +kernel
theorem dX9_settled_197 : decode cX9_settled 197 = .ok (.iaload, 1) := by decide +kernel
theorem dX9_settled_198 : decode cX9_settled 198 = .ok (.ifCond .le 10, 3) := by decide +kernel
theorem dX9_settled_201 : decode cX9_settled 201 = .ok (.iconst 1, 1) := by decide +kernel
theorem dX9_settled_202 : decode cX9_settled 202 = .ok (.iload 4, 2) := by decide +kernel
theorem dX9_settled_204 : decode cX9_settled 204 = .ok (.ishl, 1) := by decide +kernel
theorem dX9_settled_205 : decode cX9_settled 205 = .ok (.goto 4, 3) := by decide +kernel
theorem dX9_settled_208 : decode cX9_settled 208 = .ok (.iconst 0, 1) := by decide +kernel
theorem dX9_settled_209 : decode cX9_settled 209 = .ok (.ior, 1) := by decide +kernel
theorem dX9_settled_210 : decode cX9_settled 210 = .ok (.istore_n 3, 1) := by decide +kernel
theorem dX9_settled_211 : decode cX9_settled 211 = .ok (.iinc 4 1, 3) := by decide +kernel
theorem dX9_settled_214 : decode cX9_settled 214 = .ok (.goto (-123), 3) := by decide +kernel
theorem dX9_settled_217 : decode cX9_settled 217 = .ok (.iload_n 1, 1) := by decide +kernel
theorem dX9_settled_218 : decode cX9_settled 218 = .ok (.ifCond .eq 7, 3) := by decide +kernel
theorem dX9_settled_221 : decode cX9_settled 221 = .ok (.iload_n 3, 1) := by decide +kernel
theorem dX9_settled_222 : decode cX9_settled 222 = .ok (.goto 4, 3) := by decide +kernel
theorem dX9_settled_225 : decode cX9_settled 225 = .ok (.iload_n 2, 1) := by decide +kernel
theorem dX9_settled_226 : decode cX9_settled 226 = .ok (.ireturn, 1) := by decide +kernel
theorem dX9_use_0 : decode cX9_use 0 = .ok (.aload_n 0, 1) := by decide +kernel
theorem dX9_use_1 : decode cX9_use 1 = .ok (.iconst 0, 1) := by decide +kernel
theorem dX9_use_2 : decode cX9_use 2 = .ok (.putfield 87, 3) := by decide +kernel
theorem dX9_use_5 : decode cX9_use 5 = .ok (.aload_n 0, 1) := by decide +kernel
theorem dX9_use_6 : decode cX9_use 6 = .ok (.iload_n 2, 1) := by decide +kernel
theorem dX9_use_7 : decode cX9_use 7 = .ok (.invokevirtual 154, 3) := by decide +kernel
theorem dX9_use_10 : decode cX9_use 10 = .ok (.ifCond .eq 5, 3) := by decide +kernel
theorem dX9_use_13 : decode cX9_use 13 = .ok (.iconst (-1), 1) := by decide +kernel
theorem dX9_use_14 : decode cX9_use 14 = .ok (.ireturn, 1) := by decide +kernel
theorem dX9_use_15 : decode cX9_use 15 = .ok (.iload_n 1, 1) := by decide +kernel
theorem dX9_use_16 : decode cX9_use 16 = .ok (.i2l, 1) := by decide +kernel
theorem dX9_use_17 : decode cX9_use 17 = .ok (.lconst 0, 1) := by decide +kernel
theorem dX9_use_18 : decode cX9_use 18 = .ok (.ldc2_w 222, 3) := by decide +kernel
theorem dX9_use_21 : decode cX9_use 21 = .ok (.invokestatic 93, 3) := by decide +kernel
theorem dX9_use_24 : decode cX9_use 24 = .ok (.ifCond .eq 15, 3) := by decide +kernel
theorem dX9_use_27 : decode cX9_use 27 = .ok (.iload_n 3, 1) := by decide +kernel
theorem dX9_use_28 : decode cX9_use 28 = .ok (.i2l, 1) := by decide +kernel
theorem dX9_use_29 : decode cX9_use 29 = .ok (.lconst 0, 1) := by decide +kernel
theorem dX9_use_30 : decode cX9_use 30 = .ok (.ldc2_w 222, 3) := by decide +kernel
theorem dX9_use_33 : decode cX9_use 33 = .ok (.invokestatic 93, 3) := by decide +kernel
theorem dX9_use_36 : decode cX9_use 36 = .ok (.ifCond .ne 6, 3) := by decide +kernel
theorem dX9_use_39 : decode cX9_use 39 = .ok (.bipush (-2), 2) := by decide +kernel
theorem dX9_use_41 : decode cX9_use 41 = .ok (.ireturn, 1) := by decide +kernel
theorem dX9_use_42 : decode cX9_use 42 = .ok (.aload_n 0, 1) := by decide +kernel
theorem dX9_use_43 : decode cX9_use 43 = .ok (.getfield 151, 3) := by decide +kernel
theorem dX9_use_46 : decode cX9_use 46 = .ok (.bipush 12, 2) := by decide +kernel
theorem dX9_use_48 : decode cX9_use 48 = .ok (.if_icmp .ne 6, 3) := by decide +kernel
theorem dX9_use_51 : decode cX9_use 51 = .ok (.bipush (-4), 2) := by decide +kernel
theorem dX9_use_53 : decode cX9_use 53 = .ok (.ireturn, 1) := by decide +kernel
theorem dX9_use_54 : decode cX9_use 54 = .ok (.aload_n 0, 1) := by decide +kernel
theorem dX9_use_55 : decode cX9_use 55 = .ok (.getfield 63, 3) := by decide +kernel
theorem dX9_use_58 : decode cX9_use 58 = .ok (.aload_n 0, 1) := by decide +kernel
theorem dX9_use_59 : decode cX9_use 59 = .ok (.getfield 151, 3) := by decide +kernel
theorem dX9_use_62 : decode cX9_use 62 = .ok (.iload_n 1, 1) := by decide +kernel
theorem dX9_use_63 : decode cX9_use 63 = .ok (.iastore, 1) := by decide +kernel
theorem dX9_use_64 : decode cX9_use 64 = .ok (.aload_n 0, 1) := by decide +kernel
theorem dX9_use_65 : decode cX9_use 65 = .ok (.getfield 66, 3) := by decide +kernel
theorem dX9_use_68 : decode cX9_use 68 = .ok (.aload_n 0, 1) := by decide +kernel
theorem dX9_use_69 : decode cX9_use 69 = .ok (.getfield 151, 3) := by decide +kernel
theorem dX9_use_72 : decode cX9_use 72 = .ok (.iload_n 2, 1) := by decide +kernel
theorem dX9_use_73 : decode cX9_use 73 = .ok (.iastore, 1) := by decide +kernel
theorem dX9_use_74 : decode cX9_use 74 = .ok (.aload_n 0, 1) := by decide +kernel
theorem dX9_use_75 : decode cX9_use 75 = .ok (.getfield 69, 3) := by decide +kernel
theorem dX9_use_78 : decode cX9_use 78 = .ok (.aload_n 0, 1) := by decide +kernel
theorem dX9_use_79 : decode cX9_use 79 = .ok (.getfield 151, 3) := by decide +kernel
theorem dX9_use_82 : decode cX9_use 82 = .ok (.iload_n 3, 1) := by decide +kernel
theorem dX9_use_83 : decode cX9_use 83 = .ok (.iastore, 1) := by decide +kernel
theorem dX9_use_84 : decode cX9_use 84 = .ok (.aload_n 0, 1) := by decide +kernel
theorem dX9_use_85 : decode cX9_use 85 = .ok (.dup, 1) := by decide +kernel
theorem dX9_use_86 : decode cX9_use 86 = .ok (.getfield 151, 3) := by decide +kernel
theorem dX9_use_89 : decode cX9_use 89 = .ok (.iconst 1, 1) := by decide +kernel
theorem dX9_use_90 : decode cX9_use 90 = .ok (.iadd, 1) := by decide +kernel
theorem dX9_use_91 : decode cX9_use 91 = .ok (.putfield 151, 3) := by decide +kernel
theorem dX9_use_94 : decode cX9_use 94 = .ok (.aload_n 0, 1) := by decide +kernel
theorem dX9_use_95 : decode cX9_use 95 = .ok (.getfield 151, 3) := by decide +kernel
theorem dX9_use_98 : decode cX9_use 98 = .ok (.ireturn, 1) := by decide +kernel
theorem dX9_burn_0 : decode cX9_burn 0 = .ok (.aload_n 0, 1) := by decide +kernel
theorem dX9_burn_1 : decode cX9_burn 1 = .ok (.iconst 0, 1) := by decide +kernel
theorem dX9_burn_2 : decode cX9_burn 2 = .ok (.putfield 87, 3) := by decide +kernel
theorem dX9_burn_5 : decode cX9_burn 5 = .ok (.aload_n 0, 1) := by decide +kernel
theorem dX9_burn_6 : decode cX9_burn 6 = .ok (.getfield 151, 3) := by decide +kernel
theorem dX9_burn_9 : decode cX9_burn 9 = .ok (.istore_n 1, 1) := by decide +kernel
theorem dX9_burn_10 : decode cX9_burn 10 = .ok (.aload_n 0, 1) := by decide +kernel
theorem dX9_burn_11 : decode cX9_burn 11 = .ok (.iconst 0, 1) := by decide +kernel
theorem dX9_burn_12 : decode cX9_burn 12 = .ok (.putfield 151, 3) := by decide +kernel
theorem dX9_burn_15 : decode cX9_burn 15 = .ok (.iload_n 1, 1) := by decide +kernel
theorem dX9_burn_16 : decode cX9_burn 16 = .ok (.ireturn, 1) := by decide +kernel
theorem dX9_areTwins_0 : decode cX9_areTwins 0 = .ok (.aload_n 0, 1) := by decide +kernel
theorem dX9_areTwins_1 : decode cX9_areTwins 1 = .ok (.iload_n 1, 1) := by decide +kernel
theorem dX9_areTwins_2 : decode cX9_areTwins 2 = .ok (.invokevirtual 154, 3) := by decide +kernel
theorem dX9_areTwins_5 : decode cX9_areTwins 5 = .ok (.ifCond .ne 25, 3) := by decide +kernel
theorem dX9_areTwins_8 : decode cX9_areTwins 8 = .ok (.aload_n 0, 1) := by decide +kernel
theorem dX9_areTwins_9 : decode cX9_areTwins 9 = .ok (.iload_n 2, 1) := by decide +kernel
theorem dX9_areTwins_10 : decode cX9_areTwins 10 = .ok (.invokevirtual 154, 3) := by decide +kernel
theorem dX9_areTwins_13 : decode cX9_areTwins 13 = .ok (.ifCond .ne 17, 3) := by decide +kernel
theorem dX9_areTwins_16 : decode cX9_areTwins 16 = .ok (.aload_n 0, 1) := by decide +kernel
theorem dX9_areTwins_17 : decode cX9_areTwins 17 = .ok (.getfield 33, 3) := by decide +kernel
theorem dX9_areTwins_20 : decode cX9_areTwins 20 = .ok (.iload_n 1, 1) := by decide +kernel
theorem dX9_areTwins_21 : decode cX9_areTwins 21 = .ok (.iaload, 1) := by decide +kernel
theorem dX9_areTwins_22 : decode cX9_areTwins 22 = .ok (.iload_n 2, 1) := by decide +kernel
theorem dX9_areTwins_23 : decode cX9_areTwins 23 = .ok (.if_icmp .ne 7, 3) := by decide +kernel
theorem dX9_areTwins_26 : decode cX9_areTwins 26 = .ok (.iconst 1, 1) := by decide +kernel
theorem dX9_areTwins_27 : decode cX9_areTwins 27 = .ok (.goto 4, 3) := by decide +kernel
theorem dX9_areTwins_30 : decode cX9_areTwins 30 = .ok (.iconst 0, 1) := by decide +kernel
theorem dX9_areTwins_31 : decode cX9_areTwins 31 = .ok (.ireturn, 1) := by decide +kernel
theorem dX9_isForged_0 : decode cX9_isForged 0 = .ok (.iconst 0, 1) := by decide +kernel
theorem dX9_isForged_1 : decode cX9_isForged 1 = .ok (.istore_n 2, 1) := by decide +kernel
theorem dX9_isForged_2 : decode cX9_isForged 2 = .ok (.iconst 0, 1) := by decide +kernel
theorem dX9_isForged_3 : decode cX9_isForged 3 = .ok (.istore_n 3, 1) := by decide +kernel
theorem dX9_isForged_4 : decode cX9_isForged 4 = .ok (.iload_n 3, 1) := by decide +kernel
theorem dX9_isForged_5 : decode cX9_isForged 5 = .ok (.aload_n 0, 1) := by decide +kernel
theorem dX9_isForged_6 : decode cX9_isForged 6 = .ok (.getfield 151, 3) := by decide +kernel
theorem dX9_isForged_9 : decode cX9_isForged 9 = .ok (.if_icmp .ge 103, 3) := by decide +kernel
theorem dX9_isForged_12 : decode cX9_isForged 12 = .ok (.iconst 0, 1) := by decide +kernel
theorem dX9_isForged_13 : decode cX9_isForged 13 = .ok (.istore 4, 2) := by decide +kernel
theorem dX9_isForged_15 : decode cX9_isForged 15 = .ok (.iload 4, 2) := by decide +kernel
theorem dX9_isForged_17 : decode cX9_isForged 17 = .ok (.iload_n 3, 1) := by decide +kernel
theorem dX9_isForged_18 : decode cX9_isForged 18 = .ok (.if_icmp .ge 88, 3) := by decide +kernel
theorem dX9_isForged_21 : decode cX9_isForged 21 = .ok (.aload_n 0, 1) := by decide +kernel
theorem dX9_isForged_22 : decode cX9_isForged 22 = .ok (.getfield 63, 3) := by decide +kernel
theorem dX9_isForged_25 : decode cX9_isForged 25 = .ok (.iload_n 3, 1) := by decide +kernel
theorem dX9_isForged_26 : decode cX9_isForged 26 = .ok (.iaload, 1) := by decide +kernel
theorem dX9_isForged_27 : decode cX9_isForged 27 = .ok (.iload_n 1, 1) := by decide +kernel
theorem dX9_isForged_28 : decode cX9_isForged 28 = .ok (.if_icmp .ne 18, 3) := by decide +kernel
theorem dX9_isForged_31 : decode cX9_isForged 31 = .ok (.aload_n 0, 1) := by decide +kernel
theorem dX9_isForged_32 : decode cX9_isForged 32 = .ok (.getfield 63, 3) := by decide +kernel
theorem dX9_isForged_35 : decode cX9_isForged 35 = .ok (.iload 4, 2) := by decide +kernel
theorem dX9_isForged_37 : decode cX9_isForged 37 = .ok (.iaload, 1) := by decide +kernel
theorem dX9_isForged_38 : decode cX9_isForged 38 = .ok (.iload_n 1, 1) := by decide +kernel
theorem dX9_isForged_39 : decode cX9_isForged 39 = .ok (.if_icmp .ne 7, 3) := by decide +kernel
theorem dX9_isForged_42 : decode cX9_isForged 42 = .ok (.iconst 1, 1) := by decide +kernel
theorem dX9_isForged_43 : decode cX9_isForged 43 = .ok (.goto 4, 3) := by decide +kernel
theorem dX9_isForged_46 : decode cX9_isForged 46 = .ok (.iconst 0, 1) := by decide +kernel
theorem dX9_isForged_47 : decode cX9_isForged 47 = .ok (.istore 5, 2) := by decide +kernel
theorem dX9_isForged_49 : decode cX9_isForged 49 = .ok (.iload_n 2, 1) := by decide +kernel
theorem dX9_isForged_50 : decode cX9_isForged 50 = .ok (.ifCond .ne 44, 3) := by decide +kernel
theorem dX9_isForged_53 : decode cX9_isForged 53 = .ok (.iload 5, 2) := by decide +kernel
theorem dX9_isForged_55 : decode cX9_isForged 55 = .ok (.ifCond .eq 43, 3) := by decide +kernel
theorem dX9_isForged_58 : decode cX9_isForged 58 = .ok (.aload_n 0, 1) := by decide +kernel
theorem dX9_isForged_59 : decode cX9_isForged 59 = .ok (.getfield 69, 3) := by decide +kernel
theorem dX9_isForged_62 : decode cX9_isForged 62 = .ok (.iload_n 3, 1) := by decide +kernel
theorem dX9_isForged_63 : decode cX9_isForged 63 = .ok (.iaload, 1) := by decide +kernel
theorem dX9_isForged_64 : decode cX9_isForged 64 = .ok (.aload_n 0, 1) := by decide +kernel
theorem dX9_isForged_65 : decode cX9_isForged 65 = .ok (.getfield 69, 3) := by decide +kernel
theorem dX9_isForged_68 : decode cX9_isForged 68 = .ok (.iload 4, 2) := by decide +kernel
theorem dX9_isForged_70 : decode cX9_isForged 70 = .ok (.iaload, 1) := by decide +kernel
theorem dX9_isForged_71 : decode cX9_isForged 71 = .ok (.if_icmp .ne 23, 3) := by decide +kernel
theorem dX9_isForged_74 : decode cX9_isForged 74 = .ok (.aload_n 0, 1) := by decide +kernel
theorem dX9_isForged_75 : decode cX9_isForged 75 = .ok (.aload_n 0, 1) := by decide +kernel
theorem dX9_isForged_76 : decode cX9_isForged 76 = .ok (.getfield 66, 3) := by decide +kernel
theorem dX9_isForged_79 : decode cX9_isForged 79 = .ok (.iload_n 3, 1) := by decide +kernel
