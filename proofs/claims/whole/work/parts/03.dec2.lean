theorem dX11_next_218 : decode cX11_next 218 = .ok (.bipush 48, 2) := by decide +kernel
theorem dX11_next_220 : decode cX11_next 220 = .ok (.bipush 57, 2) := by decide +kernel
theorem dX11_next_222 : decode cX11_next 222 = .ok (.invokestatic 84, 3) := by decide +kernel
theorem dX11_next_225 : decode cX11_next 225 = .ok (.ifCond .eq 101, 3) := by decide +kernel
theorem dX11_next_228 : decode cX11_next 228 = .ok (.iconst 0, 1) := by decide +kernel
theorem dX11_next_229 : decode cX11_next 229 = .ok (.istore_n 2, 1) := by decide +kernel
theorem dX11_next_230 : decode cX11_next 230 = .ok (.aload_n 0, 1) := by decide +kernel
theorem dX11_next_231 : decode cX11_next 231 = .ok (.getfield 111, 3) := by decide +kernel
theorem dX11_next_234 : decode cX11_next 234 = .ok (.aload_n 0, 1) := by decide +kernel
theorem dX11_next_235 : decode cX11_next 235 = .ok (.getfield 73, 3) := by decide +kernel
theorem dX11_next_238 : decode cX11_next 238 = .ok (.if_icmp .ge 71, 3) := by decide +kernel
theorem dX11_next_241 : decode cX11_next 241 = .ok (.aload_n 0, 1) := by decide +kernel
theorem dX11_next_242 : decode cX11_next 242 = .ok (.getfield 25, 3) := by decide +kernel
theorem dX11_next_245 : decode cX11_next 245 = .ok (.aload_n 0, 1) := by decide +kernel
theorem dX11_next_246 : decode cX11_next 246 = .ok (.getfield 111, 3) := by decide +kernel
theorem dX11_next_249 : decode cX11_next 249 = .ok (.iaload, 1) := by decide +kernel
theorem dX11_next_250 : decode cX11_next 250 = .ok (.bipush 48, 2) := by decide +kernel
theorem dX11_next_252 : decode cX11_next 252 = .ok (.bipush 57, 2) := by decide +kernel
theorem dX11_next_254 : decode cX11_next 254 = .ok (.invokestatic 84, 3) := by decide +kernel
theorem dX11_next_257 : decode cX11_next 257 = .ok (.ifCond .eq 52, 3) := by decide +kernel
theorem dX11_next_260 : decode cX11_next 260 = .ok (.aload_n 0, 1) := by decide +kernel
theorem dX11_next_261 : decode cX11_next 261 = .ok (.iload_n 2, 1) := by decide +kernel
theorem dX11_next_262 : decode cX11_next 262 = .ok (.iconst 4, 1) := by decide +kernel
theorem dX11_next_263 : decode cX11_next 263 = .ok (.if_icmp .ge 26, 3) := by decide +kernel
theorem dX11_next_266 : decode cX11_next 266 = .ok (.bipush 10, 2) := by decide +kernel
theorem dX11_next_268 : decode cX11_next 268 = .ok (.aload_n 0, 1) := by decide +kernel
theorem dX11_next_269 : decode cX11_next 269 = .ok (.getfield 120, 3) := by decide +kernel
theorem dX11_next_272 : decode cX11_next 272 = .ok (.imul, 1) := by decide +kernel
theorem dX11_next_273 : decode cX11_next 273 = .ok (.aload_n 0, 1) := by decide +kernel
theorem dX11_next_274 : decode cX11_next 274 = .ok (.getfield 25, 3) := by decide +kernel
theorem dX11_next_277 : decode cX11_next 277 = .ok (.aload_n 0, 1) := by decide +kernel
theorem dX11_next_278 : decode cX11_next 278 = .ok (.getfield 111, 3) := by decide +kernel
theorem dX11_next_281 : decode cX11_next 281 = .ok (.iaload, 1) := by decide +kernel
theorem dX11_next_282 : decode cX11_next 282 = .ok (.iadd, 1) := by decide +kernel
theorem dX11_next_283 : decode cX11_next 283 = .ok (.bipush 48, 2) := by decide +kernel
theorem dX11_next_285 : decode cX11_next 285 = .ok (.isub, 1) := by decide +kernel
theorem dX11_next_286 : decode cX11_next 286 = .ok (.goto 4, 3) := by decide +kernel
theorem dX11_next_289 : decode cX11_next 289 = .ok (.iconst 0, 1) := by decide +kernel
theorem dX11_next_290 : decode cX11_next 290 = .ok (.putfield 120, 3) := by decide +kernel
theorem dX11_next_293 : decode cX11_next 293 = .ok (.iinc 2 1, 3) := by decide +kernel
theorem dX11_next_296 : decode cX11_next 296 = .ok (.aload_n 0, 1) := by decide +kernel
theorem dX11_next_297 : decode cX11_next 297 = .ok (.dup, 1) := by decide +kernel
theorem dX11_next_298 : decode cX11_next 298 = .ok (.getfield 111, 3) := by decide +kernel
theorem dX11_next_301 : decode cX11_next 301 = .ok (.iconst 1, 1) := by decide +kernel
theorem dX11_next_302 : decode cX11_next 302 = .ok (.iadd, 1) := by decide +kernel
theorem dX11_next_303 : decode cX11_next 303 = .ok (.putfield 111, 3) := by decide +kernel
theorem dX11_next_306 : decode cX11_next 306 = .ok (.goto (-76), 3) := by decide +kernel
theorem dX11_next_309 : decode cX11_next 309 = .ok (.aload_n 0, 1) := by decide +kernel
theorem dX11_next_310 : decode cX11_next 310 = .ok (.iload_n 2, 1) := by decide +kernel
theorem dX11_next_311 : decode cX11_next 311 = .ok (.iconst 4, 1) := by decide +kernel
theorem dX11_next_312 : decode cX11_next 312 = .ok (.if_icmp .le 7, 3) := by decide +kernel
theorem dX11_next_315 : decode cX11_next 315 = .ok (.iconst (-1), 1) := by decide +kernel
theorem dX11_next_316 : decode cX11_next 316 = .ok (.goto 4, 3) := by decide +kernel
theorem dX11_next_319 : decode cX11_next 319 = .ok (.iconst 1, 1) := by decide +kernel
theorem dX11_next_320 : decode cX11_next 320 = .ok (.putfield 117, 3) := by decide +kernel
theorem dX11_next_323 : decode cX11_next 323 = .ok (.goto 80, 3) := by decide +kernel
theorem dX11_next_326 : decode cX11_next 326 = .ok (.iload_n 1, 1) := by decide +kernel
theorem dX11_next_327 : decode cX11_next 327 = .ok (.bipush 40, 2) := by decide +kernel
theorem dX11_next_329 : decode cX11_next 329 = .ok (.if_icmp .eq 45, 3) := by decide +kernel
theorem dX11_next_332 : decode cX11_next 332 = .ok (.iload_n 1, 1) := by decide +kernel
theorem dX11_next_333 : decode cX11_next 333 = .ok (.bipush 41, 2) := by decide +kernel
theorem dX11_next_335 : decode cX11_next 335 = .ok (.if_icmp .eq 39, 3) := by decide +kernel
theorem dX11_next_338 : decode cX11_next 338 = .ok (.iload_n 1, 1) := by decide +kernel
theorem dX11_next_339 : decode cX11_next 339 = .ok (.bipush 59, 2) := by decide +kernel
theorem dX11_next_341 : decode cX11_next 341 = .ok (.if_icmp .eq 33, 3) := by decide +kernel
theorem dX11_next_344 : decode cX11_next 344 = .ok (.iload_n 1, 1) := by decide +kernel
theorem dX11_next_345 : decode cX11_next 345 = .ok (.bipush 43, 2) := by decide +kernel
theorem dX11_next_347 : decode cX11_next 347 = .ok (.if_icmp .eq 27, 3) := by decide +kernel
theorem dX11_next_350 : decode cX11_next 350 = .ok (.iload_n 1, 1) := by decide +kernel
theorem dX11_next_351 : decode cX11_next 351 = .ok (.bipush 45, 2) := by decide +kernel
theorem dX11_next_353 : decode cX11_next 353 = .ok (.if_icmp .eq 21, 3) := by decide +kernel
theorem dX11_next_356 : decode cX11_next 356 = .ok (.iload_n 1, 1) := by decide +kernel
theorem dX11_next_357 : decode cX11_next 357 = .ok (.bipush 42, 2) := by decide +kernel
theorem dX11_next_359 : decode cX11_next 359 = .ok (.if_icmp .eq 15, 3) := by decide +kernel
theorem dX11_next_362 : decode cX11_next 362 = .ok (.iload_n 1, 1) := by decide +kernel
theorem dX11_next_363 : decode cX11_next 363 = .ok (.bipush 60, 2) := by decide +kernel
theorem dX11_next_365 : decode cX11_next 365 = .ok (.if_icmp .eq 9, 3) := by decide +kernel
theorem dX11_next_368 : decode cX11_next 368 = .ok (.iload_n 1, 1) := by decide +kernel
theorem dX11_next_369 : decode cX11_next 369 = .ok (.bipush 61, 2) := by decide +kernel
theorem dX11_next_371 : decode cX11_next 371 = .ok (.if_icmp .ne 7, 3) := by decide +kernel
theorem dX11_next_374 : decode cX11_next 374 = .ok (.iconst 1, 1) := by decide +kernel
theorem dX11_next_375 : decode cX11_next 375 = .ok (.goto 4, 3) := by decide +kernel
theorem dX11_next_378 : decode cX11_next 378 = .ok (.iconst 0, 1) := by decide +kernel
theorem dX11_next_379 : decode cX11_next 379 = .ok (.istore_n 2, 1) := by decide +kernel
theorem dX11_next_380 : decode cX11_next 380 = .ok (.aload_n 0, 1) := by decide +kernel
theorem dX11_next_381 : decode cX11_next 381 = .ok (.iload_n 2, 1) := by decide +kernel
theorem dX11_next_382 : decode cX11_next 382 = .ok (.ifCond .eq 7, 3) := by decide +kernel
theorem dX11_next_385 : decode cX11_next 385 = .ok (.iload_n 1, 1) := by decide +kernel
theorem dX11_next_386 : decode cX11_next 386 = .ok (.goto 4, 3) := by decide +kernel
theorem dX11_next_389 : decode cX11_next 389 = .ok (.iconst (-1), 1) := by decide +kernel
theorem dX11_next_390 : decode cX11_next 390 = .ok (.putfield 117, 3) := by decide +kernel
theorem dX11_next_393 : decode cX11_next 393 = .ok (.aload_n 0, 1) := by decide +kernel
theorem dX11_next_394 : decode cX11_next 394 = .ok (.dup, 1) := by decide +kernel
theorem dX11_next_395 : decode cX11_next 395 = .ok (.getfield 111, 3) := by decide +kernel
theorem dX11_next_398 : decode cX11_next 398 = .ok (.iconst 1, 1) := by decide +kernel
theorem dX11_next_399 : decode cX11_next 399 = .ok (.iadd, 1) := by decide +kernel
theorem dX11_next_400 : decode cX11_next 400 = .ok (.putfield 111, 3) := by decide +kernel
theorem dX11_next_403 : decode cX11_next 403 = .ok (.return_, 1) := by decide +kernel
theorem dX11_rank_0 : decode cX11_rank 0 = .ok (.iload_n 0, 1) := by decide +kernel
theorem dX11_rank_1 : decode cX11_rank 1 = .ok (.ifCond .ne 7, 3) := by decide +kernel
theorem dX11_rank_4 : decode cX11_rank 4 = .ok (.iconst 0, 1) := by decide +kernel
theorem dX11_rank_5 : decode cX11_rank 5 = .ok (.goto 66, 3) := by decide +kernel
theorem dX11_rank_8 : decode cX11_rank 8 = .ok (.iload_n 0, 1) := by decide +kernel
theorem dX11_rank_9 : decode cX11_rank 9 = .ok (.bipush 11, 2) := by decide +kernel
theorem dX11_rank_11 : decode cX11_rank 11 = .ok (.if_icmp .ne 7, 3) := by decide +kernel
theorem dX11_rank_14 : decode cX11_rank 14 = .ok (.iconst 1, 1) := by decide +kernel
theorem dX11_rank_15 : decode cX11_rank 15 = .ok (.goto 56, 3) := by decide +kernel
theorem dX11_rank_18 : decode cX11_rank 18 = .ok (.iload_n 0, 1) := by decide +kernel
theorem dX11_rank_19 : decode cX11_rank 19 = .ok (.bipush 12, 2) := by decide +kernel
theorem dX11_rank_21 : decode cX11_rank 21 = .ok (.if_icmp .ne 7, 3) := by decide +kernel
theorem dX11_rank_24 : decode cX11_rank 24 = .ok (.iconst 2, 1) := by decide +kernel
theorem dX11_rank_25 : decode cX11_rank 25 = .ok (.goto 46, 3) := by decide +kernel
theorem dX11_rank_28 : decode cX11_rank 28 = .ok (.iload_n 0, 1) := by decide +kernel
theorem dX11_rank_29 : decode cX11_rank 29 = .ok (.bipush 13, 2) := by decide +kernel
theorem dX11_rank_31 : decode cX11_rank 31 = .ok (.if_icmp .ne 7, 3) := by decide +kernel
theorem dX11_rank_34 : decode cX11_rank 34 = .ok (.iconst 3, 1) := by decide +kernel
theorem dX11_rank_35 : decode cX11_rank 35 = .ok (.goto 36, 3) := by decide +kernel
theorem dX11_rank_38 : decode cX11_rank 38 = .ok (.iload_n 0, 1) := by decide +kernel
theorem dX11_rank_39 : decode cX11_rank 39 = .ok (.bipush 15, 2) := by decide +kernel
theorem dX11_rank_41 : decode cX11_rank 41 = .ok (.if_icmp .gt 7, 3) := by decide +kernel
theorem dX11_rank_44 : decode cX11_rank 44 = .ok (.iconst 4, 1) := by decide +kernel
theorem dX11_rank_45 : decode cX11_rank 45 = .ok (.goto 26, 3) := by decide +kernel
theorem dX11_rank_48 : decode cX11_rank 48 = .ok (.iload_n 0, 1) := by decide +kernel
theorem dX11_rank_49 : decode cX11_rank 49 = .ok (.bipush 17, 2) := by decide +kernel
theorem dX11_rank_51 : decode cX11_rank 51 = .ok (.if_icmp .gt 7, 3) := by decide +kernel
theorem dX11_rank_54 : decode cX11_rank 54 = .ok (.iconst 5, 1) := by decide +kernel
theorem dX11_rank_55 : decode cX11_rank 55 = .ok (.goto 16, 3) := by decide +kernel
theorem dX11_rank_58 : decode cX11_rank 58 = .ok (.iload_n 0, 1) := by decide +kernel
theorem dX11_rank_59 : decode cX11_rank 59 = .ok (.bipush 18, 2) := by decide +kernel
theorem dX11_rank_61 : decode cX11_rank 61 = .ok (.if_icmp .ne 8, 3) := by decide +kernel
theorem dX11_rank_64 : decode cX11_rank 64 = .ok (.bipush 6, 2) := by decide +kernel
theorem dX11_rank_66 : decode cX11_rank 66 = .ok (.goto 5, 3) := by decide +kernel
theorem dX11_rank_69 : decode cX11_rank 69 = .ok (.bipush 7, 2) := by decide +kernel
theorem dX11_rank_71 : decode cX11_rank 71 = .ok (.ireturn, 1) := by decide +kernel
theorem dX11_puts_0 : decode cX11_puts 0 = .ok (.aload_n 0, 1) := by decide +kernel
theorem dX11_puts_1 : decode cX11_puts 1 = .ok (.getfield 28, 3) := by decide +kernel
theorem dX11_puts_4 : decode cX11_puts 4 = .ok (.sipush 200, 3) := by decide +kernel
theorem dX11_puts_7 : decode cX11_puts 7 = .ok (.aload_n 0, 1) := by decide +kernel
theorem dX11_puts_8 : decode cX11_puts 8 = .ok (.getfield 98, 3) := by decide +kernel
theorem dX11_puts_11 : decode cX11_puts 11 = .ok (.imul, 1) := by decide +kernel
theorem dX11_puts_12 : decode cX11_puts 12 = .ok (.aload_n 0, 1) := by decide +kernel
theorem dX11_puts_13 : decode cX11_puts 13 = .ok (.getfield 126, 3) := by decide +kernel
theorem dX11_puts_16 : decode cX11_puts 16 = .ok (.iadd, 1) := by decide +kernel
theorem dX11_puts_17 : decode cX11_puts 17 = .ok (.iload_n 1, 1) := by decide +kernel
theorem dX11_puts_18 : decode cX11_puts 18 = .ok (.iastore, 1) := by decide +kernel
theorem dX11_puts_19 : decode cX11_puts 19 = .ok (.aload_n 0, 1) := by decide +kernel
theorem dX11_puts_20 : decode cX11_puts 20 = .ok (.dup, 1) := by decide +kernel
theorem dX11_puts_21 : decode cX11_puts 21 = .ok (.getfield 126, 3) := by decide +kernel
theorem dX11_puts_24 : decode cX11_puts 24 = .ok (.iconst 1, 1) := by decide +kernel
theorem dX11_puts_25 : decode cX11_puts 25 = .ok (.iadd, 1) := by decide +kernel
theorem dX11_puts_26 : decode cX11_puts 26 = .ok (.putfield 126, 3) := by decide +kernel
theorem dX11_puts_29 : decode cX11_puts 29 = .ok (.return_, 1) := by decide +kernel
theorem dX11_unwinds_0 : decode cX11_unwinds 0 = .ok (.aload_n 0, 1) := by decide +kernel
theorem dX11_unwinds_1 : decode cX11_unwinds 1 = .ok (.getfield 129, 3) := by decide +kernel
theorem dX11_unwinds_4 : decode cX11_unwinds 4 = .ok (.ifCond .le 75, 3) := by decide +kernel
theorem dX11_unwinds_7 : decode cX11_unwinds 7 = .ok (.aload_n 0, 1) := by decide +kernel
theorem dX11_unwinds_8 : decode cX11_unwinds 8 = .ok (.getfield 55, 3) := by decide +kernel
theorem dX11_unwinds_11 : decode cX11_unwinds 11 = .ok (.aload_n 0, 1) := by decide +kernel
theorem dX11_unwinds_12 : decode cX11_unwinds 12 = .ok (.getfield 129, 3) := by decide +kernel
theorem dX11_unwinds_15 : decode cX11_unwinds 15 = .ok (.iconst 1, 1) := by decide +kernel
theorem dX11_unwinds_16 : decode cX11_unwinds 16 = .ok (.isub, 1) := by decide +kernel
theorem dX11_unwinds_17 : decode cX11_unwinds 17 = .ok (.iaload, 1) := by decide +kernel
theorem dX11_unwinds_18 : decode cX11_unwinds 18 = .ok (.invokestatic 132, 3) := by decide +kernel
theorem dX11_unwinds_21 : decode cX11_unwinds 21 = .ok (.iload_n 1, 1) := by decide +kernel
theorem dX11_unwinds_22 : decode cX11_unwinds 22 = .ok (.if_icmp .lt 57, 3) := by decide +kernel
theorem dX11_unwinds_25 : decode cX11_unwinds 25 = .ok (.aload_n 0, 1) := by decide +kernel
theorem dX11_unwinds_26 : decode cX11_unwinds 26 = .ok (.dup, 1) := by decide +kernel
theorem dX11_unwinds_27 : decode cX11_unwinds 27 = .ok (.getfield 129, 3) := by decide +kernel
theorem dX11_unwinds_30 : decode cX11_unwinds 30 = .ok (.iconst 1, 1) := by decide +kernel
theorem dX11_unwinds_31 : decode cX11_unwinds 31 = .ok (.isub, 1) := by decide +kernel
theorem dX11_unwinds_32 : decode cX11_unwinds 32 = .ok (.putfield 129, 3) := by decide +kernel
theorem dX11_unwinds_35 : decode cX11_unwinds 35 = .ok (.aload_n 0, 1) := by decide +kernel
theorem dX11_unwinds_36 : decode cX11_unwinds 36 = .ok (.getfield 55, 3) := by decide +kernel
theorem dX11_unwinds_39 : decode cX11_unwinds 39 = .ok (.aload_n 0, 1) := by decide +kernel
theorem dX11_unwinds_40 : decode cX11_unwinds 40 = .ok (.getfield 129, 3) := by decide +kernel
theorem dX11_unwinds_43 : decode cX11_unwinds 43 = .ok (.iaload, 1) := by decide +kernel
theorem dX11_unwinds_44 : decode cX11_unwinds 44 = .ok (.istore_n 2, 1) := by decide +kernel
theorem dX11_unwinds_45 : decode cX11_unwinds 45 = .ok (.aload_n 0, 1) := by decide +kernel
theorem dX11_unwinds_46 : decode cX11_unwinds 46 = .ok (.dup, 1) := by decide +kernel
theorem dX11_unwinds_47 : decode cX11_unwinds 47 = .ok (.getfield 136, 3) := by decide +kernel
theorem dX11_unwinds_50 : decode cX11_unwinds 50 = .ok (.iload_n 2, 1) := by decide +kernel
theorem dX11_unwinds_51 : decode cX11_unwinds 51 = .ok (.bipush 13, 2) := by decide +kernel
theorem dX11_unwinds_53 : decode cX11_unwinds 53 = .ok (.if_icmp .eq 9, 3) := by decide +kernel
theorem dX11_unwinds_56 : decode cX11_unwinds 56 = .ok (.iload_n 2, 1) := by decide +kernel
theorem dX11_unwinds_57 : decode cX11_unwinds 57 = .ok (.bipush 19, 2) := by decide +kernel
theorem dX11_unwinds_59 : decode cX11_unwinds 59 = .ok (.if_icmp .ne 7, 3) := by decide +kernel
theorem dX11_unwinds_62 : decode cX11_unwinds 62 = .ok (.iconst 1, 1) := by decide +kernel
theorem dX11_unwinds_63 : decode cX11_unwinds 63 = .ok (.goto 4, 3) := by decide +kernel
theorem dX11_unwinds_66 : decode cX11_unwinds 66 = .ok (.iconst 0, 1) := by decide +kernel
theorem dX11_unwinds_67 : decode cX11_unwinds 67 = .ok (.isub, 1) := by decide +kernel
theorem dX11_unwinds_68 : decode cX11_unwinds 68 = .ok (.putfield 136, 3) := by decide +kernel
theorem dX11_unwinds_71 : decode cX11_unwinds 71 = .ok (.aload_n 0, 1) := by decide +kernel
theorem dX11_unwinds_72 : decode cX11_unwinds 72 = .ok (.iload_n 2, 1) := by decide +kernel
theorem dX11_unwinds_73 : decode cX11_unwinds 73 = .ok (.invokevirtual 139, 3) := by decide +kernel
theorem dX11_unwinds_76 : decode cX11_unwinds 76 = .ok (.goto (-76), 3) := by decide +kernel
theorem dX11_unwinds_79 : decode cX11_unwinds 79 = .ok (.return_, 1) := by decide +kernel
theorem dX11_holdsText_0 : decode cX11_holdsText 0 = .ok (.aload_n 0, 1) := by decide +kernel
theorem dX11_holdsText_1 : decode cX11_holdsText 1 = .ok (.getfield 55, 3) := by decide +kernel
theorem dX11_holdsText_4 : decode cX11_holdsText 4 = .ok (.aload_n 0, 1) := by decide +kernel
theorem dX11_holdsText_5 : decode cX11_holdsText 5 = .ok (.getfield 129, 3) := by decide +kernel
theorem dX11_holdsText_8 : decode cX11_holdsText 8 = .ok (.iload_n 1, 1) := by decide +kernel
theorem dX11_holdsText_9 : decode cX11_holdsText 9 = .ok (.iastore, 1) := by decide +kernel
theorem dX11_holdsText_10 : decode cX11_holdsText 10 = .ok (.aload_n 0, 1) := by decide +kernel
theorem dX11_holdsText_11 : decode cX11_holdsText 11 = .ok (.dup, 1) := by decide +kernel
theorem dX11_holdsText_12 : decode cX11_holdsText 12 = .ok (.getfield 129, 3) := by decide +kernel
theorem dX11_holdsText_15 : decode cX11_holdsText 15 = .ok (.iconst 1, 1) := by decide +kernel
theorem dX11_holdsText_16 : decode cX11_holdsText 16 = .ok (.iadd, 1) := by decide +kernel
theorem dX11_holdsText_17 : decode cX11_holdsText 17 = .ok (.putfield 129, 3) := by decide +kernel
theorem dX11_holdsText_20 : decode cX11_holdsText 20 = .ok (.return_, 1) := by decide +kernel
theorem dX11_opensOne_0 : decode cX11_opensOne 0 = .ok (.aload_n 0, 1) := by decide +kernel
theorem dX11_opensOne_1 : decode cX11_opensOne 1 = .ok (.getfield 136, 3) := by decide +kernel
theorem dX11_opensOne_4 : decode cX11_opensOne 4 = .ok (.iconst 5, 1) := by decide +kernel
theorem dX11_opensOne_5 : decode cX11_opensOne 5 = .ok (.if_icmp .ne 5, 3) := by decide +kernel
theorem dX11_opensOne_8 : decode cX11_opensOne 8 = .ok (.iconst 0, 1) := by decide +kernel
theorem dX11_opensOne_9 : decode cX11_opensOne 9 = .ok (.ireturn, 1) := by decide +kernel
theorem dX11_opensOne_10 : decode cX11_opensOne 10 = .ok (.aload_n 0, 1) := by decide +kernel
theorem dX11_opensOne_11 : decode cX11_opensOne 11 = .ok (.dup, 1) := by decide +kernel
theorem dX11_opensOne_12 : decode cX11_opensOne 12 = .ok (.getfield 136, 3) := by decide +kernel
theorem dX11_opensOne_15 : decode cX11_opensOne 15 = .ok (.iconst 1, 1) := by decide +kernel
theorem dX11_opensOne_16 : decode cX11_opensOne 16 = .ok (.iadd, 1) := by decide +kernel
theorem dX11_opensOne_17 : decode cX11_opensOne 17 = .ok (.putfield 136, 3) := by decide +kernel
theorem dX11_opensOne_20 : decode cX11_opensOne 20 = .ok (.aload_n 0, 1) := by decide +kernel
theorem dX11_opensOne_21 : decode cX11_opensOne 21 = .ok (.iload_n 1, 1) := by decide +kernel
theorem dX11_opensOne_22 : decode cX11_opensOne 22 = .ok (.invokevirtual 143, 3) := by decide +kernel
theorem dX11_opensOne_25 : decode cX11_opensOne 25 = .ok (.iconst 1, 1) := by decide +kernel
theorem dX11_opensOne_26 : decode cX11_opensOne 26 = .ok (.ireturn, 1) := by decide +kernel
theorem dX11_between_0 : decode cX11_between 0 = .ok (.aload_n 0, 1) := by decide +kernel
theorem dX11_between_1 : decode cX11_between 1 = .ok (.iload_n 1, 1) := by decide +kernel
theorem dX11_between_2 : decode cX11_between 2 = .ok (.invokestatic 132, 3) := by decide +kernel
theorem dX11_between_5 : decode cX11_between 5 = .ok (.iconst 4, 1) := by decide +kernel
theorem dX11_between_6 : decode cX11_between 6 = .ok (.if_icmp .ne 7, 3) := by decide +kernel
theorem dX11_between_9 : decode cX11_between 9 = .ok (.iconst 5, 1) := by decide +kernel
theorem dX11_between_10 : decode cX11_between 10 = .ok (.goto 7, 3) := by decide +kernel
theorem dX11_between_13 : decode cX11_between 13 = .ok (.iload_n 1, 1) := by decide +kernel
theorem dX11_between_14 : decode cX11_between 14 = .ok (.invokestatic 132, 3) := by decide +kernel
theorem dX11_between_17 : decode cX11_between 17 = .ok (.invokevirtual 146, 3) := by decide +kernel
theorem dX11_between_20 : decode cX11_between 20 = .ok (.iload_n 1, 1) := by decide +kernel
theorem dX11_between_21 : decode cX11_between 21 = .ok (.invokestatic 132, 3) := by decide +kernel
theorem dX11_between_24 : decode cX11_between 24 = .ok (.iconst 4, 1) := by decide +kernel
theorem dX11_between_25 : decode cX11_between 25 = .ok (.if_icmp .ne 30, 3) := by decide +kernel
theorem dX11_between_28 : decode cX11_between 28 = .ok (.aload_n 0, 1) := by decide +kernel
theorem dX11_between_29 : decode cX11_between 29 = .ok (.getfield 129, 3) := by decide +kernel
theorem dX11_between_32 : decode cX11_between 32 = .ok (.ifCond .le 23, 3) := by decide +kernel
theorem dX11_between_35 : decode cX11_between 35 = .ok (.aload_n 0, 1) := by decide +kernel
theorem dX11_between_36 : decode cX11_between 36 = .ok (.getfield 55, 3) := by decide +kernel
theorem dX11_between_39 : decode cX11_between 39 = .ok (.aload_n 0, 1) := by decide +kernel
theorem dX11_between_40 : decode cX11_between 40 = .ok (.getfield 129, 3) := by decide +kernel
theorem dX11_between_43 : decode cX11_between 43 = .ok (.iconst 1, 1) := by decide +kernel
theorem dX11_between_44 : decode cX11_between 44 = .ok (.isub, 1) := by decide +kernel
theorem dX11_between_45 : decode cX11_between 45 = .ok (.iaload, 1) := by decide +kernel
theorem dX11_between_46 : decode cX11_between 46 = .ok (.invokestatic 132, 3) := by decide +kernel
theorem dX11_between_49 : decode cX11_between 49 = .ok (.iconst 4, 1) := by decide +kernel
theorem dX11_between_50 : decode cX11_between 50 = .ok (.if_icmp .ne 5, 3) := by decide +kernel
theorem dX11_between_53 : decode cX11_between 53 = .ok (.iconst 0, 1) := by decide +kernel
theorem dX11_between_54 : decode cX11_between 54 = .ok (.ireturn, 1) := by decide +kernel
theorem dX11_between_55 : decode cX11_between 55 = .ok (.aload_n 0, 1) := by decide +kernel
theorem dX11_between_56 : decode cX11_between 56 = .ok (.iload_n 1, 1) := by decide +kernel
theorem dX11_between_57 : decode cX11_between 57 = .ok (.invokevirtual 143, 3) := by decide +kernel
theorem dX11_between_60 : decode cX11_between 60 = .ok (.iconst 1, 1) := by decide +kernel
theorem dX11_between_61 : decode cX11_between 61 = .ok (.ireturn, 1) := by decide +kernel
theorem dX11_signOf_0 : decode cX11_signOf 0 = .ok (.aload_n 0, 1) := by decide +kernel
theorem dX11_signOf_1 : decode cX11_signOf 1 = .ok (.getfield 117, 3) := by decide +kernel
theorem dX11_signOf_4 : decode cX11_signOf 4 = .ok (.iconst 4, 1) := by decide +kernel
theorem dX11_signOf_5 : decode cX11_signOf 5 = .ok (.if_icmp .ne 8, 3) := by decide +kernel
theorem dX11_signOf_8 : decode cX11_signOf 8 = .ok (.bipush 11, 2) := by decide +kernel
theorem dX11_signOf_10 : decode cX11_signOf 10 = .ok (.goto 87, 3) := by decide +kernel
theorem dX11_signOf_13 : decode cX11_signOf 13 = .ok (.aload_n 0, 1) := by decide +kernel
theorem dX11_signOf_14 : decode cX11_signOf 14 = .ok (.getfield 117, 3) := by decide +kernel
theorem dX11_signOf_17 : decode cX11_signOf 17 = .ok (.iconst 5, 1) := by decide +kernel
theorem dX11_signOf_18 : decode cX11_signOf 18 = .ok (.if_icmp .ne 8, 3) := by decide +kernel
theorem dX11_signOf_21 : decode cX11_signOf 21 = .ok (.bipush 12, 2) := by decide +kernel
theorem dX11_signOf_23 : decode cX11_signOf 23 = .ok (.goto 74, 3) := by decide +kernel
theorem dX11_signOf_26 : decode cX11_signOf 26 = .ok (.aload_n 0, 1) := by decide +kernel
theorem dX11_signOf_27 : decode cX11_signOf 27 = .ok (.getfield 117, 3) := by decide +kernel
theorem dX11_signOf_30 : decode cX11_signOf 30 = .ok (.bipush 60, 2) := by decide +kernel
theorem dX11_signOf_32 : decode cX11_signOf 32 = .ok (.if_icmp .ne 8, 3) := by decide +kernel
theorem dX11_signOf_35 : decode cX11_signOf 35 = .ok (.bipush 14, 2) := by decide +kernel
theorem dX11_signOf_37 : decode cX11_signOf 37 = .ok (.goto 60, 3) := by decide +kernel
theorem dX11_signOf_40 : decode cX11_signOf 40 = .ok (.aload_n 0, 1) := by decide +kernel
theorem dX11_signOf_41 : decode cX11_signOf 41 = .ok (.getfield 117, 3) := by decide +kernel
theorem dX11_signOf_44 : decode cX11_signOf 44 = .ok (.bipush 61, 2) := by decide +kernel
theorem dX11_signOf_46 : decode cX11_signOf 46 = .ok (.if_icmp .ne 8, 3) := by decide +kernel
theorem dX11_signOf_49 : decode cX11_signOf 49 = .ok (.bipush 15, 2) := by decide +kernel
theorem dX11_signOf_51 : decode cX11_signOf 51 = .ok (.goto 46, 3) := by decide +kernel
theorem dX11_signOf_54 : decode cX11_signOf 54 = .ok (.aload_n 0, 1) := by decide +kernel
theorem dX11_signOf_55 : decode cX11_signOf 55 = .ok (.getfield 117, 3) := by decide +kernel
theorem dX11_signOf_58 : decode cX11_signOf 58 = .ok (.bipush 43, 2) := by decide +kernel
theorem dX11_signOf_60 : decode cX11_signOf 60 = .ok (.if_icmp .ne 8, 3) := by decide +kernel
theorem dX11_signOf_63 : decode cX11_signOf 63 = .ok (.bipush 16, 2) := by decide +kernel
theorem dX11_signOf_65 : decode cX11_signOf 65 = .ok (.goto 32, 3) := by decide +kernel
theorem dX11_signOf_68 : decode cX11_signOf 68 = .ok (.aload_n 0, 1) := by decide +kernel
theorem dX11_signOf_69 : decode cX11_signOf 69 = .ok (.getfield 117, 3) := by decide +kernel
theorem dX11_signOf_72 : decode cX11_signOf 72 = .ok (.bipush 45, 2) := by decide +kernel
theorem dX11_signOf_74 : decode cX11_signOf 74 = .ok (.if_icmp .ne 8, 3) := by decide +kernel
theorem dX11_signOf_77 : decode cX11_signOf 77 = .ok (.bipush 17, 2) := by decide +kernel
theorem dX11_signOf_79 : decode cX11_signOf 79 = .ok (.goto 18, 3) := by decide +kernel
theorem dX11_signOf_82 : decode cX11_signOf 82 = .ok (.aload_n 0, 1) := by decide +kernel
theorem dX11_signOf_83 : decode cX11_signOf 83 = .ok (.getfield 117, 3) := by decide +kernel
theorem dX11_signOf_86 : decode cX11_signOf 86 = .ok (.bipush 42, 2) := by decide +kernel
theorem dX11_signOf_88 : decode cX11_signOf 88 = .ok (.if_icmp .ne 8, 3) := by decide +kernel
theorem dX11_signOf_91 : decode cX11_signOf 91 = .ok (.bipush 18, 2) := by decide +kernel
theorem dX11_signOf_93 : decode cX11_signOf 93 = .ok (.goto 4, 3) := by decide +kernel
theorem dX11_signOf_96 : decode cX11_signOf 96 = .ok (.iconst (-1), 1) := by decide +kernel
theorem dX11_signOf_97 : decode cX11_signOf 97 = .ok (.ireturn, 1) := by decide +kernel
theorem dX11_eRead_0 : decode cX11_eRead 0 = .ok (.aload_n 0, 1) := by decide +kernel
theorem dX11_eRead_1 : decode cX11_eRead 1 = .ok (.iconst 0, 1) := by decide +kernel
theorem dX11_eRead_2 : decode cX11_eRead 2 = .ok (.putfield 129, 3) := by decide +kernel
theorem dX11_eRead_5 : decode cX11_eRead 5 = .ok (.aload_n 0, 1) := by decide +kernel
theorem dX11_eRead_6 : decode cX11_eRead 6 = .ok (.iconst 0, 1) := by decide +kernel
theorem dX11_eRead_7 : decode cX11_eRead 7 = .ok (.putfield 136, 3) := by decide +kernel
theorem dX11_eRead_10 : decode cX11_eRead 10 = .ok (.iconst 1, 1) := by decide +kernel
theorem dX11_eRead_11 : decode cX11_eRead 11 = .ok (.istore_n 1, 1) := by decide +kernel
theorem dX11_eRead_12 : decode cX11_eRead 12 = .ok (.iconst 1, 1) := by decide +kernel
theorem dX11_eRead_13 : decode cX11_eRead 13 = .ok (.istore_n 2, 1) := by decide +kernel
theorem dX11_eRead_14 : decode cX11_eRead 14 = .ok (.aload_n 0, 1) := by decide +kernel
theorem dX11_eRead_15 : decode cX11_eRead 15 = .ok (.invokevirtual 149, 3) := by decide +kernel
theorem dX11_eRead_18 : decode cX11_eRead 18 = .ok (.iload_n 1, 1) := by decide +kernel
theorem dX11_eRead_19 : decode cX11_eRead 19 = .ok (.ifCond .eq 131, 3) := by decide +kernel
theorem dX11_eRead_22 : decode cX11_eRead 22 = .ok (.aload_n 0, 1) := by decide +kernel
theorem dX11_eRead_23 : decode cX11_eRead 23 = .ok (.getfield 117, 3) := by decide +kernel
theorem dX11_eRead_26 : decode cX11_eRead 26 = .ok (.iconst 1, 1) := by decide +kernel
theorem dX11_eRead_27 : decode cX11_eRead 27 = .ok (.if_icmp .eq 11, 3) := by decide +kernel
theorem dX11_eRead_30 : decode cX11_eRead 30 = .ok (.aload_n 0, 1) := by decide +kernel
theorem dX11_eRead_31 : decode cX11_eRead 31 = .ok (.getfield 117, 3) := by decide +kernel
theorem dX11_eRead_34 : decode cX11_eRead 34 = .ok (.iconst 2, 1) := by decide +kernel
theorem dX11_eRead_35 : decode cX11_eRead 35 = .ok (.if_icmp .ne 40, 3) := by decide +kernel
theorem dX11_eRead_38 : decode cX11_eRead 38 = .ok (.aload_n 0, 1) := by decide +kernel
theorem dX11_eRead_39 : decode cX11_eRead 39 = .ok (.aload_n 0, 1) := by decide +kernel
theorem dX11_eRead_40 : decode cX11_eRead 40 = .ok (.getfield 117, 3) := by decide +kernel
theorem dX11_eRead_43 : decode cX11_eRead 43 = .ok (.iconst 1, 1) := by decide +kernel
theorem dX11_eRead_44 : decode cX11_eRead 44 = .ok (.if_icmp .ne 13, 3) := by decide +kernel
theorem dX11_eRead_47 : decode cX11_eRead 47 = .ok (.ldc 152, 2) := by decide +kernel
theorem dX11_eRead_49 : decode cX11_eRead 49 = .ok (.aload_n 0, 1) := by decide +kernel
theorem dX11_eRead_50 : decode cX11_eRead 50 = .ok (.getfield 120, 3) := by decide +kernel
theorem dX11_eRead_53 : decode cX11_eRead 53 = .ok (.iadd, 1) := by decide +kernel
theorem dX11_eRead_54 : decode cX11_eRead 54 = .ok (.goto 7, 3) := by decide +kernel
theorem dX11_eRead_57 : decode cX11_eRead 57 = .ok (.aload_n 0, 1) := by decide +kernel
theorem dX11_eRead_58 : decode cX11_eRead 58 = .ok (.getfield 120, 3) := by decide +kernel
theorem dX11_eRead_61 : decode cX11_eRead 61 = .ok (.invokevirtual 139, 3) := by decide +kernel
theorem dX11_eRead_64 : decode cX11_eRead 64 = .ok (.aload_n 0, 1) := by decide +kernel
theorem dX11_eRead_65 : decode cX11_eRead 65 = .ok (.bipush 7, 2) := by decide +kernel
theorem dX11_eRead_67 : decode cX11_eRead 67 = .ok (.invokevirtual 146, 3) := by decide +kernel
theorem dX11_eRead_70 : decode cX11_eRead 70 = .ok (.iconst 0, 1) := by decide +kernel
theorem dX11_eRead_71 : decode cX11_eRead 71 = .ok (.istore_n 1, 1) := by decide +kernel
theorem dX11_eRead_72 : decode cX11_eRead 72 = .ok (.goto (-58), 3) := by decide +kernel
theorem dX11_eRead_75 : decode cX11_eRead 75 = .ok (.aload_n 0, 1) := by decide +kernel
theorem dX11_eRead_76 : decode cX11_eRead 76 = .ok (.getfield 117, 3) := by decide +kernel
theorem dX11_eRead_79 : decode cX11_eRead 79 = .ok (.bipush 6, 2) := by decide +kernel
theorem dX11_eRead_81 : decode cX11_eRead 81 = .ok (.if_icmp .ne 18, 3) := by decide +kernel
theorem dX11_eRead_84 : decode cX11_eRead 84 = .ok (.iload_n 2, 1) := by decide +kernel
theorem dX11_eRead_85 : decode cX11_eRead 85 = .ok (.ifCond .eq 14, 3) := by decide +kernel
theorem dX11_eRead_88 : decode cX11_eRead 88 = .ok (.aload_n 0, 1) := by decide +kernel
theorem dX11_eRead_89 : decode cX11_eRead 89 = .ok (.bipush 13, 2) := by decide +kernel
theorem dX11_eRead_91 : decode cX11_eRead 91 = .ok (.invokevirtual 153, 3) := by decide +kernel
theorem dX11_eRead_94 : decode cX11_eRead 94 = .ok (.ifCond .ne (-80), 3) := by decide +kernel
theorem dX11_eRead_97 : decode cX11_eRead 97 = .ok (.iconst 0, 1) := by decide +kernel
theorem dX11_eRead_98 : decode cX11_eRead 98 = .ok (.ireturn, 1) := by decide +kernel
theorem dX11_eRead_99 : decode cX11_eRead 99 = .ok (.aload_n 0, 1) := by decide +kernel
theorem dX11_eRead_100 : decode cX11_eRead 100 = .ok (.getfield 117, 3) := by decide +kernel
theorem dX11_eRead_103 : decode cX11_eRead 103 = .ok (.bipush 45, 2) := by decide +kernel
theorem dX11_eRead_105 : decode cX11_eRead 105 = .ok (.if_icmp .ne 19, 3) := by decide +kernel
theorem dX11_eRead_108 : decode cX11_eRead 108 = .ok (.aload_n 0, 1) := by decide +kernel
theorem dX11_eRead_109 : decode cX11_eRead 109 = .ok (.bipush 19, 2) := by decide +kernel
theorem dX11_eRead_111 : decode cX11_eRead 111 = .ok (.invokevirtual 153, 3) := by decide +kernel
theorem dX11_eRead_114 : decode cX11_eRead 114 = .ok (.ifCond .ne 5, 3) := by decide +kernel
theorem dX11_eRead_117 : decode cX11_eRead 117 = .ok (.iconst 0, 1) := by decide +kernel
theorem dX11_eRead_118 : decode cX11_eRead 118 = .ok (.ireturn, 1) := by decide +kernel
theorem dX11_eRead_119 : decode cX11_eRead 119 = .ok (.iconst 0, 1) := by decide +kernel
theorem dX11_eRead_120 : decode cX11_eRead 120 = .ok (.istore_n 2, 1) := by decide +kernel
theorem dX11_eRead_121 : decode cX11_eRead 121 = .ok (.goto (-107), 3) := by decide +kernel
theorem dX11_eRead_124 : decode cX11_eRead 124 = .ok (.aload_n 0, 1) := by decide +kernel
theorem dX11_eRead_125 : decode cX11_eRead 125 = .ok (.getfield 117, 3) := by decide +kernel
theorem dX11_eRead_128 : decode cX11_eRead 128 = .ok (.bipush 40, 2) := by decide +kernel
theorem dX11_eRead_130 : decode cX11_eRead 130 = .ok (.if_icmp .ne 18, 3) := by decide +kernel
theorem dX11_eRead_133 : decode cX11_eRead 133 = .ok (.aload_n 0, 1) := by decide +kernel
theorem dX11_eRead_134 : decode cX11_eRead 134 = .ok (.iconst 0, 1) := by decide +kernel
theorem dX11_eRead_135 : decode cX11_eRead 135 = .ok (.invokevirtual 153, 3) := by decide +kernel
theorem dX11_eRead_138 : decode cX11_eRead 138 = .ok (.ifCond .ne 5, 3) := by decide +kernel
theorem dX11_eRead_141 : decode cX11_eRead 141 = .ok (.iconst 0, 1) := by decide +kernel
theorem dX11_eRead_142 : decode cX11_eRead 142 = .ok (.ireturn, 1) := by decide +kernel
theorem dX11_eRead_143 : decode cX11_eRead 143 = .ok (.iconst 1, 1) := by decide +kernel
theorem dX11_eRead_144 : decode cX11_eRead 144 = .ok (.istore_n 2, 1) := by decide +kernel
theorem dX11_eRead_145 : decode cX11_eRead 145 = .ok (.goto (-131), 3) := by decide +kernel
theorem dX11_eRead_148 : decode cX11_eRead 148 = .ok (.iconst 0, 1) := by decide +kernel
theorem dX11_eRead_149 : decode cX11_eRead 149 = .ok (.ireturn, 1) := by decide +kernel
theorem dX11_eRead_150 : decode cX11_eRead 150 = .ok (.aload_n 0, 1) := by decide +kernel
theorem dX11_eRead_151 : decode cX11_eRead 151 = .ok (.getfield 117, 3) := by decide +kernel
theorem dX11_eRead_154 : decode cX11_eRead 154 = .ok (.bipush 59, 2) := by decide +kernel
theorem dX11_eRead_156 : decode cX11_eRead 156 = .ok (.if_icmp .ne 21, 3) := by decide +kernel
theorem dX11_eRead_159 : decode cX11_eRead 159 = .ok (.aload_n 0, 1) := by decide +kernel
theorem dX11_eRead_160 : decode cX11_eRead 160 = .ok (.iconst 1, 1) := by decide +kernel
theorem dX11_eRead_161 : decode cX11_eRead 161 = .ok (.invokevirtual 146, 3) := by decide +kernel
theorem dX11_eRead_164 : decode cX11_eRead 164 = .ok (.aload_n 0, 1) := by decide +kernel
theorem dX11_eRead_165 : decode cX11_eRead 165 = .ok (.getfield 129, 3) := by decide +kernel
theorem dX11_eRead_168 : decode cX11_eRead 168 = .ok (.ifCond .ne 7, 3) := by decide +kernel
theorem dX11_eRead_171 : decode cX11_eRead 171 = .ok (.iconst 1, 1) := by decide +kernel
theorem dX11_eRead_172 : decode cX11_eRead 172 = .ok (.goto 4, 3) := by decide +kernel
theorem dX11_eRead_175 : decode cX11_eRead 175 = .ok (.iconst 0, 1) := by decide +kernel
theorem dX11_eRead_176 : decode cX11_eRead 176 = .ok (.ireturn, 1) := by decide +kernel
theorem dX11_eRead_177 : decode cX11_eRead 177 = .ok (.aload_n 0, 1) := by decide +kernel
theorem dX11_eRead_178 : decode cX11_eRead 178 = .ok (.getfield 117, 3) := by decide +kernel
theorem dX11_eRead_181 : decode cX11_eRead 181 = .ok (.bipush 41, 2) := by decide +kernel
theorem dX11_eRead_183 : decode cX11_eRead 183 = .ok (.if_icmp .ne 46, 3) := by decide +kernel
theorem dX11_eRead_186 : decode cX11_eRead 186 = .ok (.aload_n 0, 1) := by decide +kernel
theorem dX11_eRead_187 : decode cX11_eRead 187 = .ok (.iconst 1, 1) := by decide +kernel
theorem dX11_eRead_188 : decode cX11_eRead 188 = .ok (.invokevirtual 146, 3) := by decide +kernel
theorem dX11_eRead_191 : decode cX11_eRead 191 = .ok (.aload_n 0, 1) := by decide +kernel
theorem dX11_eRead_192 : decode cX11_eRead 192 = .ok (.getfield 129, 3) := by decide +kernel
theorem dX11_eRead_195 : decode cX11_eRead 195 = .ok (.ifCond .ne 5, 3) := by decide +kernel
theorem dX11_eRead_198 : decode cX11_eRead 198 = .ok (.iconst 0, 1) := by decide +kernel
theorem dX11_eRead_199 : decode cX11_eRead 199 = .ok (.ireturn, 1) := by decide +kernel
theorem dX11_eRead_200 : decode cX11_eRead 200 = .ok (.aload_n 0, 1) := by decide +kernel
theorem dX11_eRead_201 : decode cX11_eRead 201 = .ok (.dup, 1) := by decide +kernel
theorem dX11_eRead_202 : decode cX11_eRead 202 = .ok (.getfield 129, 3) := by decide +kernel
theorem dX11_eRead_205 : decode cX11_eRead 205 = .ok (.iconst 1, 1) := by decide +kernel
theorem dX11_eRead_206 : decode cX11_eRead 206 = .ok (.isub, 1) := by decide +kernel
theorem dX11_eRead_207 : decode cX11_eRead 207 = .ok (.putfield 129, 3) := by decide +kernel
theorem dX11_eRead_210 : decode cX11_eRead 210 = .ok (.aload_n 0, 1) := by decide +kernel
theorem dX11_eRead_211 : decode cX11_eRead 211 = .ok (.dup, 1) := by decide +kernel
theorem dX11_eRead_212 : decode cX11_eRead 212 = .ok (.getfield 136, 3) := by decide +kernel
theorem dX11_eRead_215 : decode cX11_eRead 215 = .ok (.iconst 1, 1) := by decide +kernel
theorem dX11_eRead_216 : decode cX11_eRead 216 = .ok (.isub, 1) := by decide +kernel
theorem dX11_eRead_217 : decode cX11_eRead 217 = .ok (.putfield 136, 3) := by decide +kernel
theorem dX11_eRead_220 : decode cX11_eRead 220 = .ok (.aload_n 0, 1) := by decide +kernel
theorem dX11_eRead_221 : decode cX11_eRead 221 = .ok (.bipush 7, 2) := by decide +kernel
theorem dX11_eRead_223 : decode cX11_eRead 223 = .ok (.invokevirtual 146, 3) := by decide +kernel
theorem dX11_eRead_226 : decode cX11_eRead 226 = .ok (.goto (-212), 3) := by decide +kernel
theorem dX11_eRead_229 : decode cX11_eRead 229 = .ok (.aload_n 0, 1) := by decide +kernel
theorem dX11_eRead_230 : decode cX11_eRead 230 = .ok (.invokevirtual 156, 3) := by decide +kernel
theorem dX11_eRead_233 : decode cX11_eRead 233 = .ok (.istore_n 3, 1) := by decide +kernel
theorem dX11_eRead_234 : decode cX11_eRead 234 = .ok (.iload_n 3, 1) := by decide +kernel
theorem dX11_eRead_235 : decode cX11_eRead 235 = .ok (.iconst (-1), 1) := by decide +kernel
theorem dX11_eRead_236 : decode cX11_eRead 236 = .ok (.if_icmp .eq 11, 3) := by decide +kernel
theorem dX11_eRead_239 : decode cX11_eRead 239 = .ok (.aload_n 0, 1) := by decide +kernel
theorem dX11_eRead_240 : decode cX11_eRead 240 = .ok (.iload_n 3, 1) := by decide +kernel
theorem dX11_eRead_241 : decode cX11_eRead 241 = .ok (.invokevirtual 159, 3) := by decide +kernel
theorem dX11_eRead_244 : decode cX11_eRead 244 = .ok (.ifCond .ne 5, 3) := by decide +kernel
theorem dX11_eRead_247 : decode cX11_eRead 247 = .ok (.iconst 0, 1) := by decide +kernel
theorem dX11_eRead_248 : decode cX11_eRead 248 = .ok (.ireturn, 1) := by decide +kernel
theorem dX11_eRead_249 : decode cX11_eRead 249 = .ok (.iconst 1, 1) := by decide +kernel
theorem dX11_eRead_250 : decode cX11_eRead 250 = .ok (.istore_n 1, 1) := by decide +kernel
theorem dX11_eRead_251 : decode cX11_eRead 251 = .ok (.iload_n 3, 1) := by decide +kernel
theorem dX11_eRead_252 : decode cX11_eRead 252 = .ok (.bipush 12, 2) := by decide +kernel
theorem dX11_eRead_254 : decode cX11_eRead 254 = .ok (.if_icmp .gt 7, 3) := by decide +kernel
theorem dX11_eRead_257 : decode cX11_eRead 257 = .ok (.iconst 1, 1) := by decide +kernel
theorem dX11_eRead_258 : decode cX11_eRead 258 = .ok (.goto 4, 3) := by decide +kernel
theorem dX11_eRead_261 : decode cX11_eRead 261 = .ok (.iconst 0, 1) := by decide +kernel
theorem dX11_eRead_262 : decode cX11_eRead 262 = .ok (.istore_n 2, 1) := by decide +kernel
theorem dX11_eRead_263 : decode cX11_eRead 263 = .ok (.goto (-249), 3) := by decide +kernel
theorem dX11_text_0 : decode cX11_text 0 = .ok (.aload_n 0, 1) := by decide +kernel
theorem dX11_text_1 : decode cX11_text 1 = .ok (.getfield 98, 3) := by decide +kernel
theorem dX11_text_4 : decode cX11_text 4 = .ok (.bipush 6, 2) := by decide +kernel
theorem dX11_text_6 : decode cX11_text 6 = .ok (.if_icmp .ne 6, 3) := by decide +kernel
theorem dX11_text_9 : decode cX11_text 9 = .ok (.bipush (-4), 2) := by decide +kernel
theorem dX11_text_11 : decode cX11_text 11 = .ok (.ireturn, 1) := by decide +kernel
theorem dX11_text_12 : decode cX11_text 12 = .ok (.aload_n 0, 1) := by decide +kernel
theorem dX11_text_13 : decode cX11_text 13 = .ok (.iconst 0, 1) := by decide +kernel
theorem dX11_text_14 : decode cX11_text 14 = .ok (.putfield 111, 3) := by decide +kernel
theorem dX11_text_17 : decode cX11_text 17 = .ok (.aload_n 0, 1) := by decide +kernel
theorem dX11_text_18 : decode cX11_text 18 = .ok (.iconst 0, 1) := by decide +kernel
theorem dX11_text_19 : decode cX11_text 19 = .ok (.putfield 126, 3) := by decide +kernel
theorem dX11_text_22 : decode cX11_text 22 = .ok (.iconst 1, 1) := by decide +kernel
theorem dX11_text_23 : decode cX11_text 23 = .ok (.istore_n 1, 1) := by decide +kernel
theorem dX11_text_24 : decode cX11_text 24 = .ok (.iconst 0, 1) := by decide +kernel
theorem dX11_text_25 : decode cX11_text 25 = .ok (.istore_n 2, 1) := by decide +kernel
theorem dX11_text_26 : decode cX11_text 26 = .ok (.iload_n 2, 1) := by decide +kernel
theorem dX11_text_27 : decode cX11_text 27 = .ok (.iconst 3, 1) := by decide +kernel
theorem dX11_text_28 : decode cX11_text 28 = .ok (.if_icmp .ge 73, 3) := by decide +kernel
theorem dX11_text_31 : decode cX11_text 31 = .ok (.iload_n 1, 1) := by decide +kernel
theorem dX11_text_32 : decode cX11_text 32 = .ok (.ifCond .eq 69, 3) := by decide +kernel
theorem dX11_text_35 : decode cX11_text 35 = .ok (.aload_n 0, 1) := by decide +kernel
theorem dX11_text_36 : decode cX11_text 36 = .ok (.invokevirtual 149, 3) := by decide +kernel
theorem dX11_text_39 : decode cX11_text 39 = .ok (.aload_n 0, 1) := by decide +kernel
theorem dX11_text_40 : decode cX11_text 40 = .ok (.getfield 117, 3) := by decide +kernel
theorem dX11_text_43 : decode cX11_text 43 = .ok (.iconst 3, 1) := by decide +kernel
theorem dX11_text_44 : decode cX11_text 44 = .ok (.if_icmp .ne 15, 3) := by decide +kernel
theorem dX11_text_47 : decode cX11_text 47 = .ok (.aload_n 0, 1) := by decide +kernel
theorem dX11_text_48 : decode cX11_text 48 = .ok (.getfield 120, 3) := by decide +kernel
theorem dX11_text_51 : decode cX11_text 51 = .ok (.iload_n 2, 1) := by decide +kernel
theorem dX11_text_52 : decode cX11_text 52 = .ok (.if_icmp .ne 7, 3) := by decide +kernel
theorem dX11_text_55 : decode cX11_text 55 = .ok (.iconst 1, 1) := by decide +kernel
theorem dX11_text_56 : decode cX11_text 56 = .ok (.goto 4, 3) := by decide +kernel
theorem dX11_text_59 : decode cX11_text 59 = .ok (.iconst 0, 1) := by decide +kernel
theorem dX11_text_60 : decode cX11_text 60 = .ok (.istore_n 1, 1) := by decide +kernel
theorem dX11_text_61 : decode cX11_text 61 = .ok (.aload_n 0, 1) := by decide +kernel
theorem dX11_text_62 : decode cX11_text 62 = .ok (.getfield 31, 3) := by decide +kernel
theorem dX11_text_65 : decode cX11_text 65 = .ok (.iconst 4, 1) := by decide +kernel
theorem dX11_text_66 : decode cX11_text 66 = .ok (.aload_n 0, 1) := by decide +kernel
theorem dX11_text_67 : decode cX11_text 67 = .ok (.getfield 98, 3) := by decide +kernel
theorem dX11_text_70 : decode cX11_text 70 = .ok (.imul, 1) := by decide +kernel
theorem dX11_text_71 : decode cX11_text 71 = .ok (.iload_n 2, 1) := by decide +kernel
theorem dX11_text_72 : decode cX11_text 72 = .ok (.iadd, 1) := by decide +kernel
theorem dX11_text_73 : decode cX11_text 73 = .ok (.aload_n 0, 1) := by decide +kernel
theorem dX11_text_74 : decode cX11_text 74 = .ok (.getfield 126, 3) := by decide +kernel
theorem dX11_text_77 : decode cX11_text 77 = .ok (.iastore, 1) := by decide +kernel
theorem dX11_text_78 : decode cX11_text 78 = .ok (.iload_n 1, 1) := by decide +kernel
theorem dX11_text_79 : decode cX11_text 79 = .ok (.ifCond .eq 14, 3) := by decide +kernel
theorem dX11_text_82 : decode cX11_text 82 = .ok (.aload_n 0, 1) := by decide +kernel
theorem dX11_text_83 : decode cX11_text 83 = .ok (.invokevirtual 162, 3) := by decide +kernel
theorem dX11_text_86 : decode cX11_text 86 = .ok (.ifCond .eq 7, 3) := by decide +kernel
theorem dX11_text_89 : decode cX11_text 89 = .ok (.iconst 1, 1) := by decide +kernel
theorem dX11_text_90 : decode cX11_text 90 = .ok (.goto 4, 3) := by decide +kernel
theorem dX11_text_93 : decode cX11_text 93 = .ok (.iconst 0, 1) := by decide +kernel
theorem dX11_text_94 : decode cX11_text 94 = .ok (.istore_n 1, 1) := by decide +kernel
theorem dX11_text_95 : decode cX11_text 95 = .ok (.iinc 2 1, 3) := by decide +kernel
theorem dX11_text_98 : decode cX11_text 98 = .ok (.goto (-72), 3) := by decide +kernel
theorem dX11_text_101 : decode cX11_text 101 = .ok (.iload_n 1, 1) := by decide +kernel
theorem dX11_text_102 : decode cX11_text 102 = .ok (.ifCond .eq 20, 3) := by decide +kernel
theorem dX11_text_105 : decode cX11_text 105 = .ok (.aload_n 0, 1) := by decide +kernel
theorem dX11_text_106 : decode cX11_text 106 = .ok (.invokevirtual 149, 3) := by decide +kernel
theorem dX11_text_109 : decode cX11_text 109 = .ok (.aload_n 0, 1) := by decide +kernel
theorem dX11_text_110 : decode cX11_text 110 = .ok (.getfield 117, 3) := by decide +kernel
theorem dX11_text_113 : decode cX11_text 113 = .ok (.ifCond .ne 7, 3) := by decide +kernel
theorem dX11_text_116 : decode cX11_text 116 = .ok (.iconst 1, 1) := by decide +kernel
theorem dX11_text_117 : decode cX11_text 117 = .ok (.goto 4, 3) := by decide +kernel
theorem dX11_text_120 : decode cX11_text 120 = .ok (.iconst 0, 1) := by decide +kernel
theorem dX11_text_121 : decode cX11_text 121 = .ok (.istore_n 1, 1) := by decide +kernel
theorem dX11_text_122 : decode cX11_text 122 = .ok (.aload_n 0, 1) := by decide +kernel
theorem dX11_text_123 : decode cX11_text 123 = .ok (.getfield 31, 3) := by decide +kernel
theorem dX11_text_126 : decode cX11_text 126 = .ok (.iconst 4, 1) := by decide +kernel
theorem dX11_text_127 : decode cX11_text 127 = .ok (.aload_n 0, 1) := by decide +kernel
theorem dX11_text_128 : decode cX11_text 128 = .ok (.getfield 98, 3) := by decide +kernel
theorem dX11_text_131 : decode cX11_text 131 = .ok (.imul, 1) := by decide +kernel
theorem dX11_text_132 : decode cX11_text 132 = .ok (.iconst 3, 1) := by decide +kernel
theorem dX11_text_133 : decode cX11_text 133 = .ok (.iadd, 1) := by decide +kernel
theorem dX11_text_134 : decode cX11_text 134 = .ok (.aload_n 0, 1) := by decide +kernel
theorem dX11_text_135 : decode cX11_text 135 = .ok (.getfield 126, 3) := by decide +kernel
theorem dX11_text_138 : decode cX11_text 138 = .ok (.iastore, 1) := by decide +kernel
theorem dX11_text_139 : decode cX11_text 139 = .ok (.aload_n 0, 1) := by decide +kernel
theorem dX11_text_140 : decode cX11_text 140 = .ok (.iconst 0, 1) := by decide +kernel
theorem dX11_text_141 : decode cX11_text 141 = .ok (.putfield 73, 3) := by decide +kernel
theorem dX11_text_144 : decode cX11_text 144 = .ok (.iload_n 1, 1) := by decide +kernel
theorem dX11_text_145 : decode cX11_text 145 = .ok (.ifCond .ne 11, 3) := by decide +kernel
theorem dX11_text_148 : decode cX11_text 148 = .ok (.bipush (-100), 2) := by decide +kernel
theorem dX11_text_150 : decode cX11_text 150 = .ok (.aload_n 0, 1) := by decide +kernel
theorem dX11_text_151 : decode cX11_text 151 = .ok (.getfield 114, 3) := by decide +kernel
theorem dX11_text_154 : decode cX11_text 154 = .ok (.isub, 1) := by decide +kernel
theorem dX11_text_155 : decode cX11_text 155 = .ok (.ireturn, 1) := by decide +kernel
theorem dX11_text_156 : decode cX11_text 156 = .ok (.aload_n 0, 1) := by decide +kernel
theorem dX11_text_157 : decode cX11_text 157 = .ok (.dup, 1) := by decide +kernel
theorem dX11_text_158 : decode cX11_text 158 = .ok (.getfield 98, 3) := by decide +kernel
theorem dX11_text_161 : decode cX11_text 161 = .ok (.iconst 1, 1) := by decide +kernel
theorem dX11_text_162 : decode cX11_text 162 = .ok (.iadd, 1) := by decide +kernel
theorem dX11_text_163 : decode cX11_text 163 = .ok (.putfield 98, 3) := by decide +kernel
theorem dX11_text_166 : decode cX11_text 166 = .ok (.aload_n 0, 1) := by decide +kernel
theorem dX11_text_167 : decode cX11_text 167 = .ok (.getfield 98, 3) := by decide +kernel
theorem dX11_text_170 : decode cX11_text 170 = .ok (.iconst 1, 1) := by decide +kernel
theorem dX11_text_171 : decode cX11_text 171 = .ok (.isub, 1) := by decide +kernel
theorem dX11_text_172 : decode cX11_text 172 = .ok (.ireturn, 1) := by decide +kernel
theorem dX11_two_0 : decode cX11_two 0 = .ok (.iload_n 0, 1) := by decide +kernel
theorem dX11_two_1 : decode cX11_two 1 = .ok (.tableswitch 101 11 17 #[43, 57, 101, 71, 82, 93, 97], 43) := by decide +kernel
theorem dX11_two_44 : decode cX11_two 44 = .ok (.iload_n 1, 1) := by decide +kernel
theorem dX11_two_45 : decode cX11_two 45 = .ok (.ifCond .ne 7, 3) := by decide +kernel
theorem dX11_two_48 : decode cX11_two 48 = .ok (.iload_n 2, 1) := by decide +kernel
theorem dX11_two_49 : decode cX11_two 49 = .ok (.ifCond .eq 7, 3) := by decide +kernel
theorem dX11_two_52 : decode cX11_two 52 = .ok (.iconst 1, 1) := by decide +kernel
theorem dX11_two_53 : decode cX11_two 53 = .ok (.goto 4, 3) := by decide +kernel
theorem dX11_two_56 : decode cX11_two 56 = .ok (.iconst 0, 1) := by decide +kernel
theorem dX11_two_57 : decode cX11_two 57 = .ok (.ireturn, 1) := by decide +kernel
theorem dX11_two_58 : decode cX11_two 58 = .ok (.iload_n 1, 1) := by decide +kernel
theorem dX11_two_59 : decode cX11_two 59 = .ok (.ifCond .eq 11, 3) := by decide +kernel
theorem dX11_two_62 : decode cX11_two 62 = .ok (.iload_n 2, 1) := by decide +kernel
theorem dX11_two_63 : decode cX11_two 63 = .ok (.ifCond .eq 7, 3) := by decide +kernel
theorem dX11_two_66 : decode cX11_two 66 = .ok (.iconst 1, 1) := by decide +kernel
theorem dX11_two_67 : decode cX11_two 67 = .ok (.goto 4, 3) := by decide +kernel
theorem dX11_two_70 : decode cX11_two 70 = .ok (.iconst 0, 1) := by decide +kernel
theorem dX11_two_71 : decode cX11_two 71 = .ok (.ireturn, 1) := by decide +kernel
theorem dX11_two_72 : decode cX11_two 72 = .ok (.iload_n 1, 1) := by decide +kernel
theorem dX11_two_73 : decode cX11_two 73 = .ok (.iload_n 2, 1) := by decide +kernel
theorem dX11_two_74 : decode cX11_two 74 = .ok (.if_icmp .ge 7, 3) := by decide +kernel
theorem dX11_two_77 : decode cX11_two 77 = .ok (.iconst 1, 1) := by decide +kernel
theorem dX11_two_78 : decode cX11_two 78 = .ok (.goto 4, 3) := by decide +kernel
theorem dX11_two_81 : decode cX11_two 81 = .ok (.iconst 0, 1) := by decide +kernel
theorem dX11_two_82 : decode cX11_two 82 = .ok (.ireturn, 1) := by decide +kernel
theorem dX11_two_83 : decode cX11_two 83 = .ok (.iload_n 1, 1) := by decide +kernel
theorem dX11_two_84 : decode cX11_two 84 = .ok (.iload_n 2, 1) := by decide +kernel
theorem dX11_two_85 : decode cX11_two 85 = .ok (.if_icmp .ne 7, 3) := by decide +kernel
theorem dX11_two_88 : decode cX11_two 88 = .ok (.iconst 1, 1) := by decide +kernel
theorem dX11_two_89 : decode cX11_two 89 = .ok (.goto 4, 3) := by decide +kernel
theorem dX11_two_92 : decode cX11_two 92 = .ok (.iconst 0, 1) := by decide +kernel
theorem dX11_two_93 : decode cX11_two 93 = .ok (.ireturn, 1) := by decide +kernel
theorem dX11_two_94 : decode cX11_two 94 = .ok (.iload_n 1, 1) := by decide +kernel
theorem dX11_two_95 : decode cX11_two 95 = .ok (.iload_n 2, 1) := by decide +kernel
theorem dX11_two_96 : decode cX11_two 96 = .ok (.iadd, 1) := by decide +kernel
theorem dX11_two_97 : decode cX11_two 97 = .ok (.ireturn, 1) := by decide +kernel
theorem dX11_two_98 : decode cX11_two 98 = .ok (.iload_n 1, 1) := by decide +kernel
theorem dX11_two_99 : decode cX11_two 99 = .ok (.iload_n 2, 1) := by decide +kernel
theorem dX11_two_100 : decode cX11_two 100 = .ok (.isub, 1) := by decide +kernel
theorem dX11_two_101 : decode cX11_two 101 = .ok (.ireturn, 1) := by decide +kernel
theorem dX11_two_102 : decode cX11_two 102 = .ok (.iload_n 1, 1) := by decide +kernel
theorem dX11_two_103 : decode cX11_two 103 = .ok (.iload_n 2, 1) := by decide +kernel
theorem dX11_two_104 : decode cX11_two 104 = .ok (.imul, 1) := by decide +kernel
theorem dX11_two_105 : decode cX11_two 105 = .ok (.ireturn, 1) := by decide +kernel
theorem dX11_says_0 : decode cX11_says 0 = .ok (.iconst 0, 1) := by decide +kernel
theorem dX11_says_1 : decode cX11_says 1 = .ok (.istore_n 2, 1) := by decide +kernel
theorem dX11_says_2 : decode cX11_says 2 = .ok (.aload_n 0, 1) := by decide +kernel
theorem dX11_says_3 : decode cX11_says 3 = .ok (.getfield 31, 3) := by decide +kernel
theorem dX11_says_6 : decode cX11_says 6 = .ok (.iconst 4, 1) := by decide +kernel
theorem dX11_says_7 : decode cX11_says 7 = .ok (.aload_n 0, 1) := by decide +kernel
theorem dX11_says_8 : decode cX11_says 8 = .ok (.getfield 101, 3) := by decide +kernel
theorem dX11_says_11 : decode cX11_says 11 = .ok (.imul, 1) := by decide +kernel
theorem dX11_says_12 : decode cX11_says 12 = .ok (.iload_n 1, 1) := by decide +kernel
theorem dX11_says_13 : decode cX11_says 13 = .ok (.iadd, 1) := by decide +kernel
theorem dX11_says_14 : decode cX11_says 14 = .ok (.iaload, 1) := by decide +kernel
theorem dX11_says_15 : decode cX11_says 15 = .ok (.istore_n 3, 1) := by decide +kernel
theorem dX11_says_16 : decode cX11_says 16 = .ok (.iload_n 3, 1) := by decide +kernel
theorem dX11_says_17 : decode cX11_says 17 = .ok (.aload_n 0, 1) := by decide +kernel
theorem dX11_says_18 : decode cX11_says 18 = .ok (.getfield 31, 3) := by decide +kernel
theorem dX11_says_21 : decode cX11_says 21 = .ok (.iconst 4, 1) := by decide +kernel
theorem dX11_says_22 : decode cX11_says 22 = .ok (.aload_n 0, 1) := by decide +kernel
theorem dX11_says_23 : decode cX11_says 23 = .ok (.getfield 101, 3) := by decide +kernel
theorem dX11_says_26 : decode cX11_says 26 = .ok (.imul, 1) := by decide +kernel
theorem dX11_says_27 : decode cX11_says 27 = .ok (.iload_n 1, 1) := by decide +kernel
theorem dX11_says_28 : decode cX11_says 28 = .ok (.iadd, 1) := by decide +kernel
theorem dX11_says_29 : decode cX11_says 29 = .ok (.iconst 1, 1) := by decide +kernel
theorem dX11_says_30 : decode cX11_says 30 = .ok (.iadd, 1) := by decide +kernel
theorem dX11_says_31 : decode cX11_says 31 = .ok (.iaload, 1) := by decide +kernel
theorem dX11_says_32 : decode cX11_says 32 = .ok (.if_icmp .ge 165, 3) := by decide +kernel
theorem dX11_says_35 : decode cX11_says 35 = .ok (.aload_n 0, 1) := by decide +kernel
theorem dX11_says_36 : decode cX11_says 36 = .ok (.getfield 28, 3) := by decide +kernel
theorem dX11_says_39 : decode cX11_says 39 = .ok (.sipush 200, 3) := by decide +kernel
theorem dX11_says_42 : decode cX11_says 42 = .ok (.aload_n 0, 1) := by decide +kernel
theorem dX11_says_43 : decode cX11_says 43 = .ok (.getfield 101, 3) := by decide +kernel
theorem dX11_says_46 : decode cX11_says 46 = .ok (.imul, 1) := by decide +kernel
theorem dX11_says_47 : decode cX11_says 47 = .ok (.iload_n 3, 1) := by decide +kernel
theorem dX11_says_48 : decode cX11_says 48 = .ok (.iadd, 1) := by decide +kernel
theorem dX11_says_49 : decode cX11_says 49 = .ok (.iaload, 1) := by decide +kernel
theorem dX11_says_50 : decode cX11_says 50 = .ok (.istore 4, 2) := by decide +kernel
theorem dX11_says_52 : decode cX11_says 52 = .ok (.iload 4, 2) := by decide +kernel
theorem dX11_says_54 : decode cX11_says 54 = .ok (.ldc 152, 2) := by decide +kernel
theorem dX11_says_56 : decode cX11_says 56 = .ok (.if_icmp .ge 10, 3) := by decide +kernel
theorem dX11_says_59 : decode cX11_says 59 = .ok (.iload 4, 2) := by decide +kernel
theorem dX11_says_61 : decode cX11_says 61 = .ok (.bipush 11, 2) := by decide +kernel
theorem dX11_says_63 : decode cX11_says 63 = .ok (.if_icmp .ge 37, 3) := by decide +kernel
theorem dX11_says_66 : decode cX11_says 66 = .ok (.aload_n 0, 1) := by decide +kernel
theorem dX11_says_67 : decode cX11_says 67 = .ok (.getfield 58, 3) := by decide +kernel
theorem dX11_says_70 : decode cX11_says 70 = .ok (.iload_n 2, 1) := by decide +kernel
theorem dX11_says_71 : decode cX11_says 71 = .ok (.iload 4, 2) := by decide +kernel
theorem dX11_says_73 : decode cX11_says 73 = .ok (.bipush 11, 2) := by decide +kernel
theorem dX11_says_75 : decode cX11_says 75 = .ok (.if_icmp .ge 13, 3) := by decide +kernel
theorem dX11_says_78 : decode cX11_says 78 = .ok (.aload_n 0, 1) := by decide +kernel
theorem dX11_says_79 : decode cX11_says 79 = .ok (.getfield 61, 3) := by decide +kernel
theorem dX11_says_82 : decode cX11_says 82 = .ok (.iload 4, 2) := by decide +kernel
theorem dX11_says_84 : decode cX11_says 84 = .ok (.iaload, 1) := by decide +kernel
theorem dX11_says_85 : decode cX11_says 85 = .ok (.goto 8, 3) := by decide +kernel
theorem dX11_says_88 : decode cX11_says 88 = .ok (.iload 4, 2) := by decide +kernel
theorem dX11_says_90 : decode cX11_says 90 = .ok (.ldc 152, 2) := by decide +kernel
theorem dX11_says_92 : decode cX11_says 92 = .ok (.isub, 1) := by decide +kernel
theorem dX11_says_93 : decode cX11_says 93 = .ok (.iastore, 1) := by decide +kernel
theorem dX11_says_94 : decode cX11_says 94 = .ok (.iinc 2 1, 3) := by decide +kernel
theorem dX11_says_97 : decode cX11_says 97 = .ok (.goto 94, 3) := by decide +kernel
theorem dX11_says_100 : decode cX11_says 100 = .ok (.iload 4, 2) := by decide +kernel
theorem dX11_says_102 : decode cX11_says 102 = .ok (.bipush 13, 2) := by decide +kernel
theorem dX11_says_104 : decode cX11_says 104 = .ok (.if_icmp .ne 30, 3) := by decide +kernel
theorem dX11_says_107 : decode cX11_says 107 = .ok (.aload_n 0, 1) := by decide +kernel
theorem dX11_says_108 : decode cX11_says 108 = .ok (.getfield 58, 3) := by decide +kernel
theorem dX11_says_111 : decode cX11_says 111 = .ok (.iload_n 2, 1) := by decide +kernel
theorem dX11_says_112 : decode cX11_says 112 = .ok (.iconst 1, 1) := by decide +kernel
theorem dX11_says_113 : decode cX11_says 113 = .ok (.isub, 1) := by decide +kernel
theorem dX11_says_114 : decode cX11_says 114 = .ok (.aload_n 0, 1) := by decide +kernel
theorem dX11_says_115 : decode cX11_says 115 = .ok (.getfield 58, 3) := by decide +kernel
theorem dX11_says_118 : decode cX11_says 118 = .ok (.iload_n 2, 1) := by decide +kernel
theorem dX11_says_119 : decode cX11_says 119 = .ok (.iconst 1, 1) := by decide +kernel
theorem dX11_says_120 : decode cX11_says 120 = .ok (.isub, 1) := by decide +kernel
theorem dX11_says_121 : decode cX11_says 121 = .ok (.iaload, 1) := by decide +kernel
theorem dX11_says_122 : decode cX11_says 122 = .ok (.ifCond .ne 7, 3) := by decide +kernel
theorem dX11_says_125 : decode cX11_says 125 = .ok (.iconst 1, 1) := by decide +kernel
theorem dX11_says_126 : decode cX11_says 126 = .ok (.goto 4, 3) := by decide +kernel
theorem dX11_says_129 : decode cX11_says 129 = .ok (.iconst 0, 1) := by decide +kernel
theorem dX11_says_130 : decode cX11_says 130 = .ok (.iastore, 1) := by decide +kernel
theorem dX11_says_131 : decode cX11_says 131 = .ok (.goto 60, 3) := by decide +kernel
theorem dX11_says_134 : decode cX11_says 134 = .ok (.iload 4, 2) := by decide +kernel
theorem dX11_says_136 : decode cX11_says 136 = .ok (.bipush 19, 2) := by decide +kernel
theorem dX11_says_138 : decode cX11_says 138 = .ok (.if_icmp .ne 23, 3) := by decide +kernel
theorem dX11_says_141 : decode cX11_says 141 = .ok (.aload_n 0, 1) := by decide +kernel
theorem dX11_says_142 : decode cX11_says 142 = .ok (.getfield 58, 3) := by decide +kernel
theorem dX11_says_145 : decode cX11_says 145 = .ok (.iload_n 2, 1) := by decide +kernel
theorem dX11_says_146 : decode cX11_says 146 = .ok (.iconst 1, 1) := by decide +kernel
theorem dX11_says_147 : decode cX11_says 147 = .ok (.isub, 1) := by decide +kernel
theorem dX11_says_148 : decode cX11_says 148 = .ok (.aload_n 0, 1) := by decide +kernel
theorem dX11_says_149 : decode cX11_says 149 = .ok (.getfield 58, 3) := by decide +kernel
theorem dX11_says_152 : decode cX11_says 152 = .ok (.iload_n 2, 1) := by decide +kernel
theorem dX11_says_153 : decode cX11_says 153 = .ok (.iconst 1, 1) := by decide +kernel
theorem dX11_says_154 : decode cX11_says 154 = .ok (.isub, 1) := by decide +kernel
theorem dX11_says_155 : decode cX11_says 155 = .ok (.iaload, 1) := by decide +kernel
theorem dX11_says_156 : decode cX11_says 156 = .ok (.ineg, 1) := by decide +kernel
theorem dX11_says_157 : decode cX11_says 157 = .ok (.iastore, 1) := by decide +kernel
theorem dX11_says_158 : decode cX11_says 158 = .ok (.goto 33, 3) := by decide +kernel
theorem dX11_says_161 : decode cX11_says 161 = .ok (.iinc 2 (-1), 3) := by decide +kernel
theorem dX11_says_164 : decode cX11_says 164 = .ok (.aload_n 0, 1) := by decide +kernel
theorem dX11_says_165 : decode cX11_says 165 = .ok (.getfield 58, 3) := by decide +kernel
theorem dX11_says_168 : decode cX11_says 168 = .ok (.iload_n 2, 1) := by decide +kernel
theorem dX11_says_169 : decode cX11_says 169 = .ok (.iconst 1, 1) := by decide +kernel
theorem dX11_says_170 : decode cX11_says 170 = .ok (.isub, 1) := by decide +kernel
theorem dX11_says_171 : decode cX11_says 171 = .ok (.iload 4, 2) := by decide +kernel
theorem dX11_says_173 : decode cX11_says 173 = .ok (.aload_n 0, 1) := by decide +kernel
theorem dX11_says_174 : decode cX11_says 174 = .ok (.getfield 58, 3) := by decide +kernel
theorem dX11_says_177 : decode cX11_says 177 = .ok (.iload_n 2, 1) := by decide +kernel
theorem dX11_says_178 : decode cX11_says 178 = .ok (.iconst 1, 1) := by decide +kernel
theorem dX11_says_179 : decode cX11_says 179 = .ok (.isub, 1) := by decide +kernel
theorem dX11_says_180 : decode cX11_says 180 = .ok (.iaload, 1) := by decide +kernel
theorem dX11_says_181 : decode cX11_says 181 = .ok (.aload_n 0, 1) := by decide +kernel
theorem dX11_says_182 : decode cX11_says 182 = .ok (.getfield 58, 3) := by decide +kernel
theorem dX11_says_185 : decode cX11_says 185 = .ok (.iload_n 2, 1) := by decide +kernel
theorem dX11_says_186 : decode cX11_says 186 = .ok (.iaload, 1) := by decide +kernel
theorem dX11_says_187 : decode cX11_says 187 = .ok (.invokestatic 166, 3) := by decide +kernel
theorem dX11_says_190 : decode cX11_says 190 = .ok (.iastore, 1) := by decide +kernel
theorem dX11_says_191 : decode cX11_says 191 = .ok (.iinc 3 1, 3) := by decide +kernel
theorem dX11_says_194 : decode cX11_says 194 = .ok (.goto (-178), 3) := by decide +kernel
theorem dX11_says_197 : decode cX11_says 197 = .ok (.aload_n 0, 1) := by decide +kernel
theorem dX11_says_198 : decode cX11_says 198 = .ok (.getfield 58, 3) := by decide +kernel
theorem dX11_says_201 : decode cX11_says 201 = .ok (.iconst 0, 1) := by decide +kernel
theorem dX11_says_202 : decode cX11_says 202 = .ok (.iaload, 1) := by decide +kernel
theorem dX11_says_203 : decode cX11_says 203 = .ok (.ireturn, 1) := by decide +kernel
theorem dX11_force_0 : decode cX11_force 0 = .ok (.iload_n 1, 1) := by decide +kernel
theorem dX11_force_1 : decode cX11_force 1 = .ok (.iconst 0, 1) := by decide +kernel
theorem dX11_force_2 : decode cX11_force 2 = .ok (.aload_n 0, 1) := by decide +kernel
theorem dX11_force_3 : decode cX11_force 3 = .ok (.getfield 98, 3) := by decide +kernel
theorem dX11_force_6 : decode cX11_force 6 = .ok (.iconst 1, 1) := by decide +kernel
theorem dX11_force_7 : decode cX11_force 7 = .ok (.isub, 1) := by decide +kernel
theorem dX11_force_8 : decode cX11_force 8 = .ok (.invokestatic 84, 3) := by decide +kernel
theorem dX11_force_11 : decode cX11_force 11 = .ok (.ifCond .ne 6, 3) := by decide +kernel
theorem dX11_force_14 : decode cX11_force 14 = .ok (.bipush (-2), 2) := by decide +kernel
theorem dX11_force_16 : decode cX11_force 16 = .ok (.ireturn, 1) := by decide +kernel
theorem dX11_force_17 : decode cX11_force 17 = .ok (.aload_n 0, 1) := by decide +kernel
theorem dX11_force_18 : decode cX11_force 18 = .ok (.getfield 101, 3) := by decide +kernel
theorem dX11_force_21 : decode cX11_force 21 = .ok (.istore_n 2, 1) := by decide +kernel
theorem dX11_force_22 : decode cX11_force 22 = .ok (.aload_n 0, 1) := by decide +kernel
theorem dX11_force_23 : decode cX11_force 23 = .ok (.iload_n 1, 1) := by decide +kernel
theorem dX11_force_24 : decode cX11_force 24 = .ok (.putfield 101, 3) := by decide +kernel
theorem dX11_force_27 : decode cX11_force 27 = .ok (.iload_n 2, 1) := by decide +kernel
theorem dX11_force_28 : decode cX11_force 28 = .ok (.ireturn, 1) := by decide +kernel
theorem dX11_asksOf_0 : decode cX11_asksOf 0 = .ok (.aload_n 0, 1) := by decide +kernel
theorem dX11_asksOf_1 : decode cX11_asksOf 1 = .ok (.getfield 61, 3) := by decide +kernel
theorem dX11_asksOf_4 : decode cX11_asksOf 4 = .ok (.iconst 0, 1) := by decide +kernel
theorem dX11_asksOf_5 : decode cX11_asksOf 5 = .ok (.iload_n 3, 1) := by decide +kernel
theorem dX11_asksOf_6 : decode cX11_asksOf 6 = .ok (.bipush 6, 2) := by decide +kernel
theorem dX11_asksOf_8 : decode cX11_asksOf 8 = .ok (.irem, 1) := by decide +kernel
theorem dX11_asksOf_9 : decode cX11_asksOf 9 = .ok (.iastore, 1) := by decide +kernel
theorem dX11_asksOf_10 : decode cX11_asksOf 10 = .ok (.aload_n 0, 1) := by decide +kernel
theorem dX11_asksOf_11 : decode cX11_asksOf 11 = .ok (.getfield 61, 3) := by decide +kernel
theorem dX11_asksOf_14 : decode cX11_asksOf 14 = .ok (.iconst 1, 1) := by decide +kernel
theorem dX11_asksOf_15 : decode cX11_asksOf 15 = .ok (.iload_n 3, 1) := by decide +kernel
theorem dX11_asksOf_16 : decode cX11_asksOf 16 = .ok (.bipush 6, 2) := by decide +kernel
theorem dX11_asksOf_18 : decode cX11_asksOf 18 = .ok (.idiv, 1) := by decide +kernel
theorem dX11_asksOf_19 : decode cX11_asksOf 19 = .ok (.iastore, 1) := by decide +kernel
theorem dX11_asksOf_20 : decode cX11_asksOf 20 = .ok (.aload_n 0, 1) := by decide +kernel
theorem dX11_asksOf_21 : decode cX11_asksOf 21 = .ok (.getfield 61, 3) := by decide +kernel
theorem dX11_asksOf_24 : decode cX11_asksOf 24 = .ok (.iconst 2, 1) := by decide +kernel
theorem dX11_asksOf_25 : decode cX11_asksOf 25 = .ok (.aload_n 0, 1) := by decide +kernel
theorem dX11_asksOf_26 : decode cX11_asksOf 26 = .ok (.getfield 22, 3) := by decide +kernel
theorem dX11_asksOf_29 : decode cX11_asksOf 29 = .ok (.iload_n 3, 1) := by decide +kernel
theorem dX11_asksOf_30 : decode cX11_asksOf 30 = .ok (.iaload, 1) := by decide +kernel
theorem dX11_asksOf_31 : decode cX11_asksOf 31 = .ok (.iastore, 1) := by decide +kernel
theorem dX11_asksOf_32 : decode cX11_asksOf 32 = .ok (.aload_n 0, 1) := by decide +kernel
theorem dX11_asksOf_33 : decode cX11_asksOf 33 = .ok (.getfield 61, 3) := by decide +kernel
theorem dX11_asksOf_36 : decode cX11_asksOf 36 = .ok (.iconst 3, 1) := by decide +kernel
theorem dX11_asksOf_37 : decode cX11_asksOf 37 = .ok (.aload_n 0, 1) := by decide +kernel
theorem dX11_asksOf_38 : decode cX11_asksOf 38 = .ok (.getfield 92, 3) := by decide +kernel
theorem dX11_asksOf_41 : decode cX11_asksOf 41 = .ok (.iastore, 1) := by decide +kernel
theorem dX11_asksOf_42 : decode cX11_asksOf 42 = .ok (.aload_n 0, 1) := by decide +kernel
theorem dX11_asksOf_43 : decode cX11_asksOf 43 = .ok (.getfield 61, 3) := by decide +kernel
theorem dX11_asksOf_46 : decode cX11_asksOf 46 = .ok (.iconst 4, 1) := by decide +kernel
theorem dX11_asksOf_47 : decode cX11_asksOf 47 = .ok (.aload_n 0, 1) := by decide +kernel
theorem dX11_asksOf_48 : decode cX11_asksOf 48 = .ok (.getfield 19, 3) := by decide +kernel
theorem dX11_asksOf_51 : decode cX11_asksOf 51 = .ok (.iload_n 2, 1) := by decide +kernel
theorem dX11_asksOf_52 : decode cX11_asksOf 52 = .ok (.iaload, 1) := by decide +kernel
theorem dX11_asksOf_53 : decode cX11_asksOf 53 = .ok (.iastore, 1) := by decide +kernel
theorem dX11_asksOf_54 : decode cX11_asksOf 54 = .ok (.aload_n 0, 1) := by decide +kernel
theorem dX11_asksOf_55 : decode cX11_asksOf 55 = .ok (.getfield 61, 3) := by decide +kernel
theorem dX11_asksOf_58 : decode cX11_asksOf 58 = .ok (.iconst 5, 1) := by decide +kernel
theorem dX11_asksOf_59 : decode cX11_asksOf 59 = .ok (.aload_n 0, 1) := by decide +kernel
theorem dX11_asksOf_60 : decode cX11_asksOf 60 = .ok (.getfield 13, 3) := by decide +kernel
theorem dX11_asksOf_63 : decode cX11_asksOf 63 = .ok (.iload_n 2, 1) := by decide +kernel
theorem dX11_asksOf_64 : decode cX11_asksOf 64 = .ok (.iaload, 1) := by decide +kernel
theorem dX11_asksOf_65 : decode cX11_asksOf 65 = .ok (.iastore, 1) := by decide +kernel
theorem dX11_asksOf_66 : decode cX11_asksOf 66 = .ok (.aload_n 0, 1) := by decide +kernel
theorem dX11_asksOf_67 : decode cX11_asksOf 67 = .ok (.iload_n 1, 1) := by decide +kernel
theorem dX11_asksOf_68 : decode cX11_asksOf 68 = .ok (.invokevirtual 170, 3) := by decide +kernel
theorem dX11_asksOf_71 : decode cX11_asksOf 71 = .ok (.iload_n 1, 1) := by decide +kernel
theorem dX11_asksOf_72 : decode cX11_asksOf 72 = .ok (.ifCond .ne 8, 3) := by decide +kernel
theorem dX11_asksOf_75 : decode cX11_asksOf 75 = .ok (.bipush (-99), 2) := by decide +kernel
theorem dX11_asksOf_77 : decode cX11_asksOf 77 = .ok (.goto 4, 3) := by decide +kernel
theorem dX11_asksOf_80 : decode cX11_asksOf 80 = .ok (.iconst 0, 1) := by decide +kernel
theorem dX11_asksOf_81 : decode cX11_asksOf 81 = .ok (.bipush 99, 2) := by decide +kernel
theorem dX11_asksOf_83 : decode cX11_asksOf 83 = .ok (.invokestatic 173, 3) := by decide +kernel
theorem dX11_asksOf_86 : decode cX11_asksOf 86 = .ok (.ireturn, 1) := by decide +kernel
theorem dX11_asks_0 : decode cX11_asks 0 = .ok (.iload_n 1, 1) := by decide +kernel
theorem dX11_asks_1 : decode cX11_asks 1 = .ok (.iconst 0, 1) := by decide +kernel
theorem dX11_asks_2 : decode cX11_asks 2 = .ok (.iconst 2, 1) := by decide +kernel
theorem dX11_asks_3 : decode cX11_asks 3 = .ok (.invokestatic 84, 3) := by decide +kernel
theorem dX11_asks_6 : decode cX11_asks 6 = .ok (.ifCond .eq 28, 3) := by decide +kernel
theorem dX11_asks_9 : decode cX11_asks 9 = .ok (.aload_n 0, 1) := by decide +kernel
theorem dX11_asks_10 : decode cX11_asks 10 = .ok (.iload_n 2, 1) := by decide +kernel
theorem dX11_asks_11 : decode cX11_asks 11 = .ok (.invokevirtual 176, 3) := by decide +kernel
theorem dX11_asks_14 : decode cX11_asks 14 = .ok (.ifCond .eq 20, 3) := by decide +kernel
theorem dX11_asks_17 : decode cX11_asks 17 = .ok (.iload_n 3, 1) := by decide +kernel
theorem dX11_asks_18 : decode cX11_asks 18 = .ok (.invokestatic 104, 3) := by decide +kernel
theorem dX11_asks_21 : decode cX11_asks 21 = .ok (.ifCond .eq 13, 3) := by decide +kernel
theorem dX11_asks_24 : decode cX11_asks 24 = .ok (.aload_n 0, 1) := by decide +kernel
theorem dX11_asks_25 : decode cX11_asks 25 = .ok (.iload_n 1, 1) := by decide +kernel
theorem dX11_asks_26 : decode cX11_asks 26 = .ok (.iload_n 2, 1) := by decide +kernel
theorem dX11_asks_27 : decode cX11_asks 27 = .ok (.iload_n 3, 1) := by decide +kernel
theorem dX11_asks_28 : decode cX11_asks 28 = .ok (.invokevirtual 179, 3) := by decide +kernel
theorem dX11_asks_31 : decode cX11_asks 31 = .ok (.goto 6, 3) := by decide +kernel
theorem dX11_asks_34 : decode cX11_asks 34 = .ok (.sipush (-1000), 3) := by decide +kernel
theorem dX11_asks_37 : decode cX11_asks 37 = .ok (.ireturn, 1) := by decide +kernel
theorem dX11_person_0 : decode cX11_person 0 = .ok (.iload_n 1, 1) := by decide +kernel
theorem dX11_person_1 : decode cX11_person 1 = .ok (.iconst 0, 1) := by decide +kernel
theorem dX11_person_2 : decode cX11_person 2 = .ok (.bipush 59, 2) := by decide +kernel
theorem dX11_person_4 : decode cX11_person 4 = .ok (.invokestatic 84, 3) := by decide +kernel
theorem dX11_person_7 : decode cX11_person 7 = .ok (.ifCond .eq 14, 3) := by decide +kernel
theorem dX11_person_10 : decode cX11_person 10 = .ok (.iload_n 2, 1) := by decide +kernel
theorem dX11_person_11 : decode cX11_person 11 = .ok (.iconst 0, 1) := by decide +kernel
theorem dX11_person_12 : decode cX11_person 12 = .ok (.sipush 3599, 3) := by decide +kernel
theorem dX11_person_15 : decode cX11_person 15 = .ok (.invokestatic 84, 3) := by decide +kernel
theorem dX11_person_18 : decode cX11_person 18 = .ok (.ifCond .ne 6, 3) := by decide +kernel
theorem dX11_person_21 : decode cX11_person 21 = .ok (.bipush (-2), 2) := by decide +kernel
theorem dX11_person_23 : decode cX11_person 23 = .ok (.ireturn, 1) := by decide +kernel
theorem dX11_person_24 : decode cX11_person 24 = .ok (.aload_n 0, 1) := by decide +kernel
theorem dX11_person_25 : decode cX11_person 25 = .ok (.getfield 81, 3) := by decide +kernel
theorem dX11_person_28 : decode cX11_person 28 = .ok (.bipush 6, 2) := by decide +kernel
theorem dX11_person_30 : decode cX11_person 30 = .ok (.if_icmp .ne 6, 3) := by decide +kernel
theorem dX11_person_33 : decode cX11_person 33 = .ok (.bipush (-4), 2) := by decide +kernel
theorem dX11_person_35 : decode cX11_person 35 = .ok (.ireturn, 1) := by decide +kernel
theorem dX11_person_36 : decode cX11_person 36 = .ok (.aload_n 0, 1) := by decide +kernel
theorem dX11_person_37 : decode cX11_person 37 = .ok (.getfield 7, 3) := by decide +kernel
theorem dX11_person_40 : decode cX11_person 40 = .ok (.aload_n 0, 1) := by decide +kernel
theorem dX11_person_41 : decode cX11_person 41 = .ok (.getfield 81, 3) := by decide +kernel
theorem dX11_person_44 : decode cX11_person 44 = .ok (.iload_n 1, 1) := by decide +kernel
theorem dX11_person_45 : decode cX11_person 45 = .ok (.bipush 10, 2) := by decide +kernel
theorem dX11_person_47 : decode cX11_person 47 = .ok (.idiv, 1) := by decide +kernel
theorem dX11_person_48 : decode cX11_person 48 = .ok (.iastore, 1) := by decide +kernel
theorem dX11_person_49 : decode cX11_person 49 = .ok (.aload_n 0, 1) := by decide +kernel
theorem dX11_person_50 : decode cX11_person 50 = .ok (.getfield 13, 3) := by decide +kernel
theorem dX11_person_53 : decode cX11_person 53 = .ok (.aload_n 0, 1) := by decide +kernel
theorem dX11_person_54 : decode cX11_person 54 = .ok (.getfield 81, 3) := by decide +kernel
theorem dX11_person_57 : decode cX11_person 57 = .ok (.iload_n 1, 1) := by decide +kernel
theorem dX11_person_58 : decode cX11_person 58 = .ok (.bipush 10, 2) := by decide +kernel
theorem dX11_person_60 : decode cX11_person 60 = .ok (.irem, 1) := by decide +kernel
theorem dX11_person_61 : decode cX11_person 61 = .ok (.iastore, 1) := by decide +kernel
theorem dX11_person_62 : decode cX11_person 62 = .ok (.aload_n 0, 1) := by decide +kernel
theorem dX11_person_63 : decode cX11_person 63 = .ok (.getfield 16, 3) := by decide +kernel
theorem dX11_person_66 : decode cX11_person 66 = .ok (.aload_n 0, 1) := by decide +kernel
theorem dX11_person_67 : decode cX11_person 67 = .ok (.getfield 81, 3) := by decide +kernel
theorem dX11_person_70 : decode cX11_person 70 = .ok (.iload_n 2, 1) := by decide +kernel
theorem dX11_person_71 : decode cX11_person 71 = .ok (.bipush 100, 2) := by decide +kernel
theorem dX11_person_73 : decode cX11_person 73 = .ok (.idiv, 1) := by decide +kernel
theorem dX11_person_74 : decode cX11_person 74 = .ok (.iastore, 1) := by decide +kernel
theorem dX11_person_75 : decode cX11_person 75 = .ok (.aload_n 0, 1) := by decide +kernel
theorem dX11_person_76 : decode cX11_person 76 = .ok (.getfield 19, 3) := by decide +kernel
theorem dX11_person_79 : decode cX11_person 79 = .ok (.aload_n 0, 1) := by decide +kernel
theorem dX11_person_80 : decode cX11_person 80 = .ok (.getfield 81, 3) := by decide +kernel
theorem dX11_person_83 : decode cX11_person 83 = .ok (.iload_n 2, 1) := by decide +kernel
theorem dX11_person_84 : decode cX11_person 84 = .ok (.bipush 100, 2) := by decide +kernel
theorem dX11_person_86 : decode cX11_person 86 = .ok (.irem, 1) := by decide +kernel
theorem dX11_person_87 : decode cX11_person 87 = .ok (.iastore, 1) := by decide +kernel
theorem dX11_person_88 : decode cX11_person 88 = .ok (.aload_n 0, 1) := by decide +kernel
theorem dX11_person_89 : decode cX11_person 89 = .ok (.dup, 1) := by decide +kernel
theorem dX11_person_90 : decode cX11_person 90 = .ok (.getfield 81, 3) := by decide +kernel
theorem dX11_person_93 : decode cX11_person 93 = .ok (.iconst 1, 1) := by decide +kernel
theorem dX11_person_94 : decode cX11_person 94 = .ok (.iadd, 1) := by decide +kernel
theorem dX11_person_95 : decode cX11_person 95 = .ok (.putfield 81, 3) := by decide +kernel
theorem dX11_person_98 : decode cX11_person 98 = .ok (.aload_n 0, 1) := by decide +kernel
theorem dX11_person_99 : decode cX11_person 99 = .ok (.getfield 81, 3) := by decide +kernel
theorem dX11_person_102 : decode cX11_person 102 = .ok (.iconst 1, 1) := by decide +kernel
theorem dX11_person_103 : decode cX11_person 103 = .ok (.isub, 1) := by decide +kernel
theorem dX11_person_104 : decode cX11_person 104 = .ok (.ireturn, 1) := by decide +kernel
theorem dX11_put_0 : decode cX11_put 0 = .ok (.aload_n 0, 1) := by decide +kernel
theorem dX11_put_1 : decode cX11_put 1 = .ok (.iload_n 1, 1) := by decide +kernel
theorem dX11_put_2 : decode cX11_put 2 = .ok (.invokevirtual 176, 3) := by decide +kernel
theorem dX11_put_5 : decode cX11_put 5 = .ok (.ifCond .ne 6, 3) := by decide +kernel
theorem dX11_put_8 : decode cX11_put 8 = .ok (.bipush (-5), 2) := by decide +kernel
theorem dX11_put_10 : decode cX11_put 10 = .ok (.ireturn, 1) := by decide +kernel
theorem dX11_put_11 : decode cX11_put 11 = .ok (.iload_n 2, 1) := by decide +kernel
theorem dX11_put_12 : decode cX11_put 12 = .ok (.iconst 0, 1) := by decide +kernel
theorem dX11_put_13 : decode cX11_put 13 = .ok (.iconst 1, 1) := by decide +kernel
theorem dX11_put_14 : decode cX11_put 14 = .ok (.invokestatic 84, 3) := by decide +kernel
theorem dX11_put_17 : decode cX11_put 17 = .ok (.ifCond .eq 22, 3) := by decide +kernel
theorem dX11_put_20 : decode cX11_put 20 = .ok (.iload_n 3, 1) := by decide +kernel
theorem dX11_put_21 : decode cX11_put 21 = .ok (.iconst 0, 1) := by decide +kernel
theorem dX11_put_22 : decode cX11_put 22 = .ok (.iload_n 2, 1) := by decide +kernel
theorem dX11_put_23 : decode cX11_put 23 = .ok (.ifCond .ne 8, 3) := by decide +kernel
theorem dX11_put_26 : decode cX11_put 26 = .ok (.bipush 35, 2) := by decide +kernel
theorem dX11_put_28 : decode cX11_put 28 = .ok (.goto 5, 3) := by decide +kernel
theorem dX11_put_31 : decode cX11_put 31 = .ok (.bipush 99, 2) := by decide +kernel
theorem dX11_put_33 : decode cX11_put 33 = .ok (.invokestatic 84, 3) := by decide +kernel
theorem dX11_put_36 : decode cX11_put 36 = .ok (.ifCond .ne 6, 3) := by decide +kernel
theorem dX11_put_39 : decode cX11_put 39 = .ok (.bipush (-7), 2) := by decide +kernel
theorem dX11_put_41 : decode cX11_put 41 = .ok (.ireturn, 1) := by decide +kernel
theorem dX11_put_42 : decode cX11_put 42 = .ok (.iload_n 2, 1) := by decide +kernel
theorem dX11_put_43 : decode cX11_put 43 = .ok (.ifCond .ne 12, 3) := by decide +kernel
theorem dX11_put_46 : decode cX11_put 46 = .ok (.aload_n 0, 1) := by decide +kernel
theorem dX11_put_47 : decode cX11_put 47 = .ok (.getfield 16, 3) := by decide +kernel
theorem dX11_put_50 : decode cX11_put 50 = .ok (.iload_n 1, 1) := by decide +kernel
theorem dX11_put_51 : decode cX11_put 51 = .ok (.iaload, 1) := by decide +kernel
theorem dX11_put_52 : decode cX11_put 52 = .ok (.goto 9, 3) := by decide +kernel
theorem dX11_put_55 : decode cX11_put 55 = .ok (.aload_n 0, 1) := by decide +kernel
theorem dX11_put_56 : decode cX11_put 56 = .ok (.getfield 19, 3) := by decide +kernel
theorem dX11_put_59 : decode cX11_put 59 = .ok (.iload_n 1, 1) := by decide +kernel
theorem dX11_put_60 : decode cX11_put 60 = .ok (.iaload, 1) := by decide +kernel
theorem dX11_put_61 : decode cX11_put 61 = .ok (.istore 4, 2) := by decide +kernel
theorem dX11_put_63 : decode cX11_put 63 = .ok (.iload_n 2, 1) := by decide +kernel
theorem dX11_put_64 : decode cX11_put 64 = .ok (.ifCond .ne 13, 3) := by decide +kernel
theorem dX11_put_67 : decode cX11_put 67 = .ok (.aload_n 0, 1) := by decide +kernel
theorem dX11_put_68 : decode cX11_put 68 = .ok (.getfield 16, 3) := by decide +kernel
theorem dX11_put_71 : decode cX11_put 71 = .ok (.iload_n 1, 1) := by decide +kernel
theorem dX11_put_72 : decode cX11_put 72 = .ok (.iload_n 3, 1) := by decide +kernel
theorem dX11_put_73 : decode cX11_put 73 = .ok (.iastore, 1) := by decide +kernel
theorem dX11_put_74 : decode cX11_put 74 = .ok (.goto 10, 3) := by decide +kernel
theorem dX11_put_77 : decode cX11_put 77 = .ok (.aload_n 0, 1) := by decide +kernel
theorem dX11_put_78 : decode cX11_put 78 = .ok (.getfield 19, 3) := by decide +kernel
theorem dX11_put_81 : decode cX11_put 81 = .ok (.iload_n 1, 1) := by decide +kernel
theorem dX11_put_82 : decode cX11_put 82 = .ok (.iload_n 3, 1) := by decide +kernel
theorem dX11_put_83 : decode cX11_put 83 = .ok (.iastore, 1) := by decide +kernel
theorem dX11_put_84 : decode cX11_put 84 = .ok (.iload 4, 2) := by decide +kernel
theorem dX11_put_86 : decode cX11_put 86 = .ok (.ireturn, 1) := by decide +kernel
theorem dX11_told_0 : decode cX11_told 0 = .ok (.aload_n 0, 1) := by decide +kernel
theorem dX11_told_1 : decode cX11_told 1 = .ok (.iload_n 1, 1) := by decide +kernel
theorem dX11_told_2 : decode cX11_told 2 = .ok (.invokevirtual 176, 3) := by decide +kernel
theorem dX11_told_5 : decode cX11_told 5 = .ok (.ifCond .ne 6, 3) := by decide +kernel
theorem dX11_told_8 : decode cX11_told 8 = .ok (.bipush (-5), 2) := by decide +kernel
theorem dX11_told_10 : decode cX11_told 10 = .ok (.ireturn, 1) := by decide +kernel
theorem dX11_told_11 : decode cX11_told 11 = .ok (.iload_n 2, 1) := by decide +kernel
theorem dX11_told_12 : decode cX11_told 12 = .ok (.tableswitch 60 0 3 #[32, 39, 46, 53], 32) := by decide +kernel
theorem dX11_told_44 : decode cX11_told 44 = .ok (.aload_n 0, 1) := by decide +kernel
theorem dX11_told_45 : decode cX11_told 45 = .ok (.getfield 16, 3) := by decide +kernel
theorem dX11_told_48 : decode cX11_told 48 = .ok (.iload_n 1, 1) := by decide +kernel
theorem dX11_told_49 : decode cX11_told 49 = .ok (.iaload, 1) := by decide +kernel
theorem dX11_told_50 : decode cX11_told 50 = .ok (.ireturn, 1) := by decide +kernel
theorem dX11_told_51 : decode cX11_told 51 = .ok (.aload_n 0, 1) := by decide +kernel
theorem dX11_told_52 : decode cX11_told 52 = .ok (.getfield 19, 3) := by decide +kernel
theorem dX11_told_55 : decode cX11_told 55 = .ok (.iload_n 1, 1) := by decide +kernel
theorem dX11_told_56 : decode cX11_told 56 = .ok (.iaload, 1) := by decide +kernel
theorem dX11_told_57 : decode cX11_told 57 = .ok (.ireturn, 1) := by decide +kernel
theorem dX11_told_58 : decode cX11_told 58 = .ok (.aload_n 0, 1) := by decide +kernel
theorem dX11_told_59 : decode cX11_told 59 = .ok (.getfield 7, 3) := by decide +kernel
theorem dX11_told_62 : decode cX11_told 62 = .ok (.iload_n 1, 1) := by decide +kernel
theorem dX11_told_63 : decode cX11_told 63 = .ok (.iaload, 1) := by decide +kernel
theorem dX11_told_64 : decode cX11_told 64 = .ok (.ireturn, 1) := by decide +kernel
theorem dX11_told_65 : decode cX11_told 65 = .ok (.aload_n 0, 1) := by decide +kernel
theorem dX11_told_66 : decode cX11_told 66 = .ok (.getfield 13, 3) := by decide +kernel
theorem dX11_told_69 : decode cX11_told 69 = .ok (.iload_n 1, 1) := by decide +kernel
theorem dX11_told_70 : decode cX11_told 70 = .ok (.iaload, 1) := by decide +kernel
theorem dX11_told_71 : decode cX11_told 71 = .ok (.ireturn, 1) := by decide +kernel
theorem dX11_told_72 : decode cX11_told 72 = .ok (.bipush (-7), 2) := by decide +kernel
theorem dX11_told_74 : decode cX11_told 74 = .ok (.ireturn, 1) := by decide +kernel
theorem dX11_leavesAt_0 : decode cX11_leavesAt 0 = .ok (.aload_n 0, 1) := by decide +kernel
theorem dX11_leavesAt_1 : decode cX11_leavesAt 1 = .ok (.getfield 7, 3) := by decide +kernel
theorem dX11_leavesAt_4 : decode cX11_leavesAt 4 = .ok (.iload_n 1, 1) := by decide +kernel
theorem dX11_leavesAt_5 : decode cX11_leavesAt 5 = .ok (.iaload, 1) := by decide +kernel
theorem dX11_leavesAt_6 : decode cX11_leavesAt 6 = .ok (.tableswitch 99 1 5 #[34, 46, 60, 81, 97], 34) := by decide +kernel
theorem dX11_leavesAt_40 : decode cX11_leavesAt 40 = .ok (.iload_n 3, 1) := by decide +kernel
theorem dX11_leavesAt_41 : decode cX11_leavesAt 41 = .ok (.ifCond .ne 7, 3) := by decide +kernel
theorem dX11_leavesAt_44 : decode cX11_leavesAt 44 = .ok (.iload_n 2, 1) := by decide +kernel
theorem dX11_leavesAt_45 : decode cX11_leavesAt 45 = .ok (.goto 6, 3) := by decide +kernel
theorem dX11_leavesAt_48 : decode cX11_leavesAt 48 = .ok (.iload_n 2, 1) := by decide +kernel
theorem dX11_leavesAt_49 : decode cX11_leavesAt 49 = .ok (.iconst 2, 1) := by decide +kernel
theorem dX11_leavesAt_50 : decode cX11_leavesAt 50 = .ok (.idiv, 1) := by decide +kernel
theorem dX11_leavesAt_51 : decode cX11_leavesAt 51 = .ok (.ireturn, 1) := by decide +kernel
theorem dX11_leavesAt_52 : decode cX11_leavesAt 52 = .ok (.iload_n 3, 1) := by decide +kernel
theorem dX11_leavesAt_53 : decode cX11_leavesAt 53 = .ok (.ifCond .ne 11, 3) := by decide +kernel
theorem dX11_leavesAt_56 : decode cX11_leavesAt 56 = .ok (.iload_n 2, 1) := by decide +kernel
theorem dX11_leavesAt_57 : decode cX11_leavesAt 57 = .ok (.ifCond .le 7, 3) := by decide +kernel
theorem dX11_leavesAt_60 : decode cX11_leavesAt 60 = .ok (.iconst 1, 1) := by decide +kernel
theorem dX11_leavesAt_61 : decode cX11_leavesAt 61 = .ok (.goto 4, 3) := by decide +kernel
theorem dX11_leavesAt_64 : decode cX11_leavesAt 64 = .ok (.iconst 0, 1) := by decide +kernel
theorem dX11_leavesAt_65 : decode cX11_leavesAt 65 = .ok (.ireturn, 1) := by decide +kernel
theorem dX11_leavesAt_66 : decode cX11_leavesAt 66 = .ok (.iload_n 3, 1) := by decide +kernel
theorem dX11_leavesAt_67 : decode cX11_leavesAt 67 = .ok (.ifCond .ne 16, 3) := by decide +kernel
theorem dX11_leavesAt_70 : decode cX11_leavesAt 70 = .ok (.iload_n 2, 1) := by decide +kernel
theorem dX11_leavesAt_71 : decode cX11_leavesAt 71 = .ok (.iconst 2, 1) := by decide +kernel
theorem dX11_leavesAt_72 : decode cX11_leavesAt 72 = .ok (.aload_n 0, 1) := by decide +kernel
theorem dX11_leavesAt_73 : decode cX11_leavesAt 73 = .ok (.getfield 13, 3) := by decide +kernel
theorem dX11_leavesAt_76 : decode cX11_leavesAt 76 = .ok (.iload_n 1, 1) := by decide +kernel
theorem dX11_leavesAt_77 : decode cX11_leavesAt 77 = .ok (.iaload, 1) := by decide +kernel
theorem dX11_leavesAt_78 : decode cX11_leavesAt 78 = .ok (.imul, 1) := by decide +kernel
theorem dX11_leavesAt_79 : decode cX11_leavesAt 79 = .ok (.iadd, 1) := by decide +kernel
theorem dX11_leavesAt_80 : decode cX11_leavesAt 80 = .ok (.goto 6, 3) := by decide +kernel
theorem dX11_leavesAt_83 : decode cX11_leavesAt 83 = .ok (.iload_n 2, 1) := by decide +kernel
theorem dX11_leavesAt_84 : decode cX11_leavesAt 84 = .ok (.iconst 2, 1) := by decide +kernel
theorem dX11_leavesAt_85 : decode cX11_leavesAt 85 = .ok (.idiv, 1) := by decide +kernel
theorem dX11_leavesAt_86 : decode cX11_leavesAt 86 = .ok (.ireturn, 1) := by decide +kernel
theorem dX11_leavesAt_87 : decode cX11_leavesAt 87 = .ok (.iload_n 3, 1) := by decide +kernel
theorem dX11_leavesAt_88 : decode cX11_leavesAt 88 = .ok (.ifCond .ne 13, 3) := by decide +kernel
theorem dX11_leavesAt_91 : decode cX11_leavesAt 91 = .ok (.aload_n 0, 1) := by decide +kernel
theorem dX11_leavesAt_92 : decode cX11_leavesAt 92 = .ok (.getfield 13, 3) := by decide +kernel
theorem dX11_leavesAt_95 : decode cX11_leavesAt 95 = .ok (.iload_n 1, 1) := by decide +kernel
theorem dX11_leavesAt_96 : decode cX11_leavesAt 96 = .ok (.iaload, 1) := by decide +kernel
theorem dX11_leavesAt_97 : decode cX11_leavesAt 97 = .ok (.ineg, 1) := by decide +kernel
theorem dX11_leavesAt_98 : decode cX11_leavesAt 98 = .ok (.goto 4, 3) := by decide +kernel
theorem dX11_leavesAt_101 : decode cX11_leavesAt 101 = .ok (.iconst 0, 1) := by decide +kernel
theorem dX11_leavesAt_102 : decode cX11_leavesAt 102 = .ok (.ireturn, 1) := by decide +kernel
theorem dX11_leavesAt_103 : decode cX11_leavesAt 103 = .ok (.iconst 0, 1) := by decide +kernel
theorem dX11_leavesAt_104 : decode cX11_leavesAt 104 = .ok (.ireturn, 1) := by decide +kernel
theorem dX11_leavesAt_105 : decode cX11_leavesAt 105 = .ok (.iload_n 3, 1) := by decide +kernel
theorem dX11_leavesAt_106 : decode cX11_leavesAt 106 = .ok (.ifCond .ne 7, 3) := by decide +kernel
theorem dX11_leavesAt_109 : decode cX11_leavesAt 109 = .ok (.iload_n 2, 1) := by decide +kernel
theorem dX11_leavesAt_110 : decode cX11_leavesAt 110 = .ok (.goto 4, 3) := by decide +kernel
theorem dX11_leavesAt_113 : decode cX11_leavesAt 113 = .ok (.iconst 0, 1) := by decide +kernel
theorem dX11_leavesAt_114 : decode cX11_leavesAt 114 = .ok (.ireturn, 1) := by decide +kernel
theorem dX11_wearsOf_0 : decode cX11_wearsOf 0 = .ok (.aload_n 0, 1) := by decide +kernel
theorem dX11_wearsOf_1 : decode cX11_wearsOf 1 = .ok (.iconst 1, 1) := by decide +kernel
theorem dX11_wearsOf_2 : decode cX11_wearsOf 2 = .ok (.iload_n 1, 1) := by decide +kernel
theorem dX11_wearsOf_3 : decode cX11_wearsOf 3 = .ok (.iload_n 2, 1) := by decide +kernel
theorem dX11_wearsOf_4 : decode cX11_wearsOf 4 = .ok (.invokevirtual 179, 3) := by decide +kernel
theorem dX11_wearsOf_7 : decode cX11_wearsOf 7 = .ok (.istore_n 3, 1) := by decide +kernel
theorem dX11_wearsOf_8 : decode cX11_wearsOf 8 = .ok (.aload_n 0, 1) := by decide +kernel
theorem dX11_wearsOf_9 : decode cX11_wearsOf 9 = .ok (.getfield 7, 3) := by decide +kernel
theorem dX11_wearsOf_12 : decode cX11_wearsOf 12 = .ok (.iload_n 1, 1) := by decide +kernel
theorem dX11_wearsOf_13 : decode cX11_wearsOf 13 = .ok (.iaload, 1) := by decide +kernel
theorem dX11_wearsOf_14 : decode cX11_wearsOf 14 = .ok (.tableswitch 60 2 5 #[30, 34, 30, 51], 30) := by decide +kernel
theorem dX11_wearsOf_44 : decode cX11_wearsOf 44 = .ok (.iload_n 3, 1) := by decide +kernel
theorem dX11_wearsOf_45 : decode cX11_wearsOf 45 = .ok (.iconst 2, 1) := by decide +kernel
theorem dX11_wearsOf_46 : decode cX11_wearsOf 46 = .ok (.idiv, 1) := by decide +kernel
theorem dX11_wearsOf_47 : decode cX11_wearsOf 47 = .ok (.ireturn, 1) := by decide +kernel
theorem dX11_wearsOf_48 : decode cX11_wearsOf 48 = .ok (.aload_n 0, 1) := by decide +kernel
theorem dX11_wearsOf_49 : decode cX11_wearsOf 49 = .ok (.getfield 22, 3) := by decide +kernel
theorem dX11_wearsOf_52 : decode cX11_wearsOf 52 = .ok (.iload_n 2, 1) := by decide +kernel
theorem dX11_wearsOf_53 : decode cX11_wearsOf 53 = .ok (.iaload, 1) := by decide +kernel
theorem dX11_wearsOf_54 : decode cX11_wearsOf 54 = .ok (.bipush 50, 2) := by decide +kernel
theorem dX11_wearsOf_56 : decode cX11_wearsOf 56 = .ok (.if_icmp .le 7, 3) := by decide +kernel
theorem dX11_wearsOf_59 : decode cX11_wearsOf 59 = .ok (.iconst 0, 1) := by decide +kernel
theorem dX11_wearsOf_60 : decode cX11_wearsOf 60 = .ok (.goto 4, 3) := by decide +kernel
theorem dX11_wearsOf_63 : decode cX11_wearsOf 63 = .ok (.iload_n 3, 1) := by decide +kernel
theorem dX11_wearsOf_64 : decode cX11_wearsOf 64 = .ok (.ireturn, 1) := by decide +kernel
theorem dX11_wearsOf_65 : decode cX11_wearsOf 65 = .ok (.iload_n 3, 1) := by decide +kernel
theorem dX11_wearsOf_66 : decode cX11_wearsOf 66 = .ok (.aload_n 0, 1) := by decide +kernel
theorem dX11_wearsOf_67 : decode cX11_wearsOf 67 = .ok (.getfield 13, 3) := by decide +kernel
theorem dX11_wearsOf_70 : decode cX11_wearsOf 70 = .ok (.iload_n 1, 1) := by decide +kernel
theorem dX11_wearsOf_71 : decode cX11_wearsOf 71 = .ok (.iaload, 1) := by decide +kernel
theorem dX11_wearsOf_72 : decode cX11_wearsOf 72 = .ok (.iadd, 1) := by decide +kernel
theorem dX11_wearsOf_73 : decode cX11_wearsOf 73 = .ok (.ireturn, 1) := by decide +kernel
theorem dX11_wearsOf_74 : decode cX11_wearsOf 74 = .ok (.iload_n 3, 1) := by decide +kernel
theorem dX11_wearsOf_75 : decode cX11_wearsOf 75 = .ok (.ireturn, 1) := by decide +kernel
theorem dX11_feelsOf_0 : decode cX11_feelsOf 0 = .ok (.aload_n 0, 1) := by decide +kernel
theorem dX11_feelsOf_1 : decode cX11_feelsOf 1 = .ok (.iconst 2, 1) := by decide +kernel
theorem dX11_feelsOf_2 : decode cX11_feelsOf 2 = .ok (.iload_n 1, 1) := by decide +kernel
theorem dX11_feelsOf_3 : decode cX11_feelsOf 3 = .ok (.iload_n 2, 1) := by decide +kernel
theorem dX11_feelsOf_4 : decode cX11_feelsOf 4 = .ok (.invokevirtual 179, 3) := by decide +kernel
theorem dX11_feelsOf_7 : decode cX11_feelsOf 7 = .ok (.istore_n 3, 1) := by decide +kernel
theorem dX11_feelsOf_8 : decode cX11_feelsOf 8 = .ok (.aload_n 0, 1) := by decide +kernel
theorem dX11_feelsOf_9 : decode cX11_feelsOf 9 = .ok (.getfield 7, 3) := by decide +kernel
theorem dX11_feelsOf_12 : decode cX11_feelsOf 12 = .ok (.iload_n 1, 1) := by decide +kernel
theorem dX11_feelsOf_13 : decode cX11_feelsOf 13 = .ok (.iaload, 1) := by decide +kernel
theorem dX11_feelsOf_14 : decode cX11_feelsOf 14 = .ok (.tableswitch 65 1 5 #[34, 43, 34, 47, 53], 34) := by decide +kernel
theorem dX11_feelsOf_48 : decode cX11_feelsOf 48 = .ok (.iload_n 3, 1) := by decide +kernel
theorem dX11_feelsOf_49 : decode cX11_feelsOf 49 = .ok (.aload_n 0, 1) := by decide +kernel
theorem dX11_feelsOf_50 : decode cX11_feelsOf 50 = .ok (.getfield 13, 3) := by decide +kernel
theorem dX11_feelsOf_53 : decode cX11_feelsOf 53 = .ok (.iload_n 1, 1) := by decide +kernel
theorem dX11_feelsOf_54 : decode cX11_feelsOf 54 = .ok (.iaload, 1) := by decide +kernel
theorem dX11_feelsOf_55 : decode cX11_feelsOf 55 = .ok (.iadd, 1) := by decide +kernel
theorem dX11_feelsOf_56 : decode cX11_feelsOf 56 = .ok (.ireturn, 1) := by decide +kernel
theorem dX11_feelsOf_57 : decode cX11_feelsOf 57 = .ok (.iconst 2, 1) := by decide +kernel
theorem dX11_feelsOf_58 : decode cX11_feelsOf 58 = .ok (.iload_n 3, 1) := by decide +kernel
theorem dX11_feelsOf_59 : decode cX11_feelsOf 59 = .ok (.imul, 1) := by decide +kernel
theorem dX11_feelsOf_60 : decode cX11_feelsOf 60 = .ok (.ireturn, 1) := by decide +kernel
theorem dX11_feelsOf_61 : decode cX11_feelsOf 61 = .ok (.iconst 2, 1) := by decide +kernel
theorem dX11_feelsOf_62 : decode cX11_feelsOf 62 = .ok (.iload_n 3, 1) := by decide +kernel
theorem dX11_feelsOf_63 : decode cX11_feelsOf 63 = .ok (.imul, 1) := by decide +kernel
theorem dX11_feelsOf_64 : decode cX11_feelsOf 64 = .ok (.iconst 4, 1) := by decide +kernel
theorem dX11_feelsOf_65 : decode cX11_feelsOf 65 = .ok (.idiv, 1) := by decide +kernel
theorem dX11_feelsOf_66 : decode cX11_feelsOf 66 = .ok (.ireturn, 1) := by decide +kernel
theorem dX11_feelsOf_67 : decode cX11_feelsOf 67 = .ok (.iload_n 3, 1) := by decide +kernel
theorem dX11_feelsOf_68 : decode cX11_feelsOf 68 = .ok (.bipush 10, 2) := by decide +kernel
theorem dX11_feelsOf_70 : decode cX11_feelsOf 70 = .ok (.if_icmp .ge 7, 3) := by decide +kernel
theorem dX11_feelsOf_73 : decode cX11_feelsOf 73 = .ok (.iconst 0, 1) := by decide +kernel
theorem dX11_feelsOf_74 : decode cX11_feelsOf 74 = .ok (.goto 4, 3) := by decide +kernel
theorem dX11_feelsOf_77 : decode cX11_feelsOf 77 = .ok (.iload_n 3, 1) := by decide +kernel
theorem dX11_feelsOf_78 : decode cX11_feelsOf 78 = .ok (.ireturn, 1) := by decide +kernel
theorem dX11_feelsOf_79 : decode cX11_feelsOf 79 = .ok (.iload_n 3, 1) := by decide +kernel
theorem dX11_feelsOf_80 : decode cX11_feelsOf 80 = .ok (.ireturn, 1) := by decide +kernel
theorem dX11_turnOf_0 : decode cX11_turnOf 0 = .ok (.aload_n 0, 1) := by decide +kernel
theorem dX11_turnOf_1 : decode cX11_turnOf 1 = .ok (.iconst 0, 1) := by decide +kernel
theorem dX11_turnOf_2 : decode cX11_turnOf 2 = .ok (.iload_n 1, 1) := by decide +kernel
theorem dX11_turnOf_3 : decode cX11_turnOf 3 = .ok (.aload_n 0, 1) := by decide +kernel
theorem dX11_turnOf_4 : decode cX11_turnOf 4 = .ok (.getfield 16, 3) := by decide +kernel
theorem dX11_turnOf_7 : decode cX11_turnOf 7 = .ok (.iload_n 1, 1) := by decide +kernel
theorem dX11_turnOf_8 : decode cX11_turnOf 8 = .ok (.iaload, 1) := by decide +kernel
theorem dX11_turnOf_9 : decode cX11_turnOf 9 = .ok (.invokevirtual 179, 3) := by decide +kernel
theorem dX11_turnOf_12 : decode cX11_turnOf 12 = .ok (.istore_n 2, 1) := by decide +kernel
theorem dX11_turnOf_13 : decode cX11_turnOf 13 = .ok (.iconst 0, 1) := by decide +kernel
theorem dX11_turnOf_14 : decode cX11_turnOf 14 = .ok (.istore_n 3, 1) := by decide +kernel
theorem dX11_turnOf_15 : decode cX11_turnOf 15 = .ok (.iload_n 3, 1) := by decide +kernel
theorem dX11_turnOf_16 : decode cX11_turnOf 16 = .ok (.bipush 36, 2) := by decide +kernel
theorem dX11_turnOf_18 : decode cX11_turnOf 18 = .ok (.if_icmp .ge 55, 3) := by decide +kernel
theorem dX11_turnOf_21 : decode cX11_turnOf 21 = .ok (.iload_n 3, 1) := by decide +kernel
theorem dX11_turnOf_22 : decode cX11_turnOf 22 = .ok (.aload_n 0, 1) := by decide +kernel
theorem dX11_turnOf_23 : decode cX11_turnOf 23 = .ok (.getfield 16, 3) := by decide +kernel
theorem dX11_turnOf_26 : decode cX11_turnOf 26 = .ok (.iload_n 1, 1) := by decide +kernel
theorem dX11_turnOf_27 : decode cX11_turnOf 27 = .ok (.iaload, 1) := by decide +kernel
theorem dX11_turnOf_28 : decode cX11_turnOf 28 = .ok (.invokestatic 182, 3) := by decide +kernel
theorem dX11_turnOf_31 : decode cX11_turnOf 31 = .ok (.istore 4, 2) := by decide +kernel
theorem dX11_turnOf_33 : decode cX11_turnOf 33 = .ok (.iload 4, 2) := by decide +kernel
theorem dX11_turnOf_35 : decode cX11_turnOf 35 = .ok (.iconst 2, 1) := by decide +kernel
theorem dX11_turnOf_36 : decode cX11_turnOf 36 = .ok (.if_icmp .ge 31, 3) := by decide +kernel
theorem dX11_turnOf_39 : decode cX11_turnOf 39 = .ok (.aload_n 0, 1) := by decide +kernel
theorem dX11_turnOf_40 : decode cX11_turnOf 40 = .ok (.getfield 22, 3) := by decide +kernel
theorem dX11_turnOf_43 : decode cX11_turnOf 43 = .ok (.iload_n 3, 1) := by decide +kernel
theorem dX11_turnOf_44 : decode cX11_turnOf 44 = .ok (.aload_n 0, 1) := by decide +kernel
theorem dX11_turnOf_45 : decode cX11_turnOf 45 = .ok (.getfield 22, 3) := by decide +kernel
theorem dX11_turnOf_48 : decode cX11_turnOf 48 = .ok (.iload_n 3, 1) := by decide +kernel
theorem dX11_turnOf_49 : decode cX11_turnOf 49 = .ok (.iaload, 1) := by decide +kernel
theorem dX11_turnOf_50 : decode cX11_turnOf 50 = .ok (.aload_n 0, 1) := by decide +kernel
theorem dX11_turnOf_51 : decode cX11_turnOf 51 = .ok (.iload_n 1, 1) := by decide +kernel
theorem dX11_turnOf_52 : decode cX11_turnOf 52 = .ok (.iload_n 2, 1) := by decide +kernel
theorem dX11_turnOf_53 : decode cX11_turnOf 53 = .ok (.iload 4, 2) := by decide +kernel
theorem dX11_turnOf_55 : decode cX11_turnOf 55 = .ok (.invokevirtual 185, 3) := by decide +kernel
theorem dX11_turnOf_58 : decode cX11_turnOf 58 = .ok (.iadd, 1) := by decide +kernel
theorem dX11_turnOf_59 : decode cX11_turnOf 59 = .ok (.iconst 0, 1) := by decide +kernel
theorem dX11_turnOf_60 : decode cX11_turnOf 60 = .ok (.sipush 999, 3) := by decide +kernel
theorem dX11_turnOf_63 : decode cX11_turnOf 63 = .ok (.invokestatic 173, 3) := by decide +kernel
theorem dX11_turnOf_66 : decode cX11_turnOf 66 = .ok (.iastore, 1) := by decide +kernel
theorem dX11_turnOf_67 : decode cX11_turnOf 67 = .ok (.iinc 3 1, 3) := by decide +kernel
theorem dX11_turnOf_70 : decode cX11_turnOf 70 = .ok (.goto (-55), 3) := by decide +kernel
theorem dX11_turnOf_73 : decode cX11_turnOf 73 = .ok (.return_, 1) := by decide +kernel
theorem dX11_dayBut_0 : decode cX11_dayBut 0 = .ok (.iconst 0, 1) := by decide +kernel
theorem dX11_dayBut_1 : decode cX11_dayBut 1 = .ok (.istore_n 2, 1) := by decide +kernel
theorem dX11_dayBut_2 : decode cX11_dayBut 2 = .ok (.iload_n 2, 1) := by decide +kernel
theorem dX11_dayBut_3 : decode cX11_dayBut 3 = .ok (.aload_n 0, 1) := by decide +kernel
theorem dX11_dayBut_4 : decode cX11_dayBut 4 = .ok (.getfield 81, 3) := by decide +kernel
theorem dX11_dayBut_7 : decode cX11_dayBut 7 = .ok (.if_icmp .ge 19, 3) := by decide +kernel
theorem dX11_dayBut_10 : decode cX11_dayBut 10 = .ok (.iload_n 2, 1) := by decide +kernel
theorem dX11_dayBut_11 : decode cX11_dayBut 11 = .ok (.iload_n 1, 1) := by decide +kernel
theorem dX11_dayBut_12 : decode cX11_dayBut 12 = .ok (.if_icmp .eq 8, 3) := by decide +kernel
theorem dX11_dayBut_15 : decode cX11_dayBut 15 = .ok (.aload_n 0, 1) := by decide +kernel
theorem dX11_dayBut_16 : decode cX11_dayBut 16 = .ok (.iload_n 2, 1) := by decide +kernel
theorem dX11_dayBut_17 : decode cX11_dayBut 17 = .ok (.invokevirtual 188, 3) := by decide +kernel
theorem dX11_dayBut_20 : decode cX11_dayBut 20 = .ok (.iinc 2 1, 3) := by decide +kernel
theorem dX11_dayBut_23 : decode cX11_dayBut 23 = .ok (.goto (-21), 3) := by decide +kernel
theorem dX11_dayBut_26 : decode cX11_dayBut 26 = .ok (.aload_n 0, 1) := by decide +kernel
theorem dX11_dayBut_27 : decode cX11_dayBut 27 = .ok (.dup, 1) := by decide +kernel
theorem dX11_dayBut_28 : decode cX11_dayBut 28 = .ok (.getfield 92, 3) := by decide +kernel
theorem dX11_dayBut_31 : decode cX11_dayBut 31 = .ok (.iconst 1, 1) := by decide +kernel
theorem dX11_dayBut_32 : decode cX11_dayBut 32 = .ok (.iadd, 1) := by decide +kernel
theorem dX11_dayBut_33 : decode cX11_dayBut 33 = .ok (.putfield 92, 3) := by decide +kernel
theorem dX11_dayBut_36 : decode cX11_dayBut 36 = .ok (.return_, 1) := by decide +kernel
theorem dX11_day_0 : decode cX11_day 0 = .ok (.aload_n 0, 1) := by decide +kernel
theorem dX11_day_1 : decode cX11_day 1 = .ok (.getfield 92, 3) := by decide +kernel
theorem dX11_day_4 : decode cX11_day 4 = .ok (.sipush 999, 3) := by decide +kernel
theorem dX11_day_7 : decode cX11_day 7 = .ok (.if_icmp .ne 6, 3) := by decide +kernel
theorem dX11_day_10 : decode cX11_day 10 = .ok (.bipush (-3), 2) := by decide +kernel
theorem dX11_day_12 : decode cX11_day 12 = .ok (.ireturn, 1) := by decide +kernel
theorem dX11_day_13 : decode cX11_day 13 = .ok (.aload_n 0, 1) := by decide +kernel
theorem dX11_day_14 : decode cX11_day 14 = .ok (.iconst (-1), 1) := by decide +kernel
theorem dX11_day_15 : decode cX11_day 15 = .ok (.invokevirtual 191, 3) := by decide +kernel
theorem dX11_day_18 : decode cX11_day 18 = .ok (.aload_n 0, 1) := by decide +kernel
theorem dX11_day_19 : decode cX11_day 19 = .ok (.invokevirtual 95, 3) := by decide +kernel
theorem dX11_day_22 : decode cX11_day 22 = .ok (.ireturn, 1) := by decide +kernel
theorem dX11_leaves_0 : decode cX11_leaves 0 = .ok (.aload_n 0, 1) := by decide +kernel
theorem dX11_leaves_1 : decode cX11_leaves 1 = .ok (.iload_n 1, 1) := by decide +kernel
theorem dX11_leaves_2 : decode cX11_leaves 2 = .ok (.invokevirtual 176, 3) := by decide +kernel
theorem dX11_leaves_5 : decode cX11_leaves 5 = .ok (.ifCond .ne 7, 3) := by decide +kernel
theorem dX11_leaves_8 : decode cX11_leaves 8 = .ok (.sipush (-1005), 3) := by decide +kernel
theorem dX11_leaves_11 : decode cX11_leaves 11 = .ok (.ireturn, 1) := by decide +kernel
theorem dX11_leaves_12 : decode cX11_leaves 12 = .ok (.iload_n 2, 1) := by decide +kernel
theorem dX11_leaves_13 : decode cX11_leaves 13 = .ok (.invokestatic 104, 3) := by decide +kernel
theorem dX11_leaves_16 : decode cX11_leaves 16 = .ok (.ifCond .eq 12, 3) := by decide +kernel
theorem dX11_leaves_19 : decode cX11_leaves 19 = .ok (.iload_n 3, 1) := by decide +kernel
theorem dX11_leaves_20 : decode cX11_leaves 20 = .ok (.iconst 0, 1) := by decide +kernel
theorem dX11_leaves_21 : decode cX11_leaves 21 = .ok (.iconst 1, 1) := by decide +kernel
theorem dX11_leaves_22 : decode cX11_leaves 22 = .ok (.invokestatic 84, 3) := by decide +kernel
theorem dX11_leaves_25 : decode cX11_leaves 25 = .ok (.ifCond .ne 7, 3) := by decide +kernel
theorem dX11_leaves_28 : decode cX11_leaves 28 = .ok (.sipush (-1007), 3) := by decide +kernel
theorem dX11_leaves_31 : decode cX11_leaves 31 = .ok (.ireturn, 1) := by decide +kernel
theorem dX11_leaves_32 : decode cX11_leaves 32 = .ok (.aload_n 0, 1) := by decide +kernel
theorem dX11_leaves_33 : decode cX11_leaves 33 = .ok (.iconst 0, 1) := by decide +kernel
theorem dX11_leaves_34 : decode cX11_leaves 34 = .ok (.iload_n 1, 1) := by decide +kernel
theorem dX11_leaves_35 : decode cX11_leaves 35 = .ok (.aload_n 0, 1) := by decide +kernel
theorem dX11_leaves_36 : decode cX11_leaves 36 = .ok (.getfield 16, 3) := by decide +kernel
theorem dX11_leaves_39 : decode cX11_leaves 39 = .ok (.iload_n 1, 1) := by decide +kernel
theorem dX11_leaves_40 : decode cX11_leaves 40 = .ok (.iaload, 1) := by decide +kernel
theorem dX11_leaves_41 : decode cX11_leaves 41 = .ok (.invokevirtual 179, 3) := by decide +kernel
theorem dX11_leaves_44 : decode cX11_leaves 44 = .ok (.istore 4, 2) := by decide +kernel
theorem dX11_leaves_46 : decode cX11_leaves 46 = .ok (.iload_n 2, 1) := by decide +kernel
theorem dX11_leaves_47 : decode cX11_leaves 47 = .ok (.aload_n 0, 1) := by decide +kernel
theorem dX11_leaves_48 : decode cX11_leaves 48 = .ok (.getfield 16, 3) := by decide +kernel
theorem dX11_leaves_51 : decode cX11_leaves 51 = .ok (.iload_n 1, 1) := by decide +kernel
theorem dX11_leaves_52 : decode cX11_leaves 52 = .ok (.iaload, 1) := by decide +kernel
theorem dX11_leaves_53 : decode cX11_leaves 53 = .ok (.invokestatic 182, 3) := by decide +kernel
theorem dX11_leaves_56 : decode cX11_leaves 56 = .ok (.istore 5, 2) := by decide +kernel
theorem dX11_leaves_58 : decode cX11_leaves 58 = .ok (.iload_n 3, 1) := by decide +kernel
theorem dX11_leaves_59 : decode cX11_leaves 59 = .ok (.ifCond .ne 23, 3) := by decide +kernel
theorem dX11_leaves_62 : decode cX11_leaves 62 = .ok (.iload 5, 2) := by decide +kernel
theorem dX11_leaves_64 : decode cX11_leaves 64 = .ok (.iconst 2, 1) := by decide +kernel
theorem dX11_leaves_65 : decode cX11_leaves 65 = .ok (.if_icmp .ge 15, 3) := by decide +kernel
theorem dX11_leaves_68 : decode cX11_leaves 68 = .ok (.aload_n 0, 1) := by decide +kernel
theorem dX11_leaves_69 : decode cX11_leaves 69 = .ok (.iload_n 1, 1) := by decide +kernel
theorem dX11_leaves_70 : decode cX11_leaves 70 = .ok (.iload 4, 2) := by decide +kernel
theorem dX11_leaves_72 : decode cX11_leaves 72 = .ok (.iload 5, 2) := by decide +kernel
theorem dX11_leaves_74 : decode cX11_leaves 74 = .ok (.invokevirtual 185, 3) := by decide +kernel
theorem dX11_leaves_77 : decode cX11_leaves 77 = .ok (.goto 4, 3) := by decide +kernel
theorem dX11_leaves_80 : decode cX11_leaves 80 = .ok (.iconst 0, 1) := by decide +kernel
theorem dX11_leaves_81 : decode cX11_leaves 81 = .ok (.ireturn, 1) := by decide +kernel
theorem dX11_leaves_82 : decode cX11_leaves 82 = .ok (.iconst 0, 1) := by decide +kernel
theorem dX11_leaves_83 : decode cX11_leaves 83 = .ok (.istore 6, 2) := by decide +kernel
theorem dX11_leaves_85 : decode cX11_leaves 85 = .ok (.iconst 0, 1) := by decide +kernel
theorem dX11_leaves_86 : decode cX11_leaves 86 = .ok (.istore 7, 2) := by decide +kernel
theorem dX11_leaves_88 : decode cX11_leaves 88 = .ok (.iload 7, 2) := by decide +kernel
theorem dX11_leaves_90 : decode cX11_leaves 90 = .ok (.bipush 36, 2) := by decide +kernel
theorem dX11_leaves_92 : decode cX11_leaves 92 = .ok (.if_icmp .ge 46, 3) := by decide +kernel
theorem dX11_leaves_95 : decode cX11_leaves 95 = .ok (.iload 7, 2) := by decide +kernel
theorem dX11_leaves_97 : decode cX11_leaves 97 = .ok (.aload_n 0, 1) := by decide +kernel
theorem dX11_leaves_98 : decode cX11_leaves 98 = .ok (.getfield 16, 3) := by decide +kernel
theorem dX11_leaves_101 : decode cX11_leaves 101 = .ok (.iload_n 1, 1) := by decide +kernel
theorem dX11_leaves_102 : decode cX11_leaves 102 = .ok (.iaload, 1) := by decide +kernel
theorem dX11_leaves_103 : decode cX11_leaves 103 = .ok (.invokestatic 182, 3) := by decide +kernel
theorem dX11_leaves_106 : decode cX11_leaves 106 = .ok (.istore 8, 2) := by decide +kernel
theorem dX11_leaves_108 : decode cX11_leaves 108 = .ok (.iload 6, 2) := by decide +kernel
theorem dX11_leaves_110 : decode cX11_leaves 110 = .ok (.iload 8, 2) := by decide +kernel
theorem dX11_leaves_112 : decode cX11_leaves 112 = .ok (.iconst 2, 1) := by decide +kernel
theorem dX11_leaves_113 : decode cX11_leaves 113 = .ok (.if_icmp .ge 15, 3) := by decide +kernel
theorem dX11_leaves_116 : decode cX11_leaves 116 = .ok (.aload_n 0, 1) := by decide +kernel
theorem dX11_leaves_117 : decode cX11_leaves 117 = .ok (.iload_n 1, 1) := by decide +kernel
theorem dX11_leaves_118 : decode cX11_leaves 118 = .ok (.iload 4, 2) := by decide +kernel
theorem dX11_leaves_120 : decode cX11_leaves 120 = .ok (.iload 8, 2) := by decide +kernel
theorem dX11_leaves_122 : decode cX11_leaves 122 = .ok (.invokevirtual 185, 3) := by decide +kernel
theorem dX11_leaves_125 : decode cX11_leaves 125 = .ok (.goto 4, 3) := by decide +kernel
theorem dX11_leaves_128 : decode cX11_leaves 128 = .ok (.iconst 0, 1) := by decide +kernel
theorem dX11_leaves_129 : decode cX11_leaves 129 = .ok (.iadd, 1) := by decide +kernel
theorem dX11_leaves_130 : decode cX11_leaves 130 = .ok (.istore 6, 2) := by decide +kernel
theorem dX11_leaves_132 : decode cX11_leaves 132 = .ok (.iinc 7 1, 3) := by decide +kernel
theorem dX11_leaves_135 : decode cX11_leaves 135 = .ok (.goto (-47), 3) := by decide +kernel
theorem dX11_leaves_138 : decode cX11_leaves 138 = .ok (.iload 6, 2) := by decide +kernel
theorem dX11_leaves_140 : decode cX11_leaves 140 = .ok (.ireturn, 1) := by decide +kernel
theorem dX11_keeps_0 : decode cX11_keeps 0 = .ok (.iconst 0, 1) := by decide +kernel
theorem dX11_keeps_1 : decode cX11_keeps 1 = .ok (.istore_n 1, 1) := by decide +kernel
theorem dX11_keeps_2 : decode cX11_keeps 2 = .ok (.iload_n 1, 1) := by decide +kernel
theorem dX11_keeps_3 : decode cX11_keeps 3 = .ok (.bipush 36, 2) := by decide +kernel
theorem dX11_keeps_5 : decode cX11_keeps 5 = .ok (.if_icmp .ge 21, 3) := by decide +kernel
theorem dX11_keeps_8 : decode cX11_keeps 8 = .ok (.aload_n 0, 1) := by decide +kernel
theorem dX11_keeps_9 : decode cX11_keeps 9 = .ok (.getfield 64, 3) := by decide +kernel
theorem dX11_keeps_12 : decode cX11_keeps 12 = .ok (.iload_n 1, 1) := by decide +kernel
theorem dX11_keeps_13 : decode cX11_keeps 13 = .ok (.aload_n 0, 1) := by decide +kernel
theorem dX11_keeps_14 : decode cX11_keeps 14 = .ok (.getfield 22, 3) := by decide +kernel
theorem dX11_keeps_17 : decode cX11_keeps 17 = .ok (.iload_n 1, 1) := by decide +kernel
theorem dX11_keeps_18 : decode cX11_keeps 18 = .ok (.iaload, 1) := by decide +kernel
theorem dX11_keeps_19 : decode cX11_keeps 19 = .ok (.iastore, 1) := by decide +kernel
theorem dX11_keeps_20 : decode cX11_keeps 20 = .ok (.iinc 1 1, 3) := by decide +kernel
theorem dX11_keeps_23 : decode cX11_keeps 23 = .ok (.goto (-21), 3) := by decide +kernel
theorem dX11_keeps_26 : decode cX11_keeps 26 = .ok (.aload_n 0, 1) := by decide +kernel
theorem dX11_keeps_27 : decode cX11_keeps 27 = .ok (.getfield 64, 3) := by decide +kernel
theorem dX11_keeps_30 : decode cX11_keeps 30 = .ok (.bipush 36, 2) := by decide +kernel
theorem dX11_keeps_32 : decode cX11_keeps 32 = .ok (.aload_n 0, 1) := by decide +kernel
theorem dX11_keeps_33 : decode cX11_keeps 33 = .ok (.getfield 92, 3) := by decide +kernel
theorem dX11_keeps_36 : decode cX11_keeps 36 = .ok (.iastore, 1) := by decide +kernel
theorem dX11_keeps_37 : decode cX11_keeps 37 = .ok (.return_, 1) := by decide +kernel
theorem dX11_lays_0 : decode cX11_lays 0 = .ok (.iconst 0, 1) := by decide +kernel
theorem dX11_lays_1 : decode cX11_lays 1 = .ok (.istore_n 1, 1) := by decide +kernel
theorem dX11_lays_2 : decode cX11_lays 2 = .ok (.iload_n 1, 1) := by decide +kernel
theorem dX11_lays_3 : decode cX11_lays 3 = .ok (.bipush 36, 2) := by decide +kernel
theorem dX11_lays_5 : decode cX11_lays 5 = .ok (.if_icmp .ge 21, 3) := by decide +kernel
theorem dX11_lays_8 : decode cX11_lays 8 = .ok (.aload_n 0, 1) := by decide +kernel
theorem dX11_lays_9 : decode cX11_lays 9 = .ok (.getfield 22, 3) := by decide +kernel
theorem dX11_lays_12 : decode cX11_lays 12 = .ok (.iload_n 1, 1) := by decide +kernel
theorem dX11_lays_13 : decode cX11_lays 13 = .ok (.aload_n 0, 1) := by decide +kernel
theorem dX11_lays_14 : decode cX11_lays 14 = .ok (.getfield 64, 3) := by decide +kernel
theorem dX11_lays_17 : decode cX11_lays 17 = .ok (.iload_n 1, 1) := by decide +kernel
theorem dX11_lays_18 : decode cX11_lays 18 = .ok (.iaload, 1) := by decide +kernel
theorem dX11_lays_19 : decode cX11_lays 19 = .ok (.iastore, 1) := by decide +kernel
theorem dX11_lays_20 : decode cX11_lays 20 = .ok (.iinc 1 1, 3) := by decide +kernel
theorem dX11_lays_23 : decode cX11_lays 23 = .ok (.goto (-21), 3) := by decide +kernel
theorem dX11_lays_26 : decode cX11_lays 26 = .ok (.aload_n 0, 1) := by decide +kernel
theorem dX11_lays_27 : decode cX11_lays 27 = .ok (.aload_n 0, 1) := by decide +kernel
theorem dX11_lays_28 : decode cX11_lays 28 = .ok (.getfield 64, 3) := by decide +kernel
theorem dX11_lays_31 : decode cX11_lays 31 = .ok (.bipush 36, 2) := by decide +kernel
theorem dX11_lays_33 : decode cX11_lays 33 = .ok (.iaload, 1) := by decide +kernel
theorem dX11_lays_34 : decode cX11_lays 34 = .ok (.putfield 92, 3) := by decide +kernel
theorem dX11_lays_37 : decode cX11_lays 37 = .ok (.return_, 1) := by decide +kernel
theorem dX11_run_0 : decode cX11_run 0 = .ok (.iload_n 1, 1) := by decide +kernel
theorem dX11_run_1 : decode cX11_run 1 = .ok (.iconst 0, 1) := by decide +kernel
theorem dX11_run_2 : decode cX11_run 2 = .ok (.bipush 40, 2) := by decide +kernel
theorem dX11_run_4 : decode cX11_run 4 = .ok (.invokestatic 84, 3) := by decide +kernel
theorem dX11_run_7 : decode cX11_run 7 = .ok (.ifCond .eq 13, 3) := by decide +kernel
theorem dX11_run_10 : decode cX11_run 10 = .ok (.iload_n 2, 1) := by decide +kernel
theorem dX11_run_11 : decode cX11_run 11 = .ok (.iconst 0, 1) := by decide +kernel
theorem dX11_run_12 : decode cX11_run 12 = .ok (.bipush 36, 2) := by decide +kernel
theorem dX11_run_14 : decode cX11_run 14 = .ok (.invokestatic 84, 3) := by decide +kernel
theorem dX11_run_17 : decode cX11_run 17 = .ok (.ifCond .ne 6, 3) := by decide +kernel
theorem dX11_run_20 : decode cX11_run 20 = .ok (.bipush (-2), 2) := by decide +kernel
theorem dX11_run_22 : decode cX11_run 22 = .ok (.ireturn, 1) := by decide +kernel
theorem dX11_run_23 : decode cX11_run 23 = .ok (.aload_n 0, 1) := by decide +kernel
theorem dX11_run_24 : decode cX11_run 24 = .ok (.invokevirtual 194, 3) := by decide +kernel
theorem dX11_run_27 : decode cX11_run 27 = .ok (.iconst 0, 1) := by decide +kernel
theorem dX11_run_28 : decode cX11_run 28 = .ok (.istore_n 3, 1) := by decide +kernel
theorem dX11_run_29 : decode cX11_run 29 = .ok (.iload_n 3, 1) := by decide +kernel
theorem dX11_run_30 : decode cX11_run 30 = .ok (.iload_n 1, 1) := by decide +kernel
theorem dX11_run_31 : decode cX11_run 31 = .ok (.if_icmp .ge 14, 3) := by decide +kernel
theorem dX11_run_34 : decode cX11_run 34 = .ok (.aload_n 0, 1) := by decide +kernel
theorem dX11_run_35 : decode cX11_run 35 = .ok (.iconst (-1), 1) := by decide +kernel
theorem dX11_run_36 : decode cX11_run 36 = .ok (.invokevirtual 191, 3) := by decide +kernel
theorem dX11_run_39 : decode cX11_run 39 = .ok (.iinc 3 1, 3) := by decide +kernel
theorem dX11_run_42 : decode cX11_run 42 = .ok (.goto (-13), 3) := by decide +kernel
theorem dX11_run_45 : decode cX11_run 45 = .ok (.iload_n 2, 1) := by decide +kernel
theorem dX11_run_46 : decode cX11_run 46 = .ok (.bipush 36, 2) := by decide +kernel
theorem dX11_run_48 : decode cX11_run 48 = .ok (.if_icmp .ne 10, 3) := by decide +kernel
theorem dX11_run_51 : decode cX11_run 51 = .ok (.aload_n 0, 1) := by decide +kernel
theorem dX11_run_52 : decode cX11_run 52 = .ok (.invokevirtual 95, 3) := by decide +kernel
theorem dX11_run_55 : decode cX11_run 55 = .ok (.goto 15, 3) := by decide +kernel
theorem dX11_run_58 : decode cX11_run 58 = .ok (.aload_n 0, 1) := by decide +kernel
theorem dX11_run_59 : decode cX11_run 59 = .ok (.getfield 22, 3) := by decide +kernel
theorem dX11_run_62 : decode cX11_run 62 = .ok (.iload_n 2, 1) := by decide +kernel
theorem dX11_run_63 : decode cX11_run 63 = .ok (.iconst 0, 1) := by decide +kernel
theorem dX11_run_64 : decode cX11_run 64 = .ok (.bipush 35, 2) := by decide +kernel
theorem dX11_run_66 : decode cX11_run 66 = .ok (.invokestatic 173, 3) := by decide +kernel
theorem dX11_run_69 : decode cX11_run 69 = .ok (.iaload, 1) := by decide +kernel
theorem dX11_run_70 : decode cX11_run 70 = .ok (.istore_n 3, 1) := by decide +kernel
theorem dX11_run_71 : decode cX11_run 71 = .ok (.aload_n 0, 1) := by decide +kernel
theorem dX11_run_72 : decode cX11_run 72 = .ok (.invokevirtual 197, 3) := by decide +kernel
theorem dX11_run_75 : decode cX11_run 75 = .ok (.iload_n 3, 1) := by decide +kernel
theorem dX11_run_76 : decode cX11_run 76 = .ok (.ireturn, 1) := by decide +kernel
theorem dX11_sinks_0 : decode cX11_sinks 0 = .ok (.iload_n 1, 1) := by decide +kernel
theorem dX11_sinks_1 : decode cX11_sinks 1 = .ok (.invokestatic 104, 3) := by decide +kernel
theorem dX11_sinks_4 : decode cX11_sinks 4 = .ok (.ifCond .ne 6, 3) := by decide +kernel
theorem dX11_sinks_7 : decode cX11_sinks 7 = .ok (.bipush (-5), 2) := by decide +kernel
theorem dX11_sinks_9 : decode cX11_sinks 9 = .ok (.ireturn, 1) := by decide +kernel
theorem dX11_sinks_10 : decode cX11_sinks 10 = .ok (.iload_n 2, 1) := by decide +kernel
theorem dX11_sinks_11 : decode cX11_sinks 11 = .ok (.iconst 0, 1) := by decide +kernel
theorem dX11_sinks_12 : decode cX11_sinks 12 = .ok (.sipush 999, 3) := by decide +kernel
theorem dX11_sinks_15 : decode cX11_sinks 15 = .ok (.invokestatic 84, 3) := by decide +kernel
theorem dX11_sinks_18 : decode cX11_sinks 18 = .ok (.ifCond .ne 6, 3) := by decide +kernel
theorem dX11_sinks_21 : decode cX11_sinks 21 = .ok (.bipush (-7), 2) := by decide +kernel
theorem dX11_sinks_23 : decode cX11_sinks 23 = .ok (.ireturn, 1) := by decide +kernel
theorem dX11_sinks_24 : decode cX11_sinks 24 = .ok (.iconst (-1), 1) := by decide +kernel
theorem dX11_sinks_25 : decode cX11_sinks 25 = .ok (.istore_n 3, 1) := by decide +kernel
theorem dX11_sinks_26 : decode cX11_sinks 26 = .ok (.aload_n 0, 1) := by decide +kernel
theorem dX11_sinks_27 : decode cX11_sinks 27 = .ok (.invokevirtual 194, 3) := by decide +kernel
theorem dX11_sinks_30 : decode cX11_sinks 30 = .ok (.iconst 0, 1) := by decide +kernel
theorem dX11_sinks_31 : decode cX11_sinks 31 = .ok (.istore 4, 2) := by decide +kernel
theorem dX11_sinks_33 : decode cX11_sinks 33 = .ok (.iload 4, 2) := by decide +kernel
theorem dX11_sinks_35 : decode cX11_sinks 35 = .ok (.bipush 40, 2) := by decide +kernel
theorem dX11_sinks_37 : decode cX11_sinks 37 = .ok (.if_icmp .gt 36, 3) := by decide +kernel
theorem dX11_sinks_40 : decode cX11_sinks 40 = .ok (.iload_n 3, 1) := by decide +kernel
theorem dX11_sinks_41 : decode cX11_sinks 41 = .ok (.iconst (-1), 1) := by decide +kernel
theorem dX11_sinks_42 : decode cX11_sinks 42 = .ok (.if_icmp .ne 31, 3) := by decide +kernel
theorem dX11_sinks_45 : decode cX11_sinks 45 = .ok (.aload_n 0, 1) := by decide +kernel
theorem dX11_sinks_46 : decode cX11_sinks 46 = .ok (.getfield 22, 3) := by decide +kernel
theorem dX11_sinks_49 : decode cX11_sinks 49 = .ok (.iload_n 1, 1) := by decide +kernel
theorem dX11_sinks_50 : decode cX11_sinks 50 = .ok (.iaload, 1) := by decide +kernel
theorem dX11_sinks_51 : decode cX11_sinks 51 = .ok (.iload_n 2, 1) := by decide +kernel
theorem dX11_sinks_52 : decode cX11_sinks 52 = .ok (.if_icmp .lt 8, 3) := by decide +kernel
theorem dX11_sinks_55 : decode cX11_sinks 55 = .ok (.iload 4, 2) := by decide +kernel
theorem dX11_sinks_57 : decode cX11_sinks 57 = .ok (.goto 4, 3) := by decide +kernel
theorem dX11_sinks_60 : decode cX11_sinks 60 = .ok (.iconst (-1), 1) := by decide +kernel
theorem dX11_sinks_61 : decode cX11_sinks 61 = .ok (.istore_n 3, 1) := by decide +kernel
theorem dX11_sinks_62 : decode cX11_sinks 62 = .ok (.aload_n 0, 1) := by decide +kernel
theorem dX11_sinks_63 : decode cX11_sinks 63 = .ok (.iconst (-1), 1) := by decide +kernel
theorem dX11_sinks_64 : decode cX11_sinks 64 = .ok (.invokevirtual 191, 3) := by decide +kernel
theorem dX11_sinks_67 : decode cX11_sinks 67 = .ok (.iinc 4 1, 3) := by decide +kernel
theorem dX11_sinks_70 : decode cX11_sinks 70 = .ok (.goto (-37), 3) := by decide +kernel
theorem dX11_sinks_73 : decode cX11_sinks 73 = .ok (.aload_n 0, 1) := by decide +kernel
theorem dX11_sinks_74 : decode cX11_sinks 74 = .ok (.invokevirtual 197, 3) := by decide +kernel
theorem dX11_sinks_77 : decode cX11_sinks 77 = .ok (.iload_n 3, 1) := by decide +kernel
theorem dX11_sinks_78 : decode cX11_sinks 78 = .ok (.ireturn, 1) := by decide +kernel
theorem dX11_walkWrong_0 : decode cX11_walkWrong 0 = .ok (.iload_n 1, 1) := by decide +kernel
theorem dX11_walkWrong_1 : decode cX11_walkWrong 1 = .ok (.iconst 0, 1) := by decide +kernel
theorem dX11_walkWrong_2 : decode cX11_walkWrong 2 = .ok (.iconst 3, 1) := by decide +kernel
theorem dX11_walkWrong_3 : decode cX11_walkWrong 3 = .ok (.invokestatic 84, 3) := by decide +kernel
theorem dX11_walkWrong_6 : decode cX11_walkWrong 6 = .ok (.ifCond .ne 6, 3) := by decide +kernel
theorem dX11_walkWrong_9 : decode cX11_walkWrong 9 = .ok (.bipush (-2), 2) := by decide +kernel
theorem dX11_walkWrong_11 : decode cX11_walkWrong 11 = .ok (.ireturn, 1) := by decide +kernel
theorem dX11_walkWrong_12 : decode cX11_walkWrong 12 = .ok (.aload_n 0, 1) := by decide +kernel
theorem dX11_walkWrong_13 : decode cX11_walkWrong 13 = .ok (.getfield 40, 3) := by decide +kernel
theorem dX11_walkWrong_16 : decode cX11_walkWrong 16 = .ok (.iload_n 1, 1) := by decide +kernel
theorem dX11_walkWrong_17 : decode cX11_walkWrong 17 = .ok (.iaload, 1) := by decide +kernel
theorem dX11_walkWrong_18 : decode cX11_walkWrong 18 = .ok (.iconst (-1), 1) := by decide +kernel
theorem dX11_walkWrong_19 : decode cX11_walkWrong 19 = .ok (.if_icmp .ne 6, 3) := by decide +kernel
theorem dX11_walkWrong_22 : decode cX11_walkWrong 22 = .ok (.bipush (-11), 2) := by decide +kernel
theorem dX11_walkWrong_24 : decode cX11_walkWrong 24 = .ok (.ireturn, 1) := by decide +kernel
theorem dX11_walkWrong_25 : decode cX11_walkWrong 25 = .ok (.iconst 0, 1) := by decide +kernel
theorem dX11_walkWrong_26 : decode cX11_walkWrong 26 = .ok (.istore_n 3, 1) := by decide +kernel
theorem dX11_walkWrong_27 : decode cX11_walkWrong 27 = .ok (.iload_n 3, 1) := by decide +kernel
theorem dX11_walkWrong_28 : decode cX11_walkWrong 28 = .ok (.aload_n 0, 1) := by decide +kernel
theorem dX11_walkWrong_29 : decode cX11_walkWrong 29 = .ok (.getfield 43, 3) := by decide +kernel
theorem dX11_walkWrong_32 : decode cX11_walkWrong 32 = .ok (.iload_n 1, 1) := by decide +kernel
theorem dX11_walkWrong_33 : decode cX11_walkWrong 33 = .ok (.iaload, 1) := by decide +kernel
theorem dX11_walkWrong_34 : decode cX11_walkWrong 34 = .ok (.if_icmp .ge 75, 3) := by decide +kernel
theorem dX11_walkWrong_37 : decode cX11_walkWrong 37 = .ok (.aload_n 0, 1) := by decide +kernel
theorem dX11_walkWrong_38 : decode cX11_walkWrong 38 = .ok (.getfield 46, 3) := by decide +kernel
theorem dX11_walkWrong_41 : decode cX11_walkWrong 41 = .ok (.bipush 40, 2) := by decide +kernel
theorem dX11_walkWrong_43 : decode cX11_walkWrong 43 = .ok (.iload_n 1, 1) := by decide +kernel
theorem dX11_walkWrong_44 : decode cX11_walkWrong 44 = .ok (.imul, 1) := by decide +kernel
theorem dX11_walkWrong_45 : decode cX11_walkWrong 45 = .ok (.iload_n 3, 1) := by decide +kernel
theorem dX11_walkWrong_46 : decode cX11_walkWrong 46 = .ok (.iadd, 1) := by decide +kernel
theorem dX11_walkWrong_47 : decode cX11_walkWrong 47 = .ok (.iaload, 1) := by decide +kernel
theorem dX11_walkWrong_48 : decode cX11_walkWrong 48 = .ok (.istore 4, 2) := by decide +kernel
theorem dX11_walkWrong_50 : decode cX11_walkWrong 50 = .ok (.iload 4, 2) := by decide +kernel
theorem dX11_walkWrong_52 : decode cX11_walkWrong 52 = .ok (.invokestatic 104, 3) := by decide +kernel
theorem dX11_walkWrong_55 : decode cX11_walkWrong 55 = .ok (.istore 5, 2) := by decide +kernel
theorem dX11_walkWrong_57 : decode cX11_walkWrong 57 = .ok (.iload 5, 2) := by decide +kernel
theorem dX11_walkWrong_59 : decode cX11_walkWrong 59 = .ok (.ifCond .eq 36, 3) := by decide +kernel
theorem dX11_walkWrong_62 : decode cX11_walkWrong 62 = .ok (.iload_n 3, 1) := by decide +kernel
theorem dX11_walkWrong_63 : decode cX11_walkWrong 63 = .ok (.ifCond .le 32, 3) := by decide +kernel
theorem dX11_walkWrong_66 : decode cX11_walkWrong 66 = .ok (.iload 4, 2) := by decide +kernel
theorem dX11_walkWrong_68 : decode cX11_walkWrong 68 = .ok (.aload_n 0, 1) := by decide +kernel
theorem dX11_walkWrong_69 : decode cX11_walkWrong 69 = .ok (.getfield 46, 3) := by decide +kernel
theorem dX11_walkWrong_72 : decode cX11_walkWrong 72 = .ok (.bipush 40, 2) := by decide +kernel
theorem dX11_walkWrong_74 : decode cX11_walkWrong 74 = .ok (.iload_n 1, 1) := by decide +kernel
theorem dX11_walkWrong_75 : decode cX11_walkWrong 75 = .ok (.imul, 1) := by decide +kernel
theorem dX11_walkWrong_76 : decode cX11_walkWrong 76 = .ok (.iload_n 3, 1) := by decide +kernel
theorem dX11_walkWrong_77 : decode cX11_walkWrong 77 = .ok (.iadd, 1) := by decide +kernel
theorem dX11_walkWrong_78 : decode cX11_walkWrong 78 = .ok (.iconst 1, 1) := by decide +kernel
theorem dX11_walkWrong_79 : decode cX11_walkWrong 79 = .ok (.isub, 1) := by decide +kernel
theorem dX11_walkWrong_80 : decode cX11_walkWrong 80 = .ok (.iaload, 1) := by decide +kernel
theorem dX11_walkWrong_81 : decode cX11_walkWrong 81 = .ok (.invokestatic 182, 3) := by decide +kernel
theorem dX11_walkWrong_84 : decode cX11_walkWrong 84 = .ok (.iconst 1, 1) := by decide +kernel
theorem dX11_walkWrong_85 : decode cX11_walkWrong 85 = .ok (.if_icmp .ne 7, 3) := by decide +kernel
theorem dX11_walkWrong_88 : decode cX11_walkWrong 88 = .ok (.iconst 1, 1) := by decide +kernel
theorem dX11_walkWrong_89 : decode cX11_walkWrong 89 = .ok (.goto 4, 3) := by decide +kernel
theorem dX11_walkWrong_92 : decode cX11_walkWrong 92 = .ok (.iconst 0, 1) := by decide +kernel
theorem dX11_walkWrong_93 : decode cX11_walkWrong 93 = .ok (.istore 5, 2) := by decide +kernel
theorem dX11_walkWrong_95 : decode cX11_walkWrong 95 = .ok (.iload 5, 2) := by decide +kernel
theorem dX11_walkWrong_97 : decode cX11_walkWrong 97 = .ok (.ifCond .ne 6, 3) := by decide +kernel
theorem dX11_walkWrong_100 : decode cX11_walkWrong 100 = .ok (.bipush (-2), 2) := by decide +kernel
theorem dX11_walkWrong_102 : decode cX11_walkWrong 102 = .ok (.ireturn, 1) := by decide +kernel
theorem dX11_walkWrong_103 : decode cX11_walkWrong 103 = .ok (.iinc 3 1, 3) := by decide +kernel
theorem dX11_walkWrong_106 : decode cX11_walkWrong 106 = .ok (.goto (-79), 3) := by decide +kernel
theorem dX11_walkWrong_109 : decode cX11_walkWrong 109 = .ok (.aload_n 0, 1) := by decide +kernel
theorem dX11_walkWrong_110 : decode cX11_walkWrong 110 = .ok (.iload_n 2, 1) := by decide +kernel
theorem dX11_walkWrong_111 : decode cX11_walkWrong 111 = .ok (.invokevirtual 176, 3) := by decide +kernel
theorem dX11_walkWrong_114 : decode cX11_walkWrong 114 = .ok (.ifCond .eq 7, 3) := by decide +kernel
theorem dX11_walkWrong_117 : decode cX11_walkWrong 117 = .ok (.iconst 0, 1) := by decide +kernel
theorem dX11_walkWrong_118 : decode cX11_walkWrong 118 = .ok (.goto 5, 3) := by decide +kernel
theorem dX11_walkWrong_121 : decode cX11_walkWrong 121 = .ok (.bipush (-5), 2) := by decide +kernel
theorem dX11_walkWrong_123 : decode cX11_walkWrong 123 = .ok (.ireturn, 1) := by decide +kernel
theorem dX11_walk_0 : decode cX11_walk 0 = .ok (.aload_n 0, 1) := by decide +kernel
theorem dX11_walk_1 : decode cX11_walk 1 = .ok (.iload_n 1, 1) := by decide +kernel
theorem dX11_walk_2 : decode cX11_walk 2 = .ok (.iload_n 2, 1) := by decide +kernel
theorem dX11_walk_3 : decode cX11_walk 3 = .ok (.invokevirtual 200, 3) := by decide +kernel
theorem dX11_walk_6 : decode cX11_walk 6 = .ok (.istore 4, 2) := by decide +kernel
theorem dX11_walk_8 : decode cX11_walk 8 = .ok (.iload 4, 2) := by decide +kernel
theorem dX11_walk_10 : decode cX11_walk 10 = .ok (.ifCond .eq 6, 3) := by decide +kernel
theorem dX11_walk_13 : decode cX11_walk 13 = .ok (.iload 4, 2) := by decide +kernel
theorem dX11_walk_15 : decode cX11_walk 15 = .ok (.ireturn, 1) := by decide +kernel
theorem dX11_walk_16 : decode cX11_walk 16 = .ok (.iload_n 3, 1) := by decide +kernel
theorem dX11_walk_17 : decode cX11_walk 17 = .ok (.iconst 0, 1) := by decide +kernel
theorem dX11_walk_18 : decode cX11_walk 18 = .ok (.iconst 3, 1) := by decide +kernel
theorem dX11_walk_19 : decode cX11_walk 19 = .ok (.invokestatic 84, 3) := by decide +kernel
theorem dX11_walk_22 : decode cX11_walk 22 = .ok (.ifCond .ne 6, 3) := by decide +kernel
theorem dX11_walk_25 : decode cX11_walk 25 = .ok (.bipush (-7), 2) := by decide +kernel
theorem dX11_walk_27 : decode cX11_walk 27 = .ok (.ireturn, 1) := by decide +kernel
theorem dX11_walk_28 : decode cX11_walk 28 = .ok (.iconst 0, 1) := by decide +kernel
theorem dX11_walk_29 : decode cX11_walk 29 = .ok (.istore 5, 2) := by decide +kernel
theorem dX11_walk_31 : decode cX11_walk 31 = .ok (.iconst 0, 1) := by decide +kernel
theorem dX11_walk_32 : decode cX11_walk 32 = .ok (.istore 6, 2) := by decide +kernel
theorem dX11_walk_34 : decode cX11_walk 34 = .ok (.iconst (-1), 1) := by decide +kernel
theorem dX11_walk_35 : decode cX11_walk 35 = .ok (.istore 7, 2) := by decide +kernel
theorem dX11_walk_37 : decode cX11_walk 37 = .ok (.iconst 0, 1) := by decide +kernel
theorem dX11_walk_38 : decode cX11_walk 38 = .ok (.istore 8, 2) := by decide +kernel
theorem dX11_walk_40 : decode cX11_walk 40 = .ok (.iconst 0, 1) := by decide +kernel
theorem dX11_walk_41 : decode cX11_walk 41 = .ok (.istore 9, 2) := by decide +kernel
theorem dX11_walk_43 : decode cX11_walk 43 = .ok (.iload 9, 2) := by decide +kernel
theorem dX11_walk_45 : decode cX11_walk 45 = .ok (.aload_n 0, 1) := by decide +kernel
theorem dX11_walk_46 : decode cX11_walk 46 = .ok (.getfield 43, 3) := by decide +kernel
theorem dX11_walk_49 : decode cX11_walk 49 = .ok (.iload_n 1, 1) := by decide +kernel
theorem dX11_walk_50 : decode cX11_walk 50 = .ok (.iaload, 1) := by decide +kernel
theorem dX11_walk_51 : decode cX11_walk 51 = .ok (.if_icmp .ge 88, 3) := by decide +kernel
theorem dX11_walk_54 : decode cX11_walk 54 = .ok (.aload_n 0, 1) := by decide +kernel
theorem dX11_walk_55 : decode cX11_walk 55 = .ok (.iload_n 2, 1) := by decide +kernel
theorem dX11_walk_56 : decode cX11_walk 56 = .ok (.aload_n 0, 1) := by decide +kernel
theorem dX11_walk_57 : decode cX11_walk 57 = .ok (.getfield 46, 3) := by decide +kernel
theorem dX11_walk_60 : decode cX11_walk 60 = .ok (.bipush 40, 2) := by decide +kernel
theorem dX11_walk_62 : decode cX11_walk 62 = .ok (.iload_n 1, 1) := by decide +kernel
theorem dX11_walk_63 : decode cX11_walk 63 = .ok (.imul, 1) := by decide +kernel
theorem dX11_walk_64 : decode cX11_walk 64 = .ok (.iload 9, 2) := by decide +kernel
theorem dX11_walk_66 : decode cX11_walk 66 = .ok (.iadd, 1) := by decide +kernel
theorem dX11_walk_67 : decode cX11_walk 67 = .ok (.iaload, 1) := by decide +kernel
theorem dX11_walk_68 : decode cX11_walk 68 = .ok (.invokevirtual 203, 3) := by decide +kernel
theorem dX11_walk_71 : decode cX11_walk 71 = .ok (.istore 10, 2) := by decide +kernel
theorem dX11_walk_73 : decode cX11_walk 73 = .ok (.iload 5, 2) := by decide +kernel
theorem dX11_walk_75 : decode cX11_walk 75 = .ok (.iload 10, 2) := by decide +kernel
theorem dX11_walk_77 : decode cX11_walk 77 = .ok (.iadd, 1) := by decide +kernel
theorem dX11_walk_78 : decode cX11_walk 78 = .ok (.istore 5, 2) := by decide +kernel
theorem dX11_walk_80 : decode cX11_walk 80 = .ok (.iload 8, 2) := by decide +kernel
theorem dX11_walk_82 : decode cX11_walk 82 = .ok (.iload 10, 2) := by decide +kernel
theorem dX11_walk_84 : decode cX11_walk 84 = .ok (.ifCond .ne 7, 3) := by decide +kernel
theorem dX11_walk_87 : decode cX11_walk 87 = .ok (.iconst 1, 1) := by decide +kernel
theorem dX11_walk_88 : decode cX11_walk 88 = .ok (.goto 4, 3) := by decide +kernel
theorem dX11_walk_91 : decode cX11_walk 91 = .ok (.iconst 0, 1) := by decide +kernel
theorem dX11_walk_92 : decode cX11_walk 92 = .ok (.iadd, 1) := by decide +kernel
theorem dX11_walk_93 : decode cX11_walk 93 = .ok (.istore 8, 2) := by decide +kernel
theorem dX11_walk_95 : decode cX11_walk 95 = .ok (.iload 7, 2) := by decide +kernel
theorem dX11_walk_97 : decode cX11_walk 97 = .ok (.iconst (-1), 1) := by decide +kernel
theorem dX11_walk_98 : decode cX11_walk 98 = .ok (.if_icmp .eq 10, 3) := by decide +kernel
theorem dX11_walk_101 : decode cX11_walk 101 = .ok (.iload 10, 2) := by decide +kernel
theorem dX11_walk_103 : decode cX11_walk 103 = .ok (.iload 6, 2) := by decide +kernel
theorem dX11_walk_105 : decode cX11_walk 105 = .ok (.if_icmp .le 8, 3) := by decide +kernel
theorem dX11_walk_108 : decode cX11_walk 108 = .ok (.iload 9, 2) := by decide +kernel
theorem dX11_walk_110 : decode cX11_walk 110 = .ok (.goto 5, 3) := by decide +kernel
theorem dX11_walk_113 : decode cX11_walk 113 = .ok (.iload 7, 2) := by decide +kernel
theorem dX11_walk_115 : decode cX11_walk 115 = .ok (.istore 7, 2) := by decide +kernel
theorem dX11_walk_117 : decode cX11_walk 117 = .ok (.iload 10, 2) := by decide +kernel
theorem dX11_walk_119 : decode cX11_walk 119 = .ok (.iload 6, 2) := by decide +kernel
theorem dX11_walk_121 : decode cX11_walk 121 = .ok (.if_icmp .le 8, 3) := by decide +kernel
theorem dX11_walk_124 : decode cX11_walk 124 = .ok (.iload 10, 2) := by decide +kernel
theorem dX11_walk_126 : decode cX11_walk 126 = .ok (.goto 5, 3) := by decide +kernel
theorem dX11_walk_129 : decode cX11_walk 129 = .ok (.iload 6, 2) := by decide +kernel
theorem dX11_walk_131 : decode cX11_walk 131 = .ok (.istore 6, 2) := by decide +kernel
theorem dX11_walk_133 : decode cX11_walk 133 = .ok (.iinc 9 1, 3) := by decide +kernel
theorem dX11_walk_136 : decode cX11_walk 136 = .ok (.goto (-93), 3) := by decide +kernel
theorem dX11_walk_139 : decode cX11_walk 139 = .ok (.iload_n 3, 1) := by decide +kernel
theorem dX11_walk_140 : decode cX11_walk 140 = .ok (.ifCond .ne 8, 3) := by decide +kernel
theorem dX11_walk_143 : decode cX11_walk 143 = .ok (.iload 5, 2) := by decide +kernel
theorem dX11_walk_145 : decode cX11_walk 145 = .ok (.goto 25, 3) := by decide +kernel
theorem dX11_walk_148 : decode cX11_walk 148 = .ok (.iload_n 3, 1) := by decide +kernel
theorem dX11_walk_149 : decode cX11_walk 149 = .ok (.iconst 1, 1) := by decide +kernel
theorem dX11_walk_150 : decode cX11_walk 150 = .ok (.if_icmp .ne 8, 3) := by decide +kernel
theorem dX11_walk_153 : decode cX11_walk 153 = .ok (.iload 6, 2) := by decide +kernel
theorem dX11_walk_155 : decode cX11_walk 155 = .ok (.goto 15, 3) := by decide +kernel
theorem dX11_walk_158 : decode cX11_walk 158 = .ok (.iload_n 3, 1) := by decide +kernel
theorem dX11_walk_159 : decode cX11_walk 159 = .ok (.iconst 2, 1) := by decide +kernel
theorem dX11_walk_160 : decode cX11_walk 160 = .ok (.if_icmp .ne 8, 3) := by decide +kernel
theorem dX11_walk_163 : decode cX11_walk 163 = .ok (.iload 7, 2) := by decide +kernel
theorem dX11_walk_165 : decode cX11_walk 165 = .ok (.goto 5, 3) := by decide +kernel
theorem dX11_walk_168 : decode cX11_walk 168 = .ok (.iload 8, 2) := by decide +kernel
theorem dX11_walk_170 : decode cX11_walk 170 = .ok (.ireturn, 1) := by decide +kernel
theorem dX11_wearsNow_0 : decode cX11_wearsNow 0 = .ok (.aload_n 0, 1) := by decide +kernel
theorem dX11_wearsNow_1 : decode cX11_wearsNow 1 = .ok (.iload_n 1, 1) := by decide +kernel
theorem dX11_wearsNow_2 : decode cX11_wearsNow 2 = .ok (.iload_n 2, 1) := by decide +kernel
theorem dX11_wearsNow_3 : decode cX11_wearsNow 3 = .ok (.invokevirtual 206, 3) := by decide +kernel
theorem dX11_wearsNow_6 : decode cX11_wearsNow 6 = .ok (.istore_n 3, 1) := by decide +kernel
theorem dX11_wearsNow_7 : decode cX11_wearsNow 7 = .ok (.iload_n 3, 1) := by decide +kernel
theorem dX11_wearsNow_8 : decode cX11_wearsNow 8 = .ok (.aload_n 0, 1) := by decide +kernel
theorem dX11_wearsNow_9 : decode cX11_wearsNow 9 = .ok (.getfield 22, 3) := by decide +kernel
theorem dX11_wearsNow_12 : decode cX11_wearsNow 12 = .ok (.iload_n 2, 1) := by decide +kernel
theorem dX11_wearsNow_13 : decode cX11_wearsNow 13 = .ok (.iaload, 1) := by decide +kernel
theorem dX11_wearsNow_14 : decode cX11_wearsNow 14 = .ok (.if_icmp .ge 7, 3) := by decide +kernel
theorem dX11_wearsNow_17 : decode cX11_wearsNow 17 = .ok (.iload_n 3, 1) := by decide +kernel
theorem dX11_wearsNow_18 : decode cX11_wearsNow 18 = .ok (.goto 9, 3) := by decide +kernel
theorem dX11_wearsNow_21 : decode cX11_wearsNow 21 = .ok (.aload_n 0, 1) := by decide +kernel
theorem dX11_wearsNow_22 : decode cX11_wearsNow 22 = .ok (.getfield 22, 3) := by decide +kernel
theorem dX11_wearsNow_25 : decode cX11_wearsNow 25 = .ok (.iload_n 2, 1) := by decide +kernel
theorem dX11_wearsNow_26 : decode cX11_wearsNow 26 = .ok (.iaload, 1) := by decide +kernel
theorem dX11_wearsNow_27 : decode cX11_wearsNow 27 = .ok (.istore 4, 2) := by decide +kernel
theorem dX11_wearsNow_29 : decode cX11_wearsNow 29 = .ok (.aload_n 0, 1) := by decide +kernel
theorem dX11_wearsNow_30 : decode cX11_wearsNow 30 = .ok (.getfield 22, 3) := by decide +kernel
theorem dX11_wearsNow_33 : decode cX11_wearsNow 33 = .ok (.iload_n 2, 1) := by decide +kernel
theorem dX11_wearsNow_34 : decode cX11_wearsNow 34 = .ok (.dup2, 1) := by decide +kernel
theorem dX11_wearsNow_35 : decode cX11_wearsNow 35 = .ok (.iaload, 1) := by decide +kernel
theorem dX11_wearsNow_36 : decode cX11_wearsNow 36 = .ok (.iload 4, 2) := by decide +kernel
theorem dX11_wearsNow_38 : decode cX11_wearsNow 38 = .ok (.isub, 1) := by decide +kernel
theorem dX11_wearsNow_39 : decode cX11_wearsNow 39 = .ok (.iastore, 1) := by decide +kernel
theorem dX11_wearsNow_40 : decode cX11_wearsNow 40 = .ok (.iload 4, 2) := by decide +kernel
theorem dX11_wearsNow_42 : decode cX11_wearsNow 42 = .ok (.ireturn, 1) := by decide +kernel
theorem dX11_tread_0 : decode cX11_tread 0 = .ok (.aload_n 0, 1) := by decide +kernel
theorem dX11_tread_1 : decode cX11_tread 1 = .ok (.iload_n 1, 1) := by decide +kernel
theorem dX11_tread_2 : decode cX11_tread 2 = .ok (.iload_n 2, 1) := by decide +kernel
theorem dX11_tread_3 : decode cX11_tread 3 = .ok (.invokevirtual 200, 3) := by decide +kernel
theorem dX11_tread_6 : decode cX11_tread 6 = .ok (.istore_n 3, 1) := by decide +kernel
theorem dX11_tread_7 : decode cX11_tread 7 = .ok (.iload_n 3, 1) := by decide +kernel
theorem dX11_tread_8 : decode cX11_tread 8 = .ok (.ifCond .eq 5, 3) := by decide +kernel
theorem dX11_tread_11 : decode cX11_tread 11 = .ok (.iload_n 3, 1) := by decide +kernel
theorem dX11_tread_12 : decode cX11_tread 12 = .ok (.ireturn, 1) := by decide +kernel
theorem dX11_tread_13 : decode cX11_tread 13 = .ok (.iconst 0, 1) := by decide +kernel
theorem dX11_tread_14 : decode cX11_tread 14 = .ok (.istore 4, 2) := by decide +kernel
theorem dX11_tread_16 : decode cX11_tread 16 = .ok (.iconst 0, 1) := by decide +kernel
theorem dX11_tread_17 : decode cX11_tread 17 = .ok (.istore 5, 2) := by decide +kernel
theorem dX11_tread_19 : decode cX11_tread 19 = .ok (.iload 5, 2) := by decide +kernel
theorem dX11_tread_21 : decode cX11_tread 21 = .ok (.aload_n 0, 1) := by decide +kernel
theorem dX11_tread_22 : decode cX11_tread 22 = .ok (.getfield 43, 3) := by decide +kernel
theorem dX11_tread_25 : decode cX11_tread 25 = .ok (.iload_n 1, 1) := by decide +kernel
theorem dX11_tread_26 : decode cX11_tread 26 = .ok (.iaload, 1) := by decide +kernel
theorem dX11_tread_27 : decode cX11_tread 27 = .ok (.if_icmp .ge 31, 3) := by decide +kernel
theorem dX11_tread_30 : decode cX11_tread 30 = .ok (.iload 4, 2) := by decide +kernel
theorem dX11_tread_32 : decode cX11_tread 32 = .ok (.aload_n 0, 1) := by decide +kernel
theorem dX11_tread_33 : decode cX11_tread 33 = .ok (.iload_n 2, 1) := by decide +kernel
theorem dX11_tread_34 : decode cX11_tread 34 = .ok (.aload_n 0, 1) := by decide +kernel
theorem dX11_tread_35 : decode cX11_tread 35 = .ok (.getfield 46, 3) := by decide +kernel
theorem dX11_tread_38 : decode cX11_tread 38 = .ok (.bipush 40, 2) := by decide +kernel
theorem dX11_tread_40 : decode cX11_tread 40 = .ok (.iload_n 1, 1) := by decide +kernel
theorem dX11_tread_41 : decode cX11_tread 41 = .ok (.imul, 1) := by decide +kernel
theorem dX11_tread_42 : decode cX11_tread 42 = .ok (.iload 5, 2) := by decide +kernel
theorem dX11_tread_44 : decode cX11_tread 44 = .ok (.iadd, 1) := by decide +kernel
theorem dX11_tread_45 : decode cX11_tread 45 = .ok (.iaload, 1) := by decide +kernel
theorem dX11_tread_46 : decode cX11_tread 46 = .ok (.invokevirtual 209, 3) := by decide +kernel
theorem dX11_tread_49 : decode cX11_tread 49 = .ok (.iadd, 1) := by decide +kernel
theorem dX11_tread_50 : decode cX11_tread 50 = .ok (.istore 4, 2) := by decide +kernel
theorem dX11_tread_52 : decode cX11_tread 52 = .ok (.iinc 5 1, 3) := by decide +kernel
theorem dX11_tread_55 : decode cX11_tread 55 = .ok (.goto (-36), 3) := by decide +kernel
theorem dX11_tread_58 : decode cX11_tread 58 = .ok (.iload 4, 2) := by decide +kernel
theorem dX11_tread_60 : decode cX11_tread 60 = .ok (.ireturn, 1) := by decide +kernel
theorem dX11_relaxes_0 : decode cX11_relaxes 0 = .ok (.aload_n 0, 1) := by decide +kernel
theorem dX11_relaxes_1 : decode cX11_relaxes 1 = .ok (.getfield 70, 3) := by decide +kernel
theorem dX11_relaxes_4 : decode cX11_relaxes 4 = .ok (.iload_n 1, 1) := by decide +kernel
theorem dX11_relaxes_5 : decode cX11_relaxes 5 = .ok (.iaload, 1) := by decide +kernel
theorem dX11_relaxes_6 : decode cX11_relaxes 6 = .ok (.iconst (-1), 1) := by decide +kernel
theorem dX11_relaxes_7 : decode cX11_relaxes 7 = .ok (.if_icmp .eq 13, 3) := by decide +kernel
theorem dX11_relaxes_10 : decode cX11_relaxes 10 = .ok (.aload_n 0, 1) := by decide +kernel
theorem dX11_relaxes_11 : decode cX11_relaxes 11 = .ok (.getfield 67, 3) := by decide +kernel
theorem dX11_relaxes_14 : decode cX11_relaxes 14 = .ok (.iload_n 2, 1) := by decide +kernel
theorem dX11_relaxes_15 : decode cX11_relaxes 15 = .ok (.iaload, 1) := by decide +kernel
theorem dX11_relaxes_16 : decode cX11_relaxes 16 = .ok (.iconst (-1), 1) := by decide +kernel
theorem dX11_relaxes_17 : decode cX11_relaxes 17 = .ok (.if_icmp .ne 5, 3) := by decide +kernel
theorem dX11_relaxes_20 : decode cX11_relaxes 20 = .ok (.iconst 0, 1) := by decide +kernel
theorem dX11_relaxes_21 : decode cX11_relaxes 21 = .ok (.ireturn, 1) := by decide +kernel
theorem dX11_relaxes_22 : decode cX11_relaxes 22 = .ok (.aload_n 0, 1) := by decide +kernel
theorem dX11_relaxes_23 : decode cX11_relaxes 23 = .ok (.getfield 70, 3) := by decide +kernel
theorem dX11_relaxes_26 : decode cX11_relaxes 26 = .ok (.iload_n 1, 1) := by decide +kernel
theorem dX11_relaxes_27 : decode cX11_relaxes 27 = .ok (.iaload, 1) := by decide +kernel
theorem dX11_relaxes_28 : decode cX11_relaxes 28 = .ok (.aload_n 0, 1) := by decide +kernel
theorem dX11_relaxes_29 : decode cX11_relaxes 29 = .ok (.getfield 67, 3) := by decide +kernel
theorem dX11_relaxes_32 : decode cX11_relaxes 32 = .ok (.iload_n 2, 1) := by decide +kernel
theorem dX11_relaxes_33 : decode cX11_relaxes 33 = .ok (.iaload, 1) := by decide +kernel
theorem dX11_relaxes_34 : decode cX11_relaxes 34 = .ok (.iadd, 1) := by decide +kernel
theorem dX11_relaxes_35 : decode cX11_relaxes 35 = .ok (.istore_n 3, 1) := by decide +kernel
theorem dX11_relaxes_36 : decode cX11_relaxes 36 = .ok (.aload_n 0, 1) := by decide +kernel
theorem dX11_relaxes_37 : decode cX11_relaxes 37 = .ok (.getfield 70, 3) := by decide +kernel
theorem dX11_relaxes_40 : decode cX11_relaxes 40 = .ok (.iload_n 2, 1) := by decide +kernel
theorem dX11_relaxes_41 : decode cX11_relaxes 41 = .ok (.iaload, 1) := by decide +kernel
theorem dX11_relaxes_42 : decode cX11_relaxes 42 = .ok (.iconst (-1), 1) := by decide +kernel
theorem dX11_relaxes_43 : decode cX11_relaxes 43 = .ok (.if_icmp .eq 15, 3) := by decide +kernel
theorem dX11_relaxes_46 : decode cX11_relaxes 46 = .ok (.aload_n 0, 1) := by decide +kernel
theorem dX11_relaxes_47 : decode cX11_relaxes 47 = .ok (.getfield 70, 3) := by decide +kernel
theorem dX11_relaxes_50 : decode cX11_relaxes 50 = .ok (.iload_n 2, 1) := by decide +kernel
theorem dX11_relaxes_51 : decode cX11_relaxes 51 = .ok (.iaload, 1) := by decide +kernel
theorem dX11_relaxes_52 : decode cX11_relaxes 52 = .ok (.iload_n 3, 1) := by decide +kernel
theorem dX11_relaxes_53 : decode cX11_relaxes 53 = .ok (.if_icmp .gt 5, 3) := by decide +kernel
theorem dX11_relaxes_56 : decode cX11_relaxes 56 = .ok (.iconst 0, 1) := by decide +kernel
theorem dX11_relaxes_57 : decode cX11_relaxes 57 = .ok (.ireturn, 1) := by decide +kernel
theorem dX11_relaxes_58 : decode cX11_relaxes 58 = .ok (.aload_n 0, 1) := by decide +kernel
theorem dX11_relaxes_59 : decode cX11_relaxes 59 = .ok (.getfield 70, 3) := by decide +kernel
theorem dX11_relaxes_62 : decode cX11_relaxes 62 = .ok (.iload_n 2, 1) := by decide +kernel
theorem dX11_relaxes_63 : decode cX11_relaxes 63 = .ok (.iload_n 3, 1) := by decide +kernel
theorem dX11_relaxes_64 : decode cX11_relaxes 64 = .ok (.iastore, 1) := by decide +kernel
theorem dX11_relaxes_65 : decode cX11_relaxes 65 = .ok (.iconst 1, 1) := by decide +kernel
theorem dX11_relaxes_66 : decode cX11_relaxes 66 = .ok (.ireturn, 1) := by decide +kernel
theorem dX11_way_0 : decode cX11_way 0 = .ok (.aload_n 0, 1) := by decide +kernel
theorem dX11_way_1 : decode cX11_way 1 = .ok (.iload_n 1, 1) := by decide +kernel
theorem dX11_way_2 : decode cX11_way 2 = .ok (.invokevirtual 176, 3) := by decide +kernel
theorem dX11_way_5 : decode cX11_way 5 = .ok (.ifCond .ne 6, 3) := by decide +kernel
theorem dX11_way_8 : decode cX11_way 8 = .ok (.bipush (-5), 2) := by decide +kernel
theorem dX11_way_10 : decode cX11_way 10 = .ok (.ireturn, 1) := by decide +kernel
theorem dX11_way_11 : decode cX11_way 11 = .ok (.iload_n 2, 1) := by decide +kernel
theorem dX11_way_12 : decode cX11_way 12 = .ok (.iconst 0, 1) := by decide +kernel
theorem dX11_way_13 : decode cX11_way 13 = .ok (.sipush 3535, 3) := by decide +kernel
theorem dX11_way_16 : decode cX11_way 16 = .ok (.invokestatic 84, 3) := by decide +kernel
theorem dX11_way_19 : decode cX11_way 19 = .ok (.ifCond .eq 33, 3) := by decide +kernel
theorem dX11_way_22 : decode cX11_way 22 = .ok (.iload_n 2, 1) := by decide +kernel
theorem dX11_way_23 : decode cX11_way 23 = .ok (.bipush 100, 2) := by decide +kernel
theorem dX11_way_25 : decode cX11_way 25 = .ok (.irem, 1) := by decide +kernel
theorem dX11_way_26 : decode cX11_way 26 = .ok (.bipush 36, 2) := by decide +kernel
theorem dX11_way_28 : decode cX11_way 28 = .ok (.if_icmp .ge 24, 3) := by decide +kernel
theorem dX11_way_31 : decode cX11_way 31 = .ok (.iload_n 3, 1) := by decide +kernel
theorem dX11_way_32 : decode cX11_way 32 = .ok (.iconst 0, 1) := by decide +kernel
theorem dX11_way_33 : decode cX11_way 33 = .ok (.sipush 999, 3) := by decide +kernel
theorem dX11_way_36 : decode cX11_way 36 = .ok (.invokestatic 84, 3) := by decide +kernel
theorem dX11_way_39 : decode cX11_way 39 = .ok (.ifCond .eq 13, 3) := by decide +kernel
theorem dX11_way_42 : decode cX11_way 42 = .ok (.iload 4, 2) := by decide +kernel
theorem dX11_way_44 : decode cX11_way 44 = .ok (.iconst 0, 1) := by decide +kernel
theorem dX11_way_45 : decode cX11_way 45 = .ok (.iconst 1, 1) := by decide +kernel
theorem dX11_way_46 : decode cX11_way 46 = .ok (.invokestatic 84, 3) := by decide +kernel
theorem dX11_way_49 : decode cX11_way 49 = .ok (.ifCond .ne 6, 3) := by decide +kernel
theorem dX11_way_52 : decode cX11_way 52 = .ok (.bipush (-7), 2) := by decide +kernel
theorem dX11_way_54 : decode cX11_way 54 = .ok (.ireturn, 1) := by decide +kernel
theorem dX11_way_55 : decode cX11_way 55 = .ok (.iconst 0, 1) := by decide +kernel
theorem dX11_way_56 : decode cX11_way 56 = .ok (.istore 5, 2) := by decide +kernel
theorem dX11_way_58 : decode cX11_way 58 = .ok (.iload 5, 2) := by decide +kernel
theorem dX11_way_60 : decode cX11_way 60 = .ok (.bipush 36, 2) := by decide +kernel
theorem dX11_way_62 : decode cX11_way 62 = .ok (.if_icmp .ge 54, 3) := by decide +kernel
theorem dX11_way_65 : decode cX11_way 65 = .ok (.aload_n 0, 1) := by decide +kernel
theorem dX11_way_66 : decode cX11_way 66 = .ok (.iload_n 1, 1) := by decide +kernel
theorem dX11_way_67 : decode cX11_way 67 = .ok (.iload 5, 2) := by decide +kernel
theorem dX11_way_69 : decode cX11_way 69 = .ok (.invokevirtual 203, 3) := by decide +kernel
theorem dX11_way_72 : decode cX11_way 72 = .ok (.istore 6, 2) := by decide +kernel
theorem dX11_way_74 : decode cX11_way 74 = .ok (.aload_n 0, 1) := by decide +kernel
theorem dX11_way_75 : decode cX11_way 75 = .ok (.getfield 67, 3) := by decide +kernel
theorem dX11_way_78 : decode cX11_way 78 = .ok (.iload 5, 2) := by decide +kernel
theorem dX11_way_80 : decode cX11_way 80 = .ok (.iload 4, 2) := by decide +kernel
theorem dX11_way_82 : decode cX11_way 82 = .ok (.ifCond .ne 8, 3) := by decide +kernel
theorem dX11_way_85 : decode cX11_way 85 = .ok (.iload 6, 2) := by decide +kernel
theorem dX11_way_87 : decode cX11_way 87 = .ok (.goto 14, 3) := by decide +kernel
theorem dX11_way_90 : decode cX11_way 90 = .ok (.iload 6, 2) := by decide +kernel
theorem dX11_way_92 : decode cX11_way 92 = .ok (.iload_n 3, 1) := by decide +kernel
theorem dX11_way_93 : decode cX11_way 93 = .ok (.if_icmp .gt 7, 3) := by decide +kernel
theorem dX11_way_96 : decode cX11_way 96 = .ok (.iconst 1, 1) := by decide +kernel
theorem dX11_way_97 : decode cX11_way 97 = .ok (.goto 4, 3) := by decide +kernel
theorem dX11_way_100 : decode cX11_way 100 = .ok (.iconst (-1), 1) := by decide +kernel
theorem dX11_way_101 : decode cX11_way 101 = .ok (.iastore, 1) := by decide +kernel
theorem dX11_way_102 : decode cX11_way 102 = .ok (.aload_n 0, 1) := by decide +kernel
theorem dX11_way_103 : decode cX11_way 103 = .ok (.getfield 70, 3) := by decide +kernel
theorem dX11_way_106 : decode cX11_way 106 = .ok (.iload 5, 2) := by decide +kernel
theorem dX11_way_108 : decode cX11_way 108 = .ok (.iconst (-1), 1) := by decide +kernel
theorem dX11_way_109 : decode cX11_way 109 = .ok (.iastore, 1) := by decide +kernel
theorem dX11_way_110 : decode cX11_way 110 = .ok (.iinc 5 1, 3) := by decide +kernel
theorem dX11_way_113 : decode cX11_way 113 = .ok (.goto (-55), 3) := by decide +kernel
theorem dX11_way_116 : decode cX11_way 116 = .ok (.iload_n 2, 1) := by decide +kernel
theorem dX11_way_117 : decode cX11_way 117 = .ok (.bipush 100, 2) := by decide +kernel
theorem dX11_way_119 : decode cX11_way 119 = .ok (.idiv, 1) := by decide +kernel
theorem dX11_way_120 : decode cX11_way 120 = .ok (.istore 5, 2) := by decide +kernel
theorem dX11_way_122 : decode cX11_way 122 = .ok (.aload_n 0, 1) := by decide +kernel
theorem dX11_way_123 : decode cX11_way 123 = .ok (.getfield 70, 3) := by decide +kernel
theorem dX11_way_126 : decode cX11_way 126 = .ok (.iload 5, 2) := by decide +kernel
theorem dX11_way_128 : decode cX11_way 128 = .ok (.aload_n 0, 1) := by decide +kernel
theorem dX11_way_129 : decode cX11_way 129 = .ok (.getfield 67, 3) := by decide +kernel
theorem dX11_way_132 : decode cX11_way 132 = .ok (.iload 5, 2) := by decide +kernel
theorem dX11_way_134 : decode cX11_way 134 = .ok (.iaload, 1) := by decide +kernel
theorem dX11_way_135 : decode cX11_way 135 = .ok (.iastore, 1) := by decide +kernel
theorem dX11_way_136 : decode cX11_way 136 = .ok (.iconst 1, 1) := by decide +kernel
theorem dX11_way_137 : decode cX11_way 137 = .ok (.istore 6, 2) := by decide +kernel
theorem dX11_way_139 : decode cX11_way 139 = .ok (.iload 6, 2) := by decide +kernel
theorem dX11_way_141 : decode cX11_way 141 = .ok (.ifCond .eq 103, 3) := by decide +kernel
theorem dX11_way_144 : decode cX11_way 144 = .ok (.iconst 0, 1) := by decide +kernel
theorem dX11_way_145 : decode cX11_way 145 = .ok (.istore 6, 2) := by decide +kernel
theorem dX11_way_147 : decode cX11_way 147 = .ok (.iconst 0, 1) := by decide +kernel
theorem dX11_way_148 : decode cX11_way 148 = .ok (.istore 7, 2) := by decide +kernel
theorem dX11_way_150 : decode cX11_way 150 = .ok (.iload 7, 2) := by decide +kernel
theorem dX11_way_152 : decode cX11_way 152 = .ok (.bipush 36, 2) := by decide +kernel
theorem dX11_way_154 : decode cX11_way 154 = .ok (.if_icmp .ge 87, 3) := by decide +kernel
theorem dX11_way_157 : decode cX11_way 157 = .ok (.iload 7, 2) := by decide +kernel
theorem dX11_way_159 : decode cX11_way 159 = .ok (.bipush 6, 2) := by decide +kernel
theorem dX11_way_161 : decode cX11_way 161 = .ok (.irem, 1) := by decide +kernel
theorem dX11_way_162 : decode cX11_way 162 = .ok (.iconst 5, 1) := by decide +kernel
theorem dX11_way_163 : decode cX11_way 163 = .ok (.if_icmp .ge 33, 3) := by decide +kernel
theorem dX11_way_166 : decode cX11_way 166 = .ok (.iload 6, 2) := by decide +kernel
theorem dX11_way_168 : decode cX11_way 168 = .ok (.aload_n 0, 1) := by decide +kernel
theorem dX11_way_169 : decode cX11_way 169 = .ok (.iload 7, 2) := by decide +kernel
theorem dX11_way_171 : decode cX11_way 171 = .ok (.iload 7, 2) := by decide +kernel
theorem dX11_way_173 : decode cX11_way 173 = .ok (.iconst 1, 1) := by decide +kernel
theorem dX11_way_174 : decode cX11_way 174 = .ok (.iadd, 1) := by decide +kernel
theorem dX11_way_175 : decode cX11_way 175 = .ok (.invokevirtual 212, 3) := by decide +kernel
theorem dX11_way_178 : decode cX11_way 178 = .ok (.ior, 1) := by decide +kernel
theorem dX11_way_179 : decode cX11_way 179 = .ok (.istore 6, 2) := by decide +kernel
theorem dX11_way_181 : decode cX11_way 181 = .ok (.iload 6, 2) := by decide +kernel
theorem dX11_way_183 : decode cX11_way 183 = .ok (.aload_n 0, 1) := by decide +kernel
theorem dX11_way_184 : decode cX11_way 184 = .ok (.iload 7, 2) := by decide +kernel
theorem dX11_way_186 : decode cX11_way 186 = .ok (.iconst 1, 1) := by decide +kernel
theorem dX11_way_187 : decode cX11_way 187 = .ok (.iadd, 1) := by decide +kernel
theorem dX11_way_188 : decode cX11_way 188 = .ok (.iload 7, 2) := by decide +kernel
theorem dX11_way_190 : decode cX11_way 190 = .ok (.invokevirtual 212, 3) := by decide +kernel
theorem dX11_way_193 : decode cX11_way 193 = .ok (.ior, 1) := by decide +kernel
theorem dX11_way_194 : decode cX11_way 194 = .ok (.istore 6, 2) := by decide +kernel
theorem dX11_way_196 : decode cX11_way 196 = .ok (.iload 7, 2) := by decide +kernel
theorem dX11_way_198 : decode cX11_way 198 = .ok (.bipush 30, 2) := by decide +kernel
theorem dX11_way_200 : decode cX11_way 200 = .ok (.if_icmp .ge 35, 3) := by decide +kernel
theorem dX11_way_203 : decode cX11_way 203 = .ok (.iload 6, 2) := by decide +kernel
theorem dX11_way_205 : decode cX11_way 205 = .ok (.aload_n 0, 1) := by decide +kernel
theorem dX11_way_206 : decode cX11_way 206 = .ok (.iload 7, 2) := by decide +kernel
theorem dX11_way_208 : decode cX11_way 208 = .ok (.iload 7, 2) := by decide +kernel
theorem dX11_way_210 : decode cX11_way 210 = .ok (.bipush 6, 2) := by decide +kernel
theorem dX11_way_212 : decode cX11_way 212 = .ok (.iadd, 1) := by decide +kernel
theorem dX11_way_213 : decode cX11_way 213 = .ok (.invokevirtual 212, 3) := by decide +kernel
theorem dX11_way_216 : decode cX11_way 216 = .ok (.ior, 1) := by decide +kernel
theorem dX11_way_217 : decode cX11_way 217 = .ok (.istore 6, 2) := by decide +kernel
theorem dX11_way_219 : decode cX11_way 219 = .ok (.iload 6, 2) := by decide +kernel
theorem dX11_way_221 : decode cX11_way 221 = .ok (.aload_n 0, 1) := by decide +kernel
theorem dX11_way_222 : decode cX11_way 222 = .ok (.iload 7, 2) := by decide +kernel
theorem dX11_way_224 : decode cX11_way 224 = .ok (.bipush 6, 2) := by decide +kernel
theorem dX11_way_226 : decode cX11_way 226 = .ok (.iadd, 1) := by decide +kernel
theorem dX11_way_227 : decode cX11_way 227 = .ok (.iload 7, 2) := by decide +kernel
theorem dX11_way_229 : decode cX11_way 229 = .ok (.invokevirtual 212, 3) := by decide +kernel
theorem dX11_way_232 : decode cX11_way 232 = .ok (.ior, 1) := by decide +kernel
theorem dX11_way_233 : decode cX11_way 233 = .ok (.istore 6, 2) := by decide +kernel
theorem dX11_way_235 : decode cX11_way 235 = .ok (.iinc 7 1, 3) := by decide +kernel
theorem dX11_way_238 : decode cX11_way 238 = .ok (.goto (-88), 3) := by decide +kernel
theorem dX11_way_241 : decode cX11_way 241 = .ok (.goto (-102), 3) := by decide +kernel
theorem dX11_way_244 : decode cX11_way 244 = .ok (.aload_n 0, 1) := by decide +kernel
theorem dX11_way_245 : decode cX11_way 245 = .ok (.getfield 70, 3) := by decide +kernel
theorem dX11_way_248 : decode cX11_way 248 = .ok (.iload_n 2, 1) := by decide +kernel
theorem dX11_way_249 : decode cX11_way 249 = .ok (.bipush 100, 2) := by decide +kernel
theorem dX11_way_251 : decode cX11_way 251 = .ok (.irem, 1) := by decide +kernel
theorem dX11_way_252 : decode cX11_way 252 = .ok (.iaload, 1) := by decide +kernel
theorem dX11_way_253 : decode cX11_way 253 = .ok (.ireturn, 1) := by decide +kernel
theorem dX11_thickSet_0 : decode cX11_thickSet 0 = .ok (.lconst 0, 1) := by decide +kernel
theorem dX11_thickSet_1 : decode cX11_thickSet 1 = .ok (.lstore_n 2, 1) := by decide +kernel
theorem dX11_thickSet_2 : decode cX11_thickSet 2 = .ok (.iconst 0, 1) := by decide +kernel
theorem dX11_thickSet_3 : decode cX11_thickSet 3 = .ok (.istore 4, 2) := by decide +kernel
theorem dX11_thickSet_5 : decode cX11_thickSet 5 = .ok (.iload 4, 2) := by decide +kernel
theorem dX11_thickSet_7 : decode cX11_thickSet 7 = .ok (.bipush 36, 2) := by decide +kernel
theorem dX11_thickSet_9 : decode cX11_thickSet 9 = .ok (.if_icmp .ge 31, 3) := by decide +kernel
theorem dX11_thickSet_12 : decode cX11_thickSet 12 = .ok (.lload_n 2, 1) := by decide +kernel
theorem dX11_thickSet_13 : decode cX11_thickSet 13 = .ok (.aload_n 0, 1) := by decide +kernel
theorem dX11_thickSet_14 : decode cX11_thickSet 14 = .ok (.getfield 22, 3) := by decide +kernel
theorem dX11_thickSet_17 : decode cX11_thickSet 17 = .ok (.iload 4, 2) := by decide +kernel
theorem dX11_thickSet_19 : decode cX11_thickSet 19 = .ok (.iaload, 1) := by decide +kernel
theorem dX11_thickSet_20 : decode cX11_thickSet 20 = .ok (.iload_n 1, 1) := by decide +kernel
theorem dX11_thickSet_21 : decode cX11_thickSet 21 = .ok (.if_icmp .lt 10, 3) := by decide +kernel
theorem dX11_thickSet_24 : decode cX11_thickSet 24 = .ok (.lconst 1, 1) := by decide +kernel
theorem dX11_thickSet_25 : decode cX11_thickSet 25 = .ok (.iload 4, 2) := by decide +kernel
theorem dX11_thickSet_27 : decode cX11_thickSet 27 = .ok (.lshl, 1) := by decide +kernel
theorem dX11_thickSet_28 : decode cX11_thickSet 28 = .ok (.goto 4, 3) := by decide +kernel
theorem dX11_thickSet_31 : decode cX11_thickSet 31 = .ok (.lconst 0, 1) := by decide +kernel
theorem dX11_thickSet_32 : decode cX11_thickSet 32 = .ok (.lor, 1) := by decide +kernel
theorem dX11_thickSet_33 : decode cX11_thickSet 33 = .ok (.lstore_n 2, 1) := by decide +kernel
theorem dX11_thickSet_34 : decode cX11_thickSet 34 = .ok (.iinc 4 1, 3) := by decide +kernel
theorem dX11_thickSet_37 : decode cX11_thickSet 37 = .ok (.goto (-32), 3) := by decide +kernel
theorem dX11_thickSet_40 : decode cX11_thickSet 40 = .ok (.lload_n 2, 1) := by decide +kernel
theorem dX11_thickSet_41 : decode cX11_thickSet 41 = .ok (.lreturn, 1) := by decide +kernel
theorem dX11_heapOf_0 : decode cX11_heapOf 0 = .ok (.lload_n 1, 1) := by decide +kernel
theorem dX11_heapOf_1 : decode cX11_heapOf 1 = .ok (.lconst 1, 1) := by decide +kernel
theorem dX11_heapOf_2 : decode cX11_heapOf 2 = .ok (.iload_n 0, 1) := by decide +kernel
theorem dX11_heapOf_3 : decode cX11_heapOf 3 = .ok (.lshl, 1) := by decide +kernel
theorem dX11_heapOf_4 : decode cX11_heapOf 4 = .ok (.land, 1) := by decide +kernel
theorem dX11_heapOf_5 : decode cX11_heapOf 5 = .ok (.lstore_n 3, 1) := by decide +kernel
theorem dX11_heapOf_6 : decode cX11_heapOf 6 = .ok (.iconst 1, 1) := by decide +kernel
theorem dX11_heapOf_7 : decode cX11_heapOf 7 = .ok (.istore 5, 2) := by decide +kernel
theorem dX11_heapOf_9 : decode cX11_heapOf 9 = .ok (.iload 5, 2) := by decide +kernel
theorem dX11_heapOf_11 : decode cX11_heapOf 11 = .ok (.ifCond .eq 102, 3) := by decide +kernel
theorem dX11_heapOf_14 : decode cX11_heapOf 14 = .ok (.lload_n 3, 1) := by decide +kernel
theorem dX11_heapOf_15 : decode cX11_heapOf 15 = .ok (.lstore 6, 2) := by decide +kernel
theorem dX11_heapOf_17 : decode cX11_heapOf 17 = .ok (.iconst 0, 1) := by decide +kernel
theorem dX11_heapOf_18 : decode cX11_heapOf 18 = .ok (.istore 8, 2) := by decide +kernel
theorem dX11_heapOf_20 : decode cX11_heapOf 20 = .ok (.iload 8, 2) := by decide +kernel
theorem dX11_heapOf_22 : decode cX11_heapOf 22 = .ok (.bipush 36, 2) := by decide +kernel
theorem dX11_heapOf_24 : decode cX11_heapOf 24 = .ok (.if_icmp .ge 72, 3) := by decide +kernel
theorem dX11_heapOf_27 : decode cX11_heapOf 27 = .ok (.lload_n 3, 1) := by decide +kernel
theorem dX11_heapOf_28 : decode cX11_heapOf 28 = .ok (.iload 8, 2) := by decide +kernel
theorem dX11_heapOf_30 : decode cX11_heapOf 30 = .ok (.lshr, 1) := by decide +kernel
theorem dX11_heapOf_31 : decode cX11_heapOf 31 = .ok (.lconst 1, 1) := by decide +kernel
theorem dX11_heapOf_32 : decode cX11_heapOf 32 = .ok (.land, 1) := by decide +kernel
theorem dX11_heapOf_33 : decode cX11_heapOf 33 = .ok (.lconst 1, 1) := by decide +kernel
theorem dX11_heapOf_34 : decode cX11_heapOf 34 = .ok (.lcmp, 1) := by decide +kernel
theorem dX11_heapOf_35 : decode cX11_heapOf 35 = .ok (.ifCond .ne 7, 3) := by decide +kernel
theorem dX11_heapOf_38 : decode cX11_heapOf 38 = .ok (.iconst 1, 1) := by decide +kernel
theorem dX11_heapOf_39 : decode cX11_heapOf 39 = .ok (.goto 4, 3) := by decide +kernel
theorem dX11_heapOf_42 : decode cX11_heapOf 42 = .ok (.iconst 0, 1) := by decide +kernel
theorem dX11_heapOf_43 : decode cX11_heapOf 43 = .ok (.istore 9, 2) := by decide +kernel
theorem dX11_heapOf_45 : decode cX11_heapOf 45 = .ok (.iconst 0, 1) := by decide +kernel
theorem dX11_heapOf_46 : decode cX11_heapOf 46 = .ok (.istore 10, 2) := by decide +kernel
theorem dX11_heapOf_48 : decode cX11_heapOf 48 = .ok (.iload 10, 2) := by decide +kernel
theorem dX11_heapOf_50 : decode cX11_heapOf 50 = .ok (.bipush 36, 2) := by decide +kernel
theorem dX11_heapOf_52 : decode cX11_heapOf 52 = .ok (.if_icmp .ge 38, 3) := by decide +kernel
theorem dX11_heapOf_55 : decode cX11_heapOf 55 = .ok (.iload 9, 2) := by decide +kernel
theorem dX11_heapOf_57 : decode cX11_heapOf 57 = .ok (.ifCond .eq 33, 3) := by decide +kernel
theorem dX11_heapOf_60 : decode cX11_heapOf 60 = .ok (.lload_n 3, 1) := by decide +kernel
theorem dX11_heapOf_61 : decode cX11_heapOf 61 = .ok (.iload 8, 2) := by decide +kernel
theorem dX11_heapOf_63 : decode cX11_heapOf 63 = .ok (.iload 10, 2) := by decide +kernel
theorem dX11_heapOf_65 : decode cX11_heapOf 65 = .ok (.invokestatic 182, 3) := by decide +kernel
theorem dX11_heapOf_68 : decode cX11_heapOf 68 = .ok (.iconst 1, 1) := by decide +kernel
theorem dX11_heapOf_69 : decode cX11_heapOf 69 = .ok (.if_icmp .ne 12, 3) := by decide +kernel
theorem dX11_heapOf_72 : decode cX11_heapOf 72 = .ok (.lload_n 1, 1) := by decide +kernel
theorem dX11_heapOf_73 : decode cX11_heapOf 73 = .ok (.lconst 1, 1) := by decide +kernel
theorem dX11_heapOf_74 : decode cX11_heapOf 74 = .ok (.iload 10, 2) := by decide +kernel
theorem dX11_heapOf_76 : decode cX11_heapOf 76 = .ok (.lshl, 1) := by decide +kernel
theorem dX11_heapOf_77 : decode cX11_heapOf 77 = .ok (.land, 1) := by decide +kernel
theorem dX11_heapOf_78 : decode cX11_heapOf 78 = .ok (.goto 4, 3) := by decide +kernel
theorem dX11_heapOf_81 : decode cX11_heapOf 81 = .ok (.lconst 0, 1) := by decide +kernel
theorem dX11_heapOf_82 : decode cX11_heapOf 82 = .ok (.lor, 1) := by decide +kernel
theorem dX11_heapOf_83 : decode cX11_heapOf 83 = .ok (.lstore_n 3, 1) := by decide +kernel
theorem dX11_heapOf_84 : decode cX11_heapOf 84 = .ok (.iinc 10 1, 3) := by decide +kernel
theorem dX11_heapOf_87 : decode cX11_heapOf 87 = .ok (.goto (-39), 3) := by decide +kernel
theorem dX11_heapOf_90 : decode cX11_heapOf 90 = .ok (.iinc 8 1, 3) := by decide +kernel
theorem dX11_heapOf_93 : decode cX11_heapOf 93 = .ok (.goto (-73), 3) := by decide +kernel
theorem dX11_heapOf_96 : decode cX11_heapOf 96 = .ok (.lload_n 3, 1) := by decide +kernel
theorem dX11_heapOf_97 : decode cX11_heapOf 97 = .ok (.lload 6, 2) := by decide +kernel
theorem dX11_heapOf_99 : decode cX11_heapOf 99 = .ok (.lcmp, 1) := by decide +kernel
theorem dX11_heapOf_100 : decode cX11_heapOf 100 = .ok (.ifCond .eq 7, 3) := by decide +kernel
theorem dX11_heapOf_103 : decode cX11_heapOf 103 = .ok (.iconst 1, 1) := by decide +kernel
theorem dX11_heapOf_104 : decode cX11_heapOf 104 = .ok (.goto 4, 3) := by decide +kernel
theorem dX11_heapOf_107 : decode cX11_heapOf 107 = .ok (.iconst 0, 1) := by decide +kernel
theorem dX11_heapOf_108 : decode cX11_heapOf 108 = .ok (.istore 5, 2) := by decide +kernel
theorem dX11_heapOf_110 : decode cX11_heapOf 110 = .ok (.goto (-101), 3) := by decide +kernel
theorem dX11_heapOf_113 : decode cX11_heapOf 113 = .ok (.lload_n 3, 1) := by decide +kernel
theorem dX11_heapOf_114 : decode cX11_heapOf 114 = .ok (.lreturn, 1) := by decide +kernel
theorem dX11_heap_0 : decode cX11_heap 0 = .ok (.iload_n 1, 1) := by decide +kernel
theorem dX11_heap_1 : decode cX11_heap 1 = .ok (.invokestatic 104, 3) := by decide +kernel
theorem dX11_heap_4 : decode cX11_heap 4 = .ok (.ifCond .eq 23, 3) := by decide +kernel
theorem dX11_heap_7 : decode cX11_heap 7 = .ok (.iload_n 2, 1) := by decide +kernel
theorem dX11_heap_8 : decode cX11_heap 8 = .ok (.iconst 0, 1) := by decide +kernel
theorem dX11_heap_9 : decode cX11_heap 9 = .ok (.sipush 999, 3) := by decide +kernel
theorem dX11_heap_12 : decode cX11_heap 12 = .ok (.invokestatic 84, 3) := by decide +kernel
theorem dX11_heap_15 : decode cX11_heap 15 = .ok (.ifCond .eq 12, 3) := by decide +kernel
theorem dX11_heap_18 : decode cX11_heap 18 = .ok (.iload_n 3, 1) := by decide +kernel
theorem dX11_heap_19 : decode cX11_heap 19 = .ok (.iconst 0, 1) := by decide +kernel
theorem dX11_heap_20 : decode cX11_heap 20 = .ok (.iconst 2, 1) := by decide +kernel
theorem dX11_heap_21 : decode cX11_heap 21 = .ok (.invokestatic 84, 3) := by decide +kernel
theorem dX11_heap_24 : decode cX11_heap 24 = .ok (.ifCond .ne 7, 3) := by decide +kernel
theorem dX11_heap_27 : decode cX11_heap 27 = .ok (.ldc2_w 216, 3) := by decide +kernel
theorem dX11_heap_30 : decode cX11_heap 30 = .ok (.lreturn, 1) := by decide +kernel
theorem dX11_heap_31 : decode cX11_heap 31 = .ok (.iload_n 1, 1) := by decide +kernel
theorem dX11_heap_32 : decode cX11_heap 32 = .ok (.aload_n 0, 1) := by decide +kernel
theorem dX11_heap_33 : decode cX11_heap 33 = .ok (.iload_n 2, 1) := by decide +kernel
theorem dX11_heap_34 : decode cX11_heap 34 = .ok (.invokevirtual 218, 3) := by decide +kernel
theorem dX11_heap_37 : decode cX11_heap 37 = .ok (.invokestatic 222, 3) := by decide +kernel
theorem dX11_heap_40 : decode cX11_heap 40 = .ok (.lstore 4, 2) := by decide +kernel
theorem dX11_heap_42 : decode cX11_heap 42 = .ok (.lconst 0, 1) := by decide +kernel
theorem dX11_heap_43 : decode cX11_heap 43 = .ok (.lstore 6, 2) := by decide +kernel
theorem dX11_heap_45 : decode cX11_heap 45 = .ok (.lconst 0, 1) := by decide +kernel
theorem dX11_heap_46 : decode cX11_heap 46 = .ok (.lstore 8, 2) := by decide +kernel
theorem dX11_heap_48 : decode cX11_heap 48 = .ok (.iconst 0, 1) := by decide +kernel
theorem dX11_heap_49 : decode cX11_heap 49 = .ok (.istore 10, 2) := by decide +kernel
theorem dX11_heap_51 : decode cX11_heap 51 = .ok (.iload 10, 2) := by decide +kernel
theorem dX11_heap_53 : decode cX11_heap 53 = .ok (.bipush 36, 2) := by decide +kernel
theorem dX11_heap_55 : decode cX11_heap 55 = .ok (.if_icmp .ge 65, 3) := by decide +kernel
theorem dX11_heap_58 : decode cX11_heap 58 = .ok (.lload 4, 2) := by decide +kernel
theorem dX11_heap_60 : decode cX11_heap 60 = .ok (.iload 10, 2) := by decide +kernel
theorem dX11_heap_62 : decode cX11_heap 62 = .ok (.lshr, 1) := by decide +kernel
theorem dX11_heap_63 : decode cX11_heap 63 = .ok (.lconst 1, 1) := by decide +kernel
theorem dX11_heap_64 : decode cX11_heap 64 = .ok (.land, 1) := by decide +kernel
theorem dX11_heap_65 : decode cX11_heap 65 = .ok (.lconst 1, 1) := by decide +kernel
theorem dX11_heap_66 : decode cX11_heap 66 = .ok (.lcmp, 1) := by decide +kernel
theorem dX11_heap_67 : decode cX11_heap 67 = .ok (.ifCond .ne 7, 3) := by decide +kernel
theorem dX11_heap_70 : decode cX11_heap 70 = .ok (.iconst 1, 1) := by decide +kernel
theorem dX11_heap_71 : decode cX11_heap 71 = .ok (.goto 4, 3) := by decide +kernel
theorem dX11_heap_74 : decode cX11_heap 74 = .ok (.iconst 0, 1) := by decide +kernel
theorem dX11_heap_75 : decode cX11_heap 75 = .ok (.istore 11, 2) := by decide +kernel
theorem dX11_heap_77 : decode cX11_heap 77 = .ok (.lload 6, 2) := by decide +kernel
theorem dX11_heap_79 : decode cX11_heap 79 = .ok (.iload 11, 2) := by decide +kernel
theorem dX11_heap_81 : decode cX11_heap 81 = .ok (.ifCond .eq 7, 3) := by decide +kernel
theorem dX11_heap_84 : decode cX11_heap 84 = .ok (.lconst 1, 1) := by decide +kernel
theorem dX11_heap_85 : decode cX11_heap 85 = .ok (.goto 4, 3) := by decide +kernel
theorem dX11_heap_88 : decode cX11_heap 88 = .ok (.lconst 0, 1) := by decide +kernel
theorem dX11_heap_89 : decode cX11_heap 89 = .ok (.ladd, 1) := by decide +kernel
theorem dX11_heap_90 : decode cX11_heap 90 = .ok (.lstore 6, 2) := by decide +kernel
theorem dX11_heap_92 : decode cX11_heap 92 = .ok (.lload 8, 2) := by decide +kernel
theorem dX11_heap_94 : decode cX11_heap 94 = .ok (.iload 11, 2) := by decide +kernel
theorem dX11_heap_96 : decode cX11_heap 96 = .ok (.ifCond .eq 14, 3) := by decide +kernel
theorem dX11_heap_99 : decode cX11_heap 99 = .ok (.aload_n 0, 1) := by decide +kernel
theorem dX11_heap_100 : decode cX11_heap 100 = .ok (.getfield 22, 3) := by decide +kernel
theorem dX11_heap_103 : decode cX11_heap 103 = .ok (.iload 10, 2) := by decide +kernel
theorem dX11_heap_105 : decode cX11_heap 105 = .ok (.iaload, 1) := by decide +kernel
theorem dX11_heap_106 : decode cX11_heap 106 = .ok (.i2l, 1) := by decide +kernel
theorem dX11_heap_107 : decode cX11_heap 107 = .ok (.goto 4, 3) := by decide +kernel
theorem dX11_heap_110 : decode cX11_heap 110 = .ok (.lconst 0, 1) := by decide +kernel
theorem dX11_heap_111 : decode cX11_heap 111 = .ok (.ladd, 1) := by decide +kernel
theorem dX11_heap_112 : decode cX11_heap 112 = .ok (.lstore 8, 2) := by decide +kernel
theorem dX11_heap_114 : decode cX11_heap 114 = .ok (.iinc 10 1, 3) := by decide +kernel
theorem dX11_heap_117 : decode cX11_heap 117 = .ok (.goto (-66), 3) := by decide +kernel
theorem dX11_heap_120 : decode cX11_heap 120 = .ok (.iload_n 3, 1) := by decide +kernel
theorem dX11_heap_121 : decode cX11_heap 121 = .ok (.ifCond .ne 8, 3) := by decide +kernel
theorem dX11_heap_124 : decode cX11_heap 124 = .ok (.lload 4, 2) := by decide +kernel
theorem dX11_heap_126 : decode cX11_heap 126 = .ok (.goto 15, 3) := by decide +kernel
theorem dX11_heap_129 : decode cX11_heap 129 = .ok (.iload_n 3, 1) := by decide +kernel
theorem dX11_heap_130 : decode cX11_heap 130 = .ok (.iconst 1, 1) := by decide +kernel
theorem dX11_heap_131 : decode cX11_heap 131 = .ok (.if_icmp .ne 8, 3) := by decide +kernel
theorem dX11_heap_134 : decode cX11_heap 134 = .ok (.lload 6, 2) := by decide +kernel
theorem dX11_heap_136 : decode cX11_heap 136 = .ok (.goto 5, 3) := by decide +kernel
theorem dX11_heap_139 : decode cX11_heap 139 = .ok (.lload 8, 2) := by decide +kernel
theorem dX11_heap_141 : decode cX11_heap 141 = .ok (.lreturn, 1) := by decide +kernel
theorem dX11_heapsOf_0 : decode cX11_heapsOf 0 = .ok (.aload_n 0, 1) := by decide +kernel
theorem dX11_heapsOf_1 : decode cX11_heapsOf 1 = .ok (.iload_n 1, 1) := by decide +kernel
theorem dX11_heapsOf_2 : decode cX11_heapsOf 2 = .ok (.invokevirtual 218, 3) := by decide +kernel
theorem dX11_heapsOf_5 : decode cX11_heapsOf 5 = .ok (.lstore_n 2, 1) := by decide +kernel
theorem dX11_heapsOf_6 : decode cX11_heapsOf 6 = .ok (.iconst 0, 1) := by decide +kernel
theorem dX11_heapsOf_7 : decode cX11_heapsOf 7 = .ok (.istore 4, 2) := by decide +kernel
theorem dX11_heapsOf_9 : decode cX11_heapsOf 9 = .ok (.iconst 0, 1) := by decide +kernel
theorem dX11_heapsOf_10 : decode cX11_heapsOf 10 = .ok (.istore 5, 2) := by decide +kernel
theorem dX11_heapsOf_12 : decode cX11_heapsOf 12 = .ok (.iload 5, 2) := by decide +kernel
theorem dX11_heapsOf_14 : decode cX11_heapsOf 14 = .ok (.bipush 36, 2) := by decide +kernel
theorem dX11_heapsOf_16 : decode cX11_heapsOf 16 = .ok (.if_icmp .ge 36, 3) := by decide +kernel
theorem dX11_heapsOf_19 : decode cX11_heapsOf 19 = .ok (.lload_n 2, 1) := by decide +kernel
theorem dX11_heapsOf_20 : decode cX11_heapsOf 20 = .ok (.iload 5, 2) := by decide +kernel
theorem dX11_heapsOf_22 : decode cX11_heapsOf 22 = .ok (.lshr, 1) := by decide +kernel
theorem dX11_heapsOf_23 : decode cX11_heapsOf 23 = .ok (.lconst 1, 1) := by decide +kernel
theorem dX11_heapsOf_24 : decode cX11_heapsOf 24 = .ok (.land, 1) := by decide +kernel
theorem dX11_heapsOf_25 : decode cX11_heapsOf 25 = .ok (.lconst 1, 1) := by decide +kernel
theorem dX11_heapsOf_26 : decode cX11_heapsOf 26 = .ok (.lcmp, 1) := by decide +kernel
theorem dX11_heapsOf_27 : decode cX11_heapsOf 27 = .ok (.ifCond .ne 19, 3) := by decide +kernel
theorem dX11_heapsOf_30 : decode cX11_heapsOf 30 = .ok (.lload_n 2, 1) := by decide +kernel
theorem dX11_heapsOf_31 : decode cX11_heapsOf 31 = .ok (.iload 5, 2) := by decide +kernel
theorem dX11_heapsOf_33 : decode cX11_heapsOf 33 = .ok (.lload_n 2, 1) := by decide +kernel
theorem dX11_heapsOf_34 : decode cX11_heapsOf 34 = .ok (.invokestatic 222, 3) := by decide +kernel
theorem dX11_heapsOf_37 : decode cX11_heapsOf 37 = .ok (.ldc2_w 226, 3) := by decide +kernel
theorem dX11_heapsOf_40 : decode cX11_heapsOf 40 = .ok (.lxor, 1) := by decide +kernel
theorem dX11_heapsOf_41 : decode cX11_heapsOf 41 = .ok (.land, 1) := by decide +kernel
theorem dX11_heapsOf_42 : decode cX11_heapsOf 42 = .ok (.lstore_n 2, 1) := by decide +kernel
theorem dX11_heapsOf_43 : decode cX11_heapsOf 43 = .ok (.iinc 4 1, 3) := by decide +kernel
theorem dX11_heapsOf_46 : decode cX11_heapsOf 46 = .ok (.iinc 5 1, 3) := by decide +kernel
theorem dX11_heapsOf_49 : decode cX11_heapsOf 49 = .ok (.goto (-37), 3) := by decide +kernel
theorem dX11_heapsOf_52 : decode cX11_heapsOf 52 = .ok (.iload 4, 2) := by decide +kernel
theorem dX11_heapsOf_54 : decode cX11_heapsOf 54 = .ok (.ireturn, 1) := by decide +kernel
theorem dX11_outermost_0 : decode cX11_outermost 0 = .ok (.iconst 0, 1) := by decide +kernel
theorem dX11_outermost_1 : decode cX11_outermost 1 = .ok (.istore_n 2, 1) := by decide +kernel
theorem dX11_outermost_2 : decode cX11_outermost 2 = .ok (.iconst 1, 1) := by decide +kernel
theorem dX11_outermost_3 : decode cX11_outermost 3 = .ok (.istore_n 3, 1) := by decide +kernel
theorem dX11_outermost_4 : decode cX11_outermost 4 = .ok (.iload_n 3, 1) := by decide +kernel
theorem dX11_outermost_5 : decode cX11_outermost 5 = .ok (.bipush 36, 2) := by decide +kernel
theorem dX11_outermost_7 : decode cX11_outermost 7 = .ok (.if_icmp .ge 81, 3) := by decide +kernel
theorem dX11_outermost_10 : decode cX11_outermost 10 = .ok (.iload_n 1, 1) := by decide +kernel
theorem dX11_outermost_11 : decode cX11_outermost 11 = .ok (.ifCond .eq 32, 3) := by decide +kernel
theorem dX11_outermost_14 : decode cX11_outermost 14 = .ok (.aload_n 0, 1) := by decide +kernel
theorem dX11_outermost_15 : decode cX11_outermost 15 = .ok (.getfield 22, 3) := by decide +kernel
theorem dX11_outermost_18 : decode cX11_outermost 18 = .ok (.iload_n 3, 1) := by decide +kernel
theorem dX11_outermost_19 : decode cX11_outermost 19 = .ok (.iaload, 1) := by decide +kernel
theorem dX11_outermost_20 : decode cX11_outermost 20 = .ok (.aload_n 0, 1) := by decide +kernel
theorem dX11_outermost_21 : decode cX11_outermost 21 = .ok (.getfield 22, 3) := by decide +kernel
theorem dX11_outermost_24 : decode cX11_outermost 24 = .ok (.iload_n 2, 1) := by decide +kernel
theorem dX11_outermost_25 : decode cX11_outermost 25 = .ok (.iconst 0, 1) := by decide +kernel
theorem dX11_outermost_26 : decode cX11_outermost 26 = .ok (.bipush 35, 2) := by decide +kernel
theorem dX11_outermost_28 : decode cX11_outermost 28 = .ok (.invokestatic 173, 3) := by decide +kernel
theorem dX11_outermost_31 : decode cX11_outermost 31 = .ok (.iaload, 1) := by decide +kernel
theorem dX11_outermost_32 : decode cX11_outermost 32 = .ok (.if_icmp .le 7, 3) := by decide +kernel
theorem dX11_outermost_35 : decode cX11_outermost 35 = .ok (.iconst 1, 1) := by decide +kernel
theorem dX11_outermost_36 : decode cX11_outermost 36 = .ok (.goto 33, 3) := by decide +kernel
theorem dX11_outermost_39 : decode cX11_outermost 39 = .ok (.iconst 0, 1) := by decide +kernel
theorem dX11_outermost_40 : decode cX11_outermost 40 = .ok (.goto 29, 3) := by decide +kernel
theorem dX11_outermost_43 : decode cX11_outermost 43 = .ok (.aload_n 0, 1) := by decide +kernel
theorem dX11_outermost_44 : decode cX11_outermost 44 = .ok (.getfield 22, 3) := by decide +kernel
theorem dX11_outermost_47 : decode cX11_outermost 47 = .ok (.iload_n 3, 1) := by decide +kernel
theorem dX11_outermost_48 : decode cX11_outermost 48 = .ok (.iaload, 1) := by decide +kernel
theorem dX11_outermost_49 : decode cX11_outermost 49 = .ok (.aload_n 0, 1) := by decide +kernel
theorem dX11_outermost_50 : decode cX11_outermost 50 = .ok (.getfield 22, 3) := by decide +kernel
theorem dX11_outermost_53 : decode cX11_outermost 53 = .ok (.iload_n 2, 1) := by decide +kernel
theorem dX11_outermost_54 : decode cX11_outermost 54 = .ok (.iconst 0, 1) := by decide +kernel
theorem dX11_outermost_55 : decode cX11_outermost 55 = .ok (.bipush 35, 2) := by decide +kernel
theorem dX11_outermost_57 : decode cX11_outermost 57 = .ok (.invokestatic 173, 3) := by decide +kernel
theorem dX11_outermost_60 : decode cX11_outermost 60 = .ok (.iaload, 1) := by decide +kernel
theorem dX11_outermost_61 : decode cX11_outermost 61 = .ok (.if_icmp .ge 7, 3) := by decide +kernel
theorem dX11_outermost_64 : decode cX11_outermost 64 = .ok (.iconst 1, 1) := by decide +kernel
theorem dX11_outermost_65 : decode cX11_outermost 65 = .ok (.goto 4, 3) := by decide +kernel
theorem dX11_outermost_68 : decode cX11_outermost 68 = .ok (.iconst 0, 1) := by decide +kernel
theorem dX11_outermost_69 : decode cX11_outermost 69 = .ok (.istore 4, 2) := by decide +kernel
theorem dX11_outermost_71 : decode cX11_outermost 71 = .ok (.iload 4, 2) := by decide +kernel
theorem dX11_outermost_73 : decode cX11_outermost 73 = .ok (.ifCond .eq 7, 3) := by decide +kernel
theorem dX11_outermost_76 : decode cX11_outermost 76 = .ok (.iload_n 3, 1) := by decide +kernel
theorem dX11_outermost_77 : decode cX11_outermost 77 = .ok (.goto 4, 3) := by decide +kernel
theorem dX11_outermost_80 : decode cX11_outermost 80 = .ok (.iload_n 2, 1) := by decide +kernel
theorem dX11_outermost_81 : decode cX11_outermost 81 = .ok (.istore_n 2, 1) := by decide +kernel
theorem dX11_outermost_82 : decode cX11_outermost 82 = .ok (.iinc 3 1, 3) := by decide +kernel
theorem dX11_outermost_85 : decode cX11_outermost 85 = .ok (.goto (-81), 3) := by decide +kernel
theorem dX11_outermost_88 : decode cX11_outermost 88 = .ok (.iload_n 2, 1) := by decide +kernel
theorem dX11_outermost_89 : decode cX11_outermost 89 = .ok (.ireturn, 1) := by decide +kernel
theorem dX11_room_0 : decode cX11_room 0 = .ok (.iload_n 1, 1) := by decide +kernel
theorem dX11_room_1 : decode cX11_room 1 = .ok (.iconst 0, 1) := by decide +kernel
theorem dX11_room_2 : decode cX11_room 2 = .ok (.sipush 999, 3) := by decide +kernel
theorem dX11_room_5 : decode cX11_room 5 = .ok (.invokestatic 84, 3) := by decide +kernel
theorem dX11_room_8 : decode cX11_room 8 = .ok (.ifCond .eq 12, 3) := by decide +kernel
theorem dX11_room_11 : decode cX11_room 11 = .ok (.iload_n 2, 1) := by decide +kernel
theorem dX11_room_12 : decode cX11_room 12 = .ok (.iconst 0, 1) := by decide +kernel
theorem dX11_room_13 : decode cX11_room 13 = .ok (.iconst 2, 1) := by decide +kernel
theorem dX11_room_14 : decode cX11_room 14 = .ok (.invokestatic 84, 3) := by decide +kernel
theorem dX11_room_17 : decode cX11_room 17 = .ok (.ifCond .ne 6, 3) := by decide +kernel
theorem dX11_room_20 : decode cX11_room 20 = .ok (.bipush (-2), 2) := by decide +kernel
theorem dX11_room_22 : decode cX11_room 22 = .ok (.ireturn, 1) := by decide +kernel
theorem dX11_room_23 : decode cX11_room 23 = .ok (.iload_n 2, 1) := by decide +kernel
theorem dX11_room_24 : decode cX11_room 24 = .ok (.iconst 2, 1) := by decide +kernel
theorem dX11_room_25 : decode cX11_room 25 = .ok (.if_icmp .ne 11, 3) := by decide +kernel
theorem dX11_room_28 : decode cX11_room 28 = .ok (.aload_n 0, 1) := by decide +kernel
theorem dX11_room_29 : decode cX11_room 29 = .ok (.iload_n 1, 1) := by decide +kernel
theorem dX11_room_30 : decode cX11_room 30 = .ok (.invokevirtual 228, 3) := by decide +kernel
theorem dX11_room_33 : decode cX11_room 33 = .ok (.goto 16, 3) := by decide +kernel
theorem dX11_room_36 : decode cX11_room 36 = .ok (.aload_n 0, 1) := by decide +kernel
theorem dX11_room_37 : decode cX11_room 37 = .ok (.iload_n 2, 1) := by decide +kernel
theorem dX11_room_38 : decode cX11_room 38 = .ok (.ifCond .ne 7, 3) := by decide +kernel
theorem dX11_room_41 : decode cX11_room 41 = .ok (.iconst 1, 1) := by decide +kernel
theorem dX11_room_42 : decode cX11_room 42 = .ok (.goto 4, 3) := by decide +kernel
theorem dX11_room_45 : decode cX11_room 45 = .ok (.iconst 0, 1) := by decide +kernel
theorem dX11_room_46 : decode cX11_room 46 = .ok (.invokevirtual 231, 3) := by decide +kernel
theorem dX11_room_49 : decode cX11_room 49 = .ok (.ireturn, 1) := by decide +kernel
theorem dX11_allWithout_0 : decode cX11_allWithout 0 = .ok (.aload_n 0, 1) := by decide +kernel
theorem dX11_allWithout_1 : decode cX11_allWithout 1 = .ok (.invokevirtual 194, 3) := by decide +kernel
theorem dX11_allWithout_4 : decode cX11_allWithout 4 = .ok (.iconst 0, 1) := by decide +kernel
theorem dX11_allWithout_5 : decode cX11_allWithout 5 = .ok (.istore_n 3, 1) := by decide +kernel
theorem dX11_allWithout_6 : decode cX11_allWithout 6 = .ok (.iload_n 3, 1) := by decide +kernel
theorem dX11_allWithout_7 : decode cX11_allWithout 7 = .ok (.iload_n 2, 1) := by decide +kernel
theorem dX11_allWithout_8 : decode cX11_allWithout 8 = .ok (.if_icmp .ge 14, 3) := by decide +kernel
theorem dX11_allWithout_11 : decode cX11_allWithout 11 = .ok (.aload_n 0, 1) := by decide +kernel
theorem dX11_allWithout_12 : decode cX11_allWithout 12 = .ok (.iload_n 1, 1) := by decide +kernel
theorem dX11_allWithout_13 : decode cX11_allWithout 13 = .ok (.invokevirtual 191, 3) := by decide +kernel
theorem dX11_allWithout_16 : decode cX11_allWithout 16 = .ok (.iinc 3 1, 3) := by decide +kernel
theorem dX11_allWithout_19 : decode cX11_allWithout 19 = .ok (.goto (-13), 3) := by decide +kernel
theorem dX11_allWithout_22 : decode cX11_allWithout 22 = .ok (.aload_n 0, 1) := by decide +kernel
theorem dX11_allWithout_23 : decode cX11_allWithout 23 = .ok (.invokevirtual 95, 3) := by decide +kernel
theorem dX11_allWithout_26 : decode cX11_allWithout 26 = .ok (.istore_n 3, 1) := by decide +kernel
theorem dX11_allWithout_27 : decode cX11_allWithout 27 = .ok (.aload_n 0, 1) := by decide +kernel
theorem dX11_allWithout_28 : decode cX11_allWithout 28 = .ok (.invokevirtual 197, 3) := by decide +kernel
theorem dX11_allWithout_31 : decode cX11_allWithout 31 = .ok (.iload_n 3, 1) := by decide +kernel
theorem dX11_allWithout_32 : decode cX11_allWithout 32 = .ok (.ireturn, 1) := by decide +kernel
theorem dX11_turn_0 : decode cX11_turn 0 = .ok (.iload_n 1, 1) := by decide +kernel
theorem dX11_turn_1 : decode cX11_turn 1 = .ok (.iconst 0, 1) := by decide +kernel
theorem dX11_turn_2 : decode cX11_turn 2 = .ok (.bipush 40, 2) := by decide +kernel
theorem dX11_turn_4 : decode cX11_turn 4 = .ok (.invokestatic 84, 3) := by decide +kernel
theorem dX11_turn_7 : decode cX11_turn 7 = .ok (.ifCond .eq 12, 3) := by decide +kernel
theorem dX11_turn_10 : decode cX11_turn 10 = .ok (.iload_n 2, 1) := by decide +kernel
theorem dX11_turn_11 : decode cX11_turn 11 = .ok (.iconst 0, 1) := by decide +kernel
theorem dX11_turn_12 : decode cX11_turn 12 = .ok (.iconst 1, 1) := by decide +kernel
theorem dX11_turn_13 : decode cX11_turn 13 = .ok (.invokestatic 84, 3) := by decide +kernel
theorem dX11_turn_16 : decode cX11_turn 16 = .ok (.ifCond .ne 6, 3) := by decide +kernel
theorem dX11_turn_19 : decode cX11_turn 19 = .ok (.bipush (-2), 2) := by decide +kernel
theorem dX11_turn_21 : decode cX11_turn 21 = .ok (.ireturn, 1) := by decide +kernel
theorem dX11_turn_22 : decode cX11_turn 22 = .ok (.iconst (-1), 1) := by decide +kernel
theorem dX11_turn_23 : decode cX11_turn 23 = .ok (.istore_n 3, 1) := by decide +kernel
theorem dX11_turn_24 : decode cX11_turn 24 = .ok (.aload_n 0, 1) := by decide +kernel
theorem dX11_turn_25 : decode cX11_turn 25 = .ok (.iconst (-1), 1) := by decide +kernel
theorem dX11_turn_26 : decode cX11_turn 26 = .ok (.iload_n 1, 1) := by decide +kernel
theorem dX11_turn_27 : decode cX11_turn 27 = .ok (.invokevirtual 235, 3) := by decide +kernel
theorem dX11_turn_30 : decode cX11_turn 30 = .ok (.istore 4, 2) := by decide +kernel
theorem dX11_turn_32 : decode cX11_turn 32 = .ok (.iconst 0, 1) := by decide +kernel
theorem dX11_turn_33 : decode cX11_turn 33 = .ok (.istore 5, 2) := by decide +kernel
theorem dX11_turn_35 : decode cX11_turn 35 = .ok (.iload 5, 2) := by decide +kernel
theorem dX11_turn_37 : decode cX11_turn 37 = .ok (.aload_n 0, 1) := by decide +kernel
theorem dX11_turn_38 : decode cX11_turn 38 = .ok (.getfield 81, 3) := by decide +kernel
theorem dX11_turn_41 : decode cX11_turn 41 = .ok (.if_icmp .ge 63, 3) := by decide +kernel
theorem dX11_turn_44 : decode cX11_turn 44 = .ok (.aload_n 0, 1) := by decide +kernel
theorem dX11_turn_45 : decode cX11_turn 45 = .ok (.iload 5, 2) := by decide +kernel
theorem dX11_turn_47 : decode cX11_turn 47 = .ok (.iload_n 1, 1) := by decide +kernel
theorem dX11_turn_48 : decode cX11_turn 48 = .ok (.invokevirtual 235, 3) := by decide +kernel
theorem dX11_turn_51 : decode cX11_turn 51 = .ok (.istore 6, 2) := by decide +kernel
theorem dX11_turn_53 : decode cX11_turn 53 = .ok (.iload_n 3, 1) := by decide +kernel
theorem dX11_turn_54 : decode cX11_turn 54 = .ok (.iconst (-1), 1) := by decide +kernel
theorem dX11_turn_55 : decode cX11_turn 55 = .ok (.if_icmp .eq 10, 3) := by decide +kernel
theorem dX11_turn_58 : decode cX11_turn 58 = .ok (.iload 6, 2) := by decide +kernel
theorem dX11_turn_60 : decode cX11_turn 60 = .ok (.iload 4, 2) := by decide +kernel
theorem dX11_turn_62 : decode cX11_turn 62 = .ok (.if_icmp .ge 7, 3) := by decide +kernel
theorem dX11_turn_65 : decode cX11_turn 65 = .ok (.iconst 1, 1) := by decide +kernel
theorem dX11_turn_66 : decode cX11_turn 66 = .ok (.goto 4, 3) := by decide +kernel
theorem dX11_turn_69 : decode cX11_turn 69 = .ok (.iconst 0, 1) := by decide +kernel
theorem dX11_turn_70 : decode cX11_turn 70 = .ok (.istore 7, 2) := by decide +kernel
theorem dX11_turn_72 : decode cX11_turn 72 = .ok (.iload 7, 2) := by decide +kernel
theorem dX11_turn_74 : decode cX11_turn 74 = .ok (.ifCond .eq 8, 3) := by decide +kernel
theorem dX11_turn_77 : decode cX11_turn 77 = .ok (.iload 5, 2) := by decide +kernel
theorem dX11_turn_79 : decode cX11_turn 79 = .ok (.goto 4, 3) := by decide +kernel
theorem dX11_turn_82 : decode cX11_turn 82 = .ok (.iload_n 3, 1) := by decide +kernel
theorem dX11_turn_83 : decode cX11_turn 83 = .ok (.istore_n 3, 1) := by decide +kernel
theorem dX11_turn_84 : decode cX11_turn 84 = .ok (.iload 7, 2) := by decide +kernel
theorem dX11_turn_86 : decode cX11_turn 86 = .ok (.ifCond .eq 8, 3) := by decide +kernel
theorem dX11_turn_89 : decode cX11_turn 89 = .ok (.iload 6, 2) := by decide +kernel
theorem dX11_turn_91 : decode cX11_turn 91 = .ok (.goto 5, 3) := by decide +kernel
theorem dX11_turn_94 : decode cX11_turn 94 = .ok (.iload 4, 2) := by decide +kernel
theorem dX11_turn_96 : decode cX11_turn 96 = .ok (.istore 4, 2) := by decide +kernel
theorem dX11_turn_98 : decode cX11_turn 98 = .ok (.iinc 5 1, 3) := by decide +kernel
theorem dX11_turn_101 : decode cX11_turn 101 = .ok (.goto (-66), 3) := by decide +kernel
theorem dX11_turn_104 : decode cX11_turn 104 = .ok (.iload_n 2, 1) := by decide +kernel
theorem dX11_turn_105 : decode cX11_turn 105 = .ok (.ifCond .ne 7, 3) := by decide +kernel
theorem dX11_turn_108 : decode cX11_turn 108 = .ok (.iload_n 3, 1) := by decide +kernel
theorem dX11_turn_109 : decode cX11_turn 109 = .ok (.goto 5, 3) := by decide +kernel
theorem dX11_turn_112 : decode cX11_turn 112 = .ok (.iload 4, 2) := by decide +kernel
theorem dX11_turn_114 : decode cX11_turn 114 = .ok (.ireturn, 1) := by decide +kernel
theorem dX11_thickestBehind_0 : decode cX11_thickestBehind 0 = .ok (.aload_n 0, 1) := by decide +kernel
theorem dX11_thickestBehind_1 : decode cX11_thickestBehind 1 = .ok (.invokevirtual 194, 3) := by decide +kernel
theorem dX11_thickestBehind_4 : decode cX11_thickestBehind 4 = .ok (.iconst 0, 1) := by decide +kernel
theorem dX11_thickestBehind_5 : decode cX11_thickestBehind 5 = .ok (.istore_n 2, 1) := by decide +kernel
theorem dX11_thickestBehind_6 : decode cX11_thickestBehind 6 = .ok (.iload_n 2, 1) := by decide +kernel
theorem dX11_thickestBehind_7 : decode cX11_thickestBehind 7 = .ok (.iload_n 1, 1) := by decide +kernel
theorem dX11_thickestBehind_8 : decode cX11_thickestBehind 8 = .ok (.if_icmp .ge 14, 3) := by decide +kernel
theorem dX11_thickestBehind_11 : decode cX11_thickestBehind 11 = .ok (.aload_n 0, 1) := by decide +kernel
theorem dX11_thickestBehind_12 : decode cX11_thickestBehind 12 = .ok (.iconst (-1), 1) := by decide +kernel
theorem dX11_thickestBehind_13 : decode cX11_thickestBehind 13 = .ok (.invokevirtual 191, 3) := by decide +kernel
theorem dX11_thickestBehind_16 : decode cX11_thickestBehind 16 = .ok (.iinc 2 1, 3) := by decide +kernel
theorem dX11_thickestBehind_19 : decode cX11_thickestBehind 19 = .ok (.goto (-13), 3) := by decide +kernel
theorem dX11_thickestBehind_22 : decode cX11_thickestBehind 22 = .ok (.aload_n 0, 1) := by decide +kernel
theorem dX11_thickestBehind_23 : decode cX11_thickestBehind 23 = .ok (.getfield 22, 3) := by decide +kernel
theorem dX11_thickestBehind_26 : decode cX11_thickestBehind 26 = .ok (.aload_n 0, 1) := by decide +kernel
theorem dX11_thickestBehind_27 : decode cX11_thickestBehind 27 = .ok (.iconst 1, 1) := by decide +kernel
theorem dX11_thickestBehind_28 : decode cX11_thickestBehind 28 = .ok (.invokevirtual 231, 3) := by decide +kernel
theorem dX11_thickestBehind_31 : decode cX11_thickestBehind 31 = .ok (.iconst 0, 1) := by decide +kernel
theorem dX11_thickestBehind_32 : decode cX11_thickestBehind 32 = .ok (.bipush 35, 2) := by decide +kernel
theorem dX11_thickestBehind_34 : decode cX11_thickestBehind 34 = .ok (.invokestatic 173, 3) := by decide +kernel
theorem dX11_thickestBehind_37 : decode cX11_thickestBehind 37 = .ok (.iaload, 1) := by decide +kernel
theorem dX11_thickestBehind_38 : decode cX11_thickestBehind 38 = .ok (.istore_n 2, 1) := by decide +kernel
theorem dX11_thickestBehind_39 : decode cX11_thickestBehind 39 = .ok (.aload_n 0, 1) := by decide +kernel
theorem dX11_thickestBehind_40 : decode cX11_thickestBehind 40 = .ok (.invokevirtual 197, 3) := by decide +kernel
theorem dX11_thickestBehind_43 : decode cX11_thickestBehind 43 = .ok (.iload_n 2, 1) := by decide +kernel
theorem dX11_thickestBehind_44 : decode cX11_thickestBehind 44 = .ok (.ireturn, 1) := by decide +kernel
theorem dX11_seats_0 : decode cX11_seats 0 = .ok (.aload_n 0, 1) := by decide +kernel
theorem dX11_seats_1 : decode cX11_seats 1 = .ok (.iload_n 1, 1) := by decide +kernel
theorem dX11_seats_2 : decode cX11_seats 2 = .ok (.invokevirtual 176, 3) := by decide +kernel
theorem dX11_seats_5 : decode cX11_seats 5 = .ok (.ifCond .ne 6, 3) := by decide +kernel
theorem dX11_seats_8 : decode cX11_seats 8 = .ok (.bipush (-5), 2) := by decide +kernel
theorem dX11_seats_10 : decode cX11_seats 10 = .ok (.ireturn, 1) := by decide +kernel
theorem dX11_seats_11 : decode cX11_seats 11 = .ok (.iload_n 2, 1) := by decide +kernel
theorem dX11_seats_12 : decode cX11_seats 12 = .ok (.iconst 0, 1) := by decide +kernel
theorem dX11_seats_13 : decode cX11_seats 13 = .ok (.bipush 20, 2) := by decide +kernel
theorem dX11_seats_15 : decode cX11_seats 15 = .ok (.invokestatic 84, 3) := by decide +kernel
theorem dX11_seats_18 : decode cX11_seats 18 = .ok (.ifCond .eq 12, 3) := by decide +kernel
theorem dX11_seats_21 : decode cX11_seats 21 = .ok (.iload_n 3, 1) := by decide +kernel
theorem dX11_seats_22 : decode cX11_seats 22 = .ok (.iconst 0, 1) := by decide +kernel
theorem dX11_seats_23 : decode cX11_seats 23 = .ok (.iconst 1, 1) := by decide +kernel
theorem dX11_seats_24 : decode cX11_seats 24 = .ok (.invokestatic 84, 3) := by decide +kernel
theorem dX11_seats_27 : decode cX11_seats 27 = .ok (.ifCond .ne 6, 3) := by decide +kernel
theorem dX11_seats_30 : decode cX11_seats 30 = .ok (.bipush (-7), 2) := by decide +kernel
theorem dX11_seats_32 : decode cX11_seats 32 = .ok (.ireturn, 1) := by decide +kernel
theorem dX11_seats_33 : decode cX11_seats 33 = .ok (.aload_n 0, 1) := by decide +kernel
theorem dX11_seats_34 : decode cX11_seats 34 = .ok (.getfield 16, 3) := by decide +kernel
theorem dX11_seats_37 : decode cX11_seats 37 = .ok (.iload_n 1, 1) := by decide +kernel
theorem dX11_seats_38 : decode cX11_seats 38 = .ok (.iaload, 1) := by decide +kernel
theorem dX11_seats_39 : decode cX11_seats 39 = .ok (.istore 4, 2) := by decide +kernel
theorem dX11_seats_41 : decode cX11_seats 41 = .ok (.iconst (-1), 1) := by decide +kernel
theorem dX11_seats_42 : decode cX11_seats 42 = .ok (.istore 5, 2) := by decide +kernel
theorem dX11_seats_44 : decode cX11_seats 44 = .ok (.iconst 0, 1) := by decide +kernel
theorem dX11_seats_45 : decode cX11_seats 45 = .ok (.istore 6, 2) := by decide +kernel
theorem dX11_seats_47 : decode cX11_seats 47 = .ok (.iconst 0, 1) := by decide +kernel
theorem dX11_seats_48 : decode cX11_seats 48 = .ok (.istore 7, 2) := by decide +kernel
theorem dX11_seats_50 : decode cX11_seats 50 = .ok (.iload 7, 2) := by decide +kernel
theorem dX11_seats_52 : decode cX11_seats 52 = .ok (.bipush 36, 2) := by decide +kernel
theorem dX11_seats_54 : decode cX11_seats 54 = .ok (.if_icmp .ge 72, 3) := by decide +kernel
theorem dX11_seats_57 : decode cX11_seats 57 = .ok (.aload_n 0, 1) := by decide +kernel
theorem dX11_seats_58 : decode cX11_seats 58 = .ok (.getfield 16, 3) := by decide +kernel
theorem dX11_seats_61 : decode cX11_seats 61 = .ok (.iload_n 1, 1) := by decide +kernel
theorem dX11_seats_62 : decode cX11_seats 62 = .ok (.iload 7, 2) := by decide +kernel
theorem dX11_seats_64 : decode cX11_seats 64 = .ok (.iastore, 1) := by decide +kernel
theorem dX11_seats_65 : decode cX11_seats 65 = .ok (.aload_n 0, 1) := by decide +kernel
theorem dX11_seats_66 : decode cX11_seats 66 = .ok (.iload_n 2, 1) := by decide +kernel
theorem dX11_seats_67 : decode cX11_seats 67 = .ok (.invokevirtual 238, 3) := by decide +kernel
theorem dX11_seats_70 : decode cX11_seats 70 = .ok (.istore 8, 2) := by decide +kernel
theorem dX11_seats_72 : decode cX11_seats 72 = .ok (.iload 5, 2) := by decide +kernel
theorem dX11_seats_74 : decode cX11_seats 74 = .ok (.iconst (-1), 1) := by decide +kernel
theorem dX11_seats_75 : decode cX11_seats 75 = .ok (.if_icmp .eq 10, 3) := by decide +kernel
theorem dX11_seats_78 : decode cX11_seats 78 = .ok (.iload 8, 2) := by decide +kernel
theorem dX11_seats_80 : decode cX11_seats 80 = .ok (.iload 6, 2) := by decide +kernel
theorem dX11_seats_82 : decode cX11_seats 82 = .ok (.if_icmp .ge 7, 3) := by decide +kernel
theorem dX11_seats_85 : decode cX11_seats 85 = .ok (.iconst 1, 1) := by decide +kernel
theorem dX11_seats_86 : decode cX11_seats 86 = .ok (.goto 4, 3) := by decide +kernel
theorem dX11_seats_89 : decode cX11_seats 89 = .ok (.iconst 0, 1) := by decide +kernel
theorem dX11_seats_90 : decode cX11_seats 90 = .ok (.istore 9, 2) := by decide +kernel
theorem dX11_seats_92 : decode cX11_seats 92 = .ok (.iload 9, 2) := by decide +kernel
theorem dX11_seats_94 : decode cX11_seats 94 = .ok (.ifCond .eq 8, 3) := by decide +kernel
theorem dX11_seats_97 : decode cX11_seats 97 = .ok (.iload 7, 2) := by decide +kernel
theorem dX11_seats_99 : decode cX11_seats 99 = .ok (.goto 5, 3) := by decide +kernel
theorem dX11_seats_102 : decode cX11_seats 102 = .ok (.iload 5, 2) := by decide +kernel
theorem dX11_seats_104 : decode cX11_seats 104 = .ok (.istore 5, 2) := by decide +kernel
theorem dX11_seats_106 : decode cX11_seats 106 = .ok (.iload 9, 2) := by decide +kernel
theorem dX11_seats_108 : decode cX11_seats 108 = .ok (.ifCond .eq 8, 3) := by decide +kernel
theorem dX11_seats_111 : decode cX11_seats 111 = .ok (.iload 8, 2) := by decide +kernel
theorem dX11_seats_113 : decode cX11_seats 113 = .ok (.goto 5, 3) := by decide +kernel
theorem dX11_seats_116 : decode cX11_seats 116 = .ok (.iload 6, 2) := by decide +kernel
theorem dX11_seats_118 : decode cX11_seats 118 = .ok (.istore 6, 2) := by decide +kernel
theorem dX11_seats_120 : decode cX11_seats 120 = .ok (.iinc 7 1, 3) := by decide +kernel
theorem dX11_seats_123 : decode cX11_seats 123 = .ok (.goto (-73), 3) := by decide +kernel
theorem dX11_seats_126 : decode cX11_seats 126 = .ok (.aload_n 0, 1) := by decide +kernel
theorem dX11_seats_127 : decode cX11_seats 127 = .ok (.getfield 16, 3) := by decide +kernel
theorem dX11_seats_130 : decode cX11_seats 130 = .ok (.iload_n 1, 1) := by decide +kernel
theorem dX11_seats_131 : decode cX11_seats 131 = .ok (.iload 4, 2) := by decide +kernel
theorem dX11_seats_133 : decode cX11_seats 133 = .ok (.iastore, 1) := by decide +kernel
theorem dX11_seats_134 : decode cX11_seats 134 = .ok (.iload_n 3, 1) := by decide +kernel
theorem dX11_seats_135 : decode cX11_seats 135 = .ok (.ifCond .ne 8, 3) := by decide +kernel
theorem dX11_seats_138 : decode cX11_seats 138 = .ok (.iload 5, 2) := by decide +kernel
theorem dX11_seats_140 : decode cX11_seats 140 = .ok (.goto 5, 3) := by decide +kernel
theorem dX11_seats_143 : decode cX11_seats 143 = .ok (.iload 6, 2) := by decide +kernel
theorem dX11_seats_145 : decode cX11_seats 145 = .ok (.ireturn, 1) := by decide +kernel
theorem dX11_toldWrong_0 : decode cX11_toldWrong 0 = .ok (.iload_n 1, 1) := by decide +kernel
theorem dX11_toldWrong_1 : decode cX11_toldWrong 1 = .ok (.iconst 0, 1) := by decide +kernel
theorem dX11_toldWrong_2 : decode cX11_toldWrong 2 = .ok (.iconst 3, 1) := by decide +kernel
theorem dX11_toldWrong_3 : decode cX11_toldWrong 3 = .ok (.invokestatic 84, 3) := by decide +kernel
theorem dX11_toldWrong_6 : decode cX11_toldWrong 6 = .ok (.ifCond .ne 6, 3) := by decide +kernel
theorem dX11_toldWrong_9 : decode cX11_toldWrong 9 = .ok (.bipush (-2), 2) := by decide +kernel
theorem dX11_toldWrong_11 : decode cX11_toldWrong 11 = .ok (.ireturn, 1) := by decide +kernel
theorem dX11_toldWrong_12 : decode cX11_toldWrong 12 = .ok (.aload_n 0, 1) := by decide +kernel
theorem dX11_toldWrong_13 : decode cX11_toldWrong 13 = .ok (.getfield 40, 3) := by decide +kernel
theorem dX11_toldWrong_16 : decode cX11_toldWrong 16 = .ok (.iload_n 1, 1) := by decide +kernel
theorem dX11_toldWrong_17 : decode cX11_toldWrong 17 = .ok (.iaload, 1) := by decide +kernel
theorem dX11_toldWrong_18 : decode cX11_toldWrong 18 = .ok (.iconst (-1), 1) := by decide +kernel
theorem dX11_toldWrong_19 : decode cX11_toldWrong 19 = .ok (.if_icmp .ne 6, 3) := by decide +kernel
theorem dX11_toldWrong_22 : decode cX11_toldWrong 22 = .ok (.bipush (-11), 2) := by decide +kernel
theorem dX11_toldWrong_24 : decode cX11_toldWrong 24 = .ok (.ireturn, 1) := by decide +kernel
theorem dX11_toldWrong_25 : decode cX11_toldWrong 25 = .ok (.aload_n 0, 1) := by decide +kernel
theorem dX11_toldWrong_26 : decode cX11_toldWrong 26 = .ok (.getfield 43, 3) := by decide +kernel
theorem dX11_toldWrong_29 : decode cX11_toldWrong 29 = .ok (.iload_n 1, 1) := by decide +kernel
theorem dX11_toldWrong_30 : decode cX11_toldWrong 30 = .ok (.iaload, 1) := by decide +kernel
theorem dX11_toldWrong_31 : decode cX11_toldWrong 31 = .ok (.bipush 20, 2) := by decide +kernel
theorem dX11_toldWrong_33 : decode cX11_toldWrong 33 = .ok (.if_icmp .le 8, 3) := by decide +kernel
theorem dX11_toldWrong_36 : decode cX11_toldWrong 36 = .ok (.bipush (-2), 2) := by decide +kernel
theorem dX11_toldWrong_38 : decode cX11_toldWrong 38 = .ok (.goto 16, 3) := by decide +kernel
theorem dX11_toldWrong_41 : decode cX11_toldWrong 41 = .ok (.iload_n 2, 1) := by decide +kernel
theorem dX11_toldWrong_42 : decode cX11_toldWrong 42 = .ok (.invokestatic 104, 3) := by decide +kernel
theorem dX11_toldWrong_45 : decode cX11_toldWrong 45 = .ok (.ifCond .eq 7, 3) := by decide +kernel
theorem dX11_toldWrong_48 : decode cX11_toldWrong 48 = .ok (.iconst 0, 1) := by decide +kernel
theorem dX11_toldWrong_49 : decode cX11_toldWrong 49 = .ok (.goto 5, 3) := by decide +kernel
theorem dX11_toldWrong_52 : decode cX11_toldWrong 52 = .ok (.bipush (-5), 2) := by decide +kernel
theorem dX11_toldWrong_54 : decode cX11_toldWrong 54 = .ok (.ireturn, 1) := by decide +kernel
theorem dX11_unlike_0 : decode cX11_unlike 0 = .ok (.iconst (-1), 1) := by decide +kernel
theorem dX11_unlike_1 : decode cX11_unlike 1 = .ok (.istore_n 3, 1) := by decide +kernel
theorem dX11_unlike_2 : decode cX11_unlike 2 = .ok (.aload_n 0, 1) := by decide +kernel
theorem dX11_unlike_3 : decode cX11_unlike 3 = .ok (.invokevirtual 194, 3) := by decide +kernel
theorem dX11_unlike_6 : decode cX11_unlike 6 = .ok (.iconst 0, 1) := by decide +kernel
theorem dX11_unlike_7 : decode cX11_unlike 7 = .ok (.istore 4, 2) := by decide +kernel
theorem dX11_unlike_9 : decode cX11_unlike 9 = .ok (.iload 4, 2) := by decide +kernel
theorem dX11_unlike_11 : decode cX11_unlike 11 = .ok (.aload_n 0, 1) := by decide +kernel
theorem dX11_unlike_12 : decode cX11_unlike 12 = .ok (.getfield 43, 3) := by decide +kernel
theorem dX11_unlike_15 : decode cX11_unlike 15 = .ok (.iload_n 1, 1) := by decide +kernel
theorem dX11_unlike_16 : decode cX11_unlike 16 = .ok (.iaload, 1) := by decide +kernel
theorem dX11_unlike_17 : decode cX11_unlike 17 = .ok (.if_icmp .ge 47, 3) := by decide +kernel
theorem dX11_unlike_20 : decode cX11_unlike 20 = .ok (.iload_n 3, 1) := by decide +kernel
theorem dX11_unlike_21 : decode cX11_unlike 21 = .ok (.iconst (-1), 1) := by decide +kernel
theorem dX11_unlike_22 : decode cX11_unlike 22 = .ok (.if_icmp .ne 42, 3) := by decide +kernel
theorem dX11_unlike_25 : decode cX11_unlike 25 = .ok (.aload_n 0, 1) := by decide +kernel
theorem dX11_unlike_26 : decode cX11_unlike 26 = .ok (.iconst (-1), 1) := by decide +kernel
theorem dX11_unlike_27 : decode cX11_unlike 27 = .ok (.invokevirtual 191, 3) := by decide +kernel
theorem dX11_unlike_30 : decode cX11_unlike 30 = .ok (.aload_n 0, 1) := by decide +kernel
theorem dX11_unlike_31 : decode cX11_unlike 31 = .ok (.getfield 46, 3) := by decide +kernel
theorem dX11_unlike_34 : decode cX11_unlike 34 = .ok (.bipush 40, 2) := by decide +kernel
theorem dX11_unlike_36 : decode cX11_unlike 36 = .ok (.iload_n 1, 1) := by decide +kernel
theorem dX11_unlike_37 : decode cX11_unlike 37 = .ok (.imul, 1) := by decide +kernel
theorem dX11_unlike_38 : decode cX11_unlike 38 = .ok (.iload 4, 2) := by decide +kernel
theorem dX11_unlike_40 : decode cX11_unlike 40 = .ok (.iadd, 1) := by decide +kernel
theorem dX11_unlike_41 : decode cX11_unlike 41 = .ok (.iaload, 1) := by decide +kernel
theorem dX11_unlike_42 : decode cX11_unlike 42 = .ok (.aload_n 0, 1) := by decide +kernel
theorem dX11_unlike_43 : decode cX11_unlike 43 = .ok (.getfield 22, 3) := by decide +kernel
theorem dX11_unlike_46 : decode cX11_unlike 46 = .ok (.iload_n 2, 1) := by decide +kernel
theorem dX11_unlike_47 : decode cX11_unlike 47 = .ok (.iaload, 1) := by decide +kernel
theorem dX11_unlike_48 : decode cX11_unlike 48 = .ok (.if_icmp .ne 7, 3) := by decide +kernel
theorem dX11_unlike_51 : decode cX11_unlike 51 = .ok (.iconst (-1), 1) := by decide +kernel
theorem dX11_unlike_52 : decode cX11_unlike 52 = .ok (.goto 5, 3) := by decide +kernel
theorem dX11_unlike_55 : decode cX11_unlike 55 = .ok (.iload 4, 2) := by decide +kernel
theorem dX11_unlike_57 : decode cX11_unlike 57 = .ok (.istore_n 3, 1) := by decide +kernel
theorem dX11_unlike_58 : decode cX11_unlike 58 = .ok (.iinc 4 1, 3) := by decide +kernel
theorem dX11_unlike_61 : decode cX11_unlike 61 = .ok (.goto (-52), 3) := by decide +kernel
theorem dX11_unlike_64 : decode cX11_unlike 64 = .ok (.aload_n 0, 1) := by decide +kernel
theorem dX11_unlike_65 : decode cX11_unlike 65 = .ok (.invokevirtual 197, 3) := by decide +kernel
theorem dX11_unlike_68 : decode cX11_unlike 68 = .ok (.iload_n 3, 1) := by decide +kernel
theorem dX11_unlike_69 : decode cX11_unlike 69 = .ok (.ireturn, 1) := by decide +kernel
theorem dX11_judge_0 : decode cX11_judge 0 = .ok (.aload_n 0, 1) := by decide +kernel
theorem dX11_judge_1 : decode cX11_judge 1 = .ok (.iload_n 1, 1) := by decide +kernel
theorem dX11_judge_2 : decode cX11_judge 2 = .ok (.iload_n 2, 1) := by decide +kernel
theorem dX11_judge_3 : decode cX11_judge 3 = .ok (.invokevirtual 241, 3) := by decide +kernel
theorem dX11_judge_6 : decode cX11_judge 6 = .ok (.istore_n 3, 1) := by decide +kernel
theorem dX11_judge_7 : decode cX11_judge 7 = .ok (.iload_n 3, 1) := by decide +kernel
theorem dX11_judge_8 : decode cX11_judge 8 = .ok (.ifCond .ne 12, 3) := by decide +kernel
theorem dX11_judge_11 : decode cX11_judge 11 = .ok (.aload_n 0, 1) := by decide +kernel
theorem dX11_judge_12 : decode cX11_judge 12 = .ok (.iload_n 1, 1) := by decide +kernel
theorem dX11_judge_13 : decode cX11_judge 13 = .ok (.iload_n 2, 1) := by decide +kernel
theorem dX11_judge_14 : decode cX11_judge 14 = .ok (.invokevirtual 244, 3) := by decide +kernel
theorem dX11_judge_17 : decode cX11_judge 17 = .ok (.goto 4, 3) := by decide +kernel
theorem dX11_judge_20 : decode cX11_judge 20 = .ok (.iload_n 3, 1) := by decide +kernel
theorem dX11_judge_21 : decode cX11_judge 21 = .ok (.ireturn, 1) := by decide +kernel
theorem dX11_kinds_0 : decode cX11_kinds 0 = .ok (.aload_n 0, 1) := by decide +kernel
theorem dX11_kinds_1 : decode cX11_kinds 1 = .ok (.iload_n 1, 1) := by decide +kernel
theorem dX11_kinds_2 : decode cX11_kinds 2 = .ok (.iload_n 2, 1) := by decide +kernel
theorem dX11_kinds_3 : decode cX11_kinds 3 = .ok (.invokevirtual 241, 3) := by decide +kernel
theorem dX11_kinds_6 : decode cX11_kinds 6 = .ok (.istore 5, 2) := by decide +kernel
theorem dX11_kinds_8 : decode cX11_kinds 8 = .ok (.iload 5, 2) := by decide +kernel
theorem dX11_kinds_10 : decode cX11_kinds 10 = .ok (.ifCond .eq 6, 3) := by decide +kernel
theorem dX11_kinds_13 : decode cX11_kinds 13 = .ok (.iload 5, 2) := by decide +kernel
theorem dX11_kinds_15 : decode cX11_kinds 15 = .ok (.ireturn, 1) := by decide +kernel
theorem dX11_kinds_16 : decode cX11_kinds 16 = .ok (.aload_n 0, 1) := by decide +kernel
theorem dX11_kinds_17 : decode cX11_kinds 17 = .ok (.iload_n 3, 1) := by decide +kernel
theorem dX11_kinds_18 : decode cX11_kinds 18 = .ok (.invokevirtual 176, 3) := by decide +kernel
theorem dX11_kinds_21 : decode cX11_kinds 21 = .ok (.ifCond .ne 6, 3) := by decide +kernel
theorem dX11_kinds_24 : decode cX11_kinds 24 = .ok (.bipush (-6), 2) := by decide +kernel
theorem dX11_kinds_26 : decode cX11_kinds 26 = .ok (.ireturn, 1) := by decide +kernel
theorem dX11_kinds_27 : decode cX11_kinds 27 = .ok (.iload 4, 2) := by decide +kernel
theorem dX11_kinds_29 : decode cX11_kinds 29 = .ok (.iconst 0, 1) := by decide +kernel
theorem dX11_kinds_30 : decode cX11_kinds 30 = .ok (.iconst 1, 1) := by decide +kernel
theorem dX11_kinds_31 : decode cX11_kinds 31 = .ok (.invokestatic 84, 3) := by decide +kernel
theorem dX11_kinds_34 : decode cX11_kinds 34 = .ok (.ifCond .ne 6, 3) := by decide +kernel
theorem dX11_kinds_37 : decode cX11_kinds 37 = .ok (.bipush (-7), 2) := by decide +kernel
theorem dX11_kinds_39 : decode cX11_kinds 39 = .ok (.ireturn, 1) := by decide +kernel
theorem dX11_kinds_40 : decode cX11_kinds 40 = .ok (.aload_n 0, 1) := by decide +kernel
theorem dX11_kinds_41 : decode cX11_kinds 41 = .ok (.getfield 7, 3) := by decide +kernel
theorem dX11_kinds_44 : decode cX11_kinds 44 = .ok (.iload_n 3, 1) := by decide +kernel
theorem dX11_kinds_45 : decode cX11_kinds 45 = .ok (.iaload, 1) := by decide +kernel
theorem dX11_kinds_46 : decode cX11_kinds 46 = .ok (.istore 6, 2) := by decide +kernel
theorem dX11_kinds_48 : decode cX11_kinds 48 = .ok (.aload_n 0, 1) := by decide +kernel
theorem dX11_kinds_49 : decode cX11_kinds 49 = .ok (.getfield 13, 3) := by decide +kernel
theorem dX11_kinds_52 : decode cX11_kinds 52 = .ok (.iload_n 3, 1) := by decide +kernel
theorem dX11_kinds_53 : decode cX11_kinds 53 = .ok (.iaload, 1) := by decide +kernel
theorem dX11_kinds_54 : decode cX11_kinds 54 = .ok (.istore 7, 2) := by decide +kernel
theorem dX11_kinds_56 : decode cX11_kinds 56 = .ok (.iconst 0, 1) := by decide +kernel
theorem dX11_kinds_57 : decode cX11_kinds 57 = .ok (.istore 8, 2) := by decide +kernel
theorem dX11_kinds_59 : decode cX11_kinds 59 = .ok (.iconst 0, 1) := by decide +kernel
theorem dX11_kinds_60 : decode cX11_kinds 60 = .ok (.istore 9, 2) := by decide +kernel
theorem dX11_kinds_62 : decode cX11_kinds 62 = .ok (.iload 9, 2) := by decide +kernel
theorem dX11_kinds_64 : decode cX11_kinds 64 = .ok (.iload 4, 2) := by decide +kernel
theorem dX11_kinds_66 : decode cX11_kinds 66 = .ok (.ifCond .ne 8, 3) := by decide +kernel
theorem dX11_kinds_69 : decode cX11_kinds 69 = .ok (.bipush 6, 2) := by decide +kernel
theorem dX11_kinds_71 : decode cX11_kinds 71 = .ok (.goto 5, 3) := by decide +kernel
theorem dX11_kinds_74 : decode cX11_kinds 74 = .ok (.bipush 10, 2) := by decide +kernel
theorem dX11_kinds_76 : decode cX11_kinds 76 = .ok (.if_icmp .ge 69, 3) := by decide +kernel
theorem dX11_kinds_79 : decode cX11_kinds 79 = .ok (.aload_n 0, 1) := by decide +kernel
theorem dX11_kinds_80 : decode cX11_kinds 80 = .ok (.getfield 7, 3) := by decide +kernel
theorem dX11_kinds_83 : decode cX11_kinds 83 = .ok (.iload_n 3, 1) := by decide +kernel
theorem dX11_kinds_84 : decode cX11_kinds 84 = .ok (.iload 4, 2) := by decide +kernel
theorem dX11_kinds_86 : decode cX11_kinds 86 = .ok (.ifCond .ne 8, 3) := by decide +kernel
theorem dX11_kinds_89 : decode cX11_kinds 89 = .ok (.iload 9, 2) := by decide +kernel
theorem dX11_kinds_91 : decode cX11_kinds 91 = .ok (.goto 5, 3) := by decide +kernel
theorem dX11_kinds_94 : decode cX11_kinds 94 = .ok (.iload 6, 2) := by decide +kernel
theorem dX11_kinds_96 : decode cX11_kinds 96 = .ok (.iastore, 1) := by decide +kernel
theorem dX11_kinds_97 : decode cX11_kinds 97 = .ok (.aload_n 0, 1) := by decide +kernel
theorem dX11_kinds_98 : decode cX11_kinds 98 = .ok (.getfield 13, 3) := by decide +kernel
theorem dX11_kinds_101 : decode cX11_kinds 101 = .ok (.iload_n 3, 1) := by decide +kernel
theorem dX11_kinds_102 : decode cX11_kinds 102 = .ok (.iload 4, 2) := by decide +kernel
theorem dX11_kinds_104 : decode cX11_kinds 104 = .ok (.iconst 1, 1) := by decide +kernel
theorem dX11_kinds_105 : decode cX11_kinds 105 = .ok (.if_icmp .ne 8, 3) := by decide +kernel
theorem dX11_kinds_108 : decode cX11_kinds 108 = .ok (.iload 9, 2) := by decide +kernel
theorem dX11_kinds_110 : decode cX11_kinds 110 = .ok (.goto 5, 3) := by decide +kernel
theorem dX11_kinds_113 : decode cX11_kinds 113 = .ok (.iload 7, 2) := by decide +kernel
theorem dX11_kinds_115 : decode cX11_kinds 115 = .ok (.iastore, 1) := by decide +kernel
theorem dX11_kinds_116 : decode cX11_kinds 116 = .ok (.iload 8, 2) := by decide +kernel
theorem dX11_kinds_118 : decode cX11_kinds 118 = .ok (.aload_n 0, 1) := by decide +kernel
theorem dX11_kinds_119 : decode cX11_kinds 119 = .ok (.iload_n 1, 1) := by decide +kernel
theorem dX11_kinds_120 : decode cX11_kinds 120 = .ok (.iload_n 2, 1) := by decide +kernel
theorem dX11_kinds_121 : decode cX11_kinds 121 = .ok (.invokevirtual 244, 3) := by decide +kernel
theorem dX11_kinds_124 : decode cX11_kinds 124 = .ok (.iconst (-1), 1) := by decide +kernel
theorem dX11_kinds_125 : decode cX11_kinds 125 = .ok (.if_icmp .ne 10, 3) := by decide +kernel
theorem dX11_kinds_128 : decode cX11_kinds 128 = .ok (.iconst 1, 1) := by decide +kernel
theorem dX11_kinds_129 : decode cX11_kinds 129 = .ok (.iload 9, 2) := by decide +kernel
theorem dX11_kinds_131 : decode cX11_kinds 131 = .ok (.ishl, 1) := by decide +kernel
theorem dX11_kinds_132 : decode cX11_kinds 132 = .ok (.goto 4, 3) := by decide +kernel
theorem dX11_kinds_135 : decode cX11_kinds 135 = .ok (.iconst 0, 1) := by decide +kernel
theorem dX11_kinds_136 : decode cX11_kinds 136 = .ok (.ior, 1) := by decide +kernel
theorem dX11_kinds_137 : decode cX11_kinds 137 = .ok (.istore 8, 2) := by decide +kernel
theorem dX11_kinds_139 : decode cX11_kinds 139 = .ok (.iinc 9 1, 3) := by decide +kernel
theorem dX11_kinds_142 : decode cX11_kinds 142 = .ok (.goto (-80), 3) := by decide +kernel
theorem dX11_kinds_145 : decode cX11_kinds 145 = .ok (.aload_n 0, 1) := by decide +kernel
theorem dX11_kinds_146 : decode cX11_kinds 146 = .ok (.getfield 7, 3) := by decide +kernel
theorem dX11_kinds_149 : decode cX11_kinds 149 = .ok (.iload_n 3, 1) := by decide +kernel
theorem dX11_kinds_150 : decode cX11_kinds 150 = .ok (.iload 6, 2) := by decide +kernel
theorem dX11_kinds_152 : decode cX11_kinds 152 = .ok (.iastore, 1) := by decide +kernel
theorem dX11_kinds_153 : decode cX11_kinds 153 = .ok (.aload_n 0, 1) := by decide +kernel
theorem dX11_kinds_154 : decode cX11_kinds 154 = .ok (.getfield 13, 3) := by decide +kernel
theorem dX11_kinds_157 : decode cX11_kinds 157 = .ok (.iload_n 3, 1) := by decide +kernel
theorem dX11_kinds_158 : decode cX11_kinds 158 = .ok (.iload 7, 2) := by decide +kernel
theorem dX11_kinds_160 : decode cX11_kinds 160 = .ok (.iastore, 1) := by decide +kernel
theorem dX11_kinds_161 : decode cX11_kinds 161 = .ok (.iload 8, 2) := by decide +kernel
theorem dX11_kinds_163 : decode cX11_kinds 163 = .ok (.ireturn, 1) := by decide +kernel
theorem dX11_where_0 : decode cX11_where 0 = .ok (.aload_n 0, 1) := by decide +kernel
theorem dX11_where_1 : decode cX11_where 1 = .ok (.iload_n 1, 1) := by decide +kernel
theorem dX11_where_2 : decode cX11_where 2 = .ok (.iload_n 2, 1) := by decide +kernel
theorem dX11_where_3 : decode cX11_where 3 = .ok (.invokevirtual 241, 3) := by decide +kernel
theorem dX11_where_6 : decode cX11_where 6 = .ok (.ifCond .ne 11, 3) := by decide +kernel
theorem dX11_where_9 : decode cX11_where 9 = .ok (.aload_n 0, 1) := by decide +kernel
theorem dX11_where_10 : decode cX11_where 10 = .ok (.iload_n 3, 1) := by decide +kernel
theorem dX11_where_11 : decode cX11_where 11 = .ok (.invokevirtual 176, 3) := by decide +kernel
theorem dX11_where_14 : decode cX11_where 14 = .ok (.ifCond .ne 7, 3) := by decide +kernel
theorem dX11_where_17 : decode cX11_where 17 = .ok (.ldc2_w 216, 3) := by decide +kernel
theorem dX11_where_20 : decode cX11_where 20 = .ok (.lreturn, 1) := by decide +kernel
theorem dX11_where_21 : decode cX11_where 21 = .ok (.aload_n 0, 1) := by decide +kernel
theorem dX11_where_22 : decode cX11_where 22 = .ok (.getfield 16, 3) := by decide +kernel
theorem dX11_where_25 : decode cX11_where 25 = .ok (.iload_n 3, 1) := by decide +kernel
theorem dX11_where_26 : decode cX11_where 26 = .ok (.iaload, 1) := by decide +kernel
theorem dX11_where_27 : decode cX11_where 27 = .ok (.istore 4, 2) := by decide +kernel
theorem dX11_where_29 : decode cX11_where 29 = .ok (.lconst 0, 1) := by decide +kernel
theorem dX11_where_30 : decode cX11_where 30 = .ok (.lstore 5, 2) := by decide +kernel
theorem dX11_where_32 : decode cX11_where 32 = .ok (.iconst 0, 1) := by decide +kernel
theorem dX11_where_33 : decode cX11_where 33 = .ok (.istore 7, 2) := by decide +kernel
theorem dX11_where_35 : decode cX11_where 35 = .ok (.iload 7, 2) := by decide +kernel
theorem dX11_where_37 : decode cX11_where 37 = .ok (.bipush 36, 2) := by decide +kernel
theorem dX11_where_39 : decode cX11_where 39 = .ok (.if_icmp .ge 40, 3) := by decide +kernel
theorem dX11_where_42 : decode cX11_where 42 = .ok (.aload_n 0, 1) := by decide +kernel
theorem dX11_where_43 : decode cX11_where 43 = .ok (.getfield 16, 3) := by decide +kernel
theorem dX11_where_46 : decode cX11_where 46 = .ok (.iload_n 3, 1) := by decide +kernel
theorem dX11_where_47 : decode cX11_where 47 = .ok (.iload 7, 2) := by decide +kernel
theorem dX11_where_49 : decode cX11_where 49 = .ok (.iastore, 1) := by decide +kernel
theorem dX11_where_50 : decode cX11_where 50 = .ok (.lload 5, 2) := by decide +kernel
theorem dX11_where_52 : decode cX11_where 52 = .ok (.aload_n 0, 1) := by decide +kernel
theorem dX11_where_53 : decode cX11_where 53 = .ok (.iload_n 1, 1) := by decide +kernel
theorem dX11_where_54 : decode cX11_where 54 = .ok (.iload_n 2, 1) := by decide +kernel
theorem dX11_where_55 : decode cX11_where 55 = .ok (.invokevirtual 244, 3) := by decide +kernel
theorem dX11_where_58 : decode cX11_where 58 = .ok (.iconst (-1), 1) := by decide +kernel
theorem dX11_where_59 : decode cX11_where 59 = .ok (.if_icmp .ne 10, 3) := by decide +kernel
theorem dX11_where_62 : decode cX11_where 62 = .ok (.lconst 1, 1) := by decide +kernel
theorem dX11_where_63 : decode cX11_where 63 = .ok (.iload 7, 2) := by decide +kernel
theorem dX11_where_65 : decode cX11_where 65 = .ok (.lshl, 1) := by decide +kernel
theorem dX11_where_66 : decode cX11_where 66 = .ok (.goto 4, 3) := by decide +kernel
theorem dX11_where_69 : decode cX11_where 69 = .ok (.lconst 0, 1) := by decide +kernel
theorem dX11_where_70 : decode cX11_where 70 = .ok (.lor, 1) := by decide +kernel
theorem dX11_where_71 : decode cX11_where 71 = .ok (.lstore 5, 2) := by decide +kernel
theorem dX11_where_73 : decode cX11_where 73 = .ok (.iinc 7 1, 3) := by decide +kernel
theorem dX11_where_76 : decode cX11_where 76 = .ok (.goto (-41), 3) := by decide +kernel
theorem dX11_where_79 : decode cX11_where 79 = .ok (.aload_n 0, 1) := by decide +kernel
theorem dX11_where_80 : decode cX11_where 80 = .ok (.getfield 16, 3) := by decide +kernel
theorem dX11_where_83 : decode cX11_where 83 = .ok (.iload_n 3, 1) := by decide +kernel
theorem dX11_where_84 : decode cX11_where 84 = .ok (.iload 4, 2) := by decide +kernel
theorem dX11_where_86 : decode cX11_where 86 = .ok (.iastore, 1) := by decide +kernel
theorem dX11_where_87 : decode cX11_where 87 = .ok (.lload 5, 2) := by decide +kernel
theorem dX11_where_89 : decode cX11_where 89 = .ok (.lreturn, 1) := by decide +kernel
theorem dX11_holds_0 : decode cX11_holds 0 = .ok (.aload_n 0, 1) := by decide +kernel
theorem dX11_holds_1 : decode cX11_holds 1 = .ok (.iload_n 1, 1) := by decide +kernel
theorem dX11_holds_2 : decode cX11_holds 2 = .ok (.iload_n 2, 1) := by decide +kernel
theorem dX11_holds_3 : decode cX11_holds 3 = .ok (.invokevirtual 241, 3) := by decide +kernel
theorem dX11_holds_6 : decode cX11_holds 6 = .ok (.istore 5, 2) := by decide +kernel
