theorem kw131 : (.classLink RL 7 RX9 : Cond) ∈ gT := gT_of 131 (by decide +kernel) (by decide +kernel)
theorem dL_law_0 : decode cL_law 0 = .ok (.new 7, 3) := by decide +kernel
theorem dL_law_3 : decode cL_law 3 = .ok (.dup, 1) := by decide +kernel
theorem kw133 : (.methodLink RL 9 yX9_init : Cond) ∈ gT := gT_of 133 (by decide +kernel) (by decide +kernel)
theorem kw135 : (.code yX9_init cX9_init 1 none : Cond) ∈ gT := gT_of 135 (by decide +kernel) (by decide +kernel)
theorem kw134 : (.instanceMethod yX9_init : Cond) ∈ gT := gT_of 134 (by decide +kernel) (by decide +kernel)
theorem dL_law_4 : decode cL_law 4 = .ok (.invokespecial 9, 3) := by decide +kernel
theorem dL_law_7 : decode cL_law 7 = .ok (.astore_n 1, 1) := by decide +kernel
theorem kw1261 : (.classLink RL 10 RX10 : Cond) ∈ gT := gT_of 1261 (by decide +kernel) (by decide +kernel)
theorem dL_law_8 : decode cL_law 8 = .ok (.new 10, 3) := by decide +kernel
theorem dL_law_11 : decode cL_law 11 = .ok (.dup, 1) := by decide +kernel
theorem kw1263 : (.methodLink RL 12 yX10_init : Cond) ∈ gT := gT_of 1263 (by decide +kernel) (by decide +kernel)
theorem kw1265 : (.code yX10_init cX10_init 1 none : Cond) ∈ gT := gT_of 1265 (by decide +kernel) (by decide +kernel)
theorem kw1264 : (.instanceMethod yX10_init : Cond) ∈ gT := gT_of 1264 (by decide +kernel) (by decide +kernel)
theorem dL_law_12 : decode cL_law 12 = .ok (.invokespecial 12, 3) := by decide +kernel
theorem dL_law_15 : decode cL_law 15 = .ok (.astore_n 2, 1) := by decide +kernel
theorem dL_law_16 : decode cL_law 16 = .ok (.iconst 0, 1) := by decide +kernel
theorem dL_law_17 : decode cL_law 17 = .ok (.istore_n 3, 1) := by decide +kernel
theorem dL_law_18 : decode cL_law 18 = .ok (.iload_n 3, 1) := by decide +kernel
theorem dL_law_19 : decode cL_law 19 = .ok (.aload_n 0, 1) := by decide +kernel
theorem dL_law_20 : decode cL_law 20 = .ok (.arraylength, 1) := by decide +kernel
theorem dL_law_21 : decode cL_law 21 = .ok (.bipush 6, 2) := by decide +kernel
theorem dL_law_23 : decode cL_law 23 = .ok (.isub, 1) := by decide +kernel
theorem dL_law_24 : decode cL_law 24 = .ok (.if_icmp .gt 1509, 3) := by decide +kernel
theorem dL_law_1533 : decode cL_law 1533 = .ok (.iconst 1, 1) := by decide +kernel
theorem dL_law_1534 : decode cL_law 1534 = .ok (.ireturn, 1) := by decide +kernel
theorem dL_law_27 : decode cL_law 27 = .ok (.aload_n 0, 1) := by decide +kernel
theorem dL_law_28 : decode cL_law 28 = .ok (.iload_n 3, 1) := by decide +kernel
theorem dL_law_29 : decode cL_law 29 = .ok (.iaload, 1) := by decide +kernel
theorem dL_law_30 : decode cL_law 30 = .ok (.bipush 63, 2) := by decide +kernel
theorem dL_law_32 : decode cL_law 32 = .ok (.iand, 1) := by decide +kernel
theorem dL_law_33 : decode cL_law 33 = .ok (.tableswitch 1494 0 44 #[195, 258, 281, 294, 317, 350, 383, 416, 449, 482, 515, 548, 581, 594, 607, 620, 653, 676, 689, 702, 725, 748, 761, 774, 787, 840, 893, 936, 969, 1002, 1025, 1058, 1081, 1114, 1137, 1186, 1225, 1274, 1323, 1346, 1369, 1392, 1425, 1448, 1471], 195) := by decide +kernel
theorem dL_law_228 : decode cL_law 228 = .ok (.aload_n 1, 1) := by decide +kernel
theorem dL_law_229 : decode cL_law 229 = .ok (.aload_n 0, 1) := by decide +kernel
theorem dL_law_230 : decode cL_law 230 = .ok (.iload_n 3, 1) := by decide +kernel
theorem dL_law_231 : decode cL_law 231 = .ok (.iconst 1, 1) := by decide +kernel
theorem dL_law_232 : decode cL_law 232 = .ok (.iadd, 1) := by decide +kernel
theorem dL_law_233 : decode cL_law 233 = .ok (.iaload, 1) := by decide +kernel
theorem dL_law_234 : decode cL_law 234 = .ok (.aload_n 0, 1) := by decide +kernel
theorem dL_law_235 : decode cL_law 235 = .ok (.iload_n 3, 1) := by decide +kernel
theorem dL_law_236 : decode cL_law 236 = .ok (.iconst 2, 1) := by decide +kernel
theorem dL_law_237 : decode cL_law 237 = .ok (.iadd, 1) := by decide +kernel
theorem dL_law_238 : decode cL_law 238 = .ok (.iaload, 1) := by decide +kernel
theorem dL_law_239 : decode cL_law 239 = .ok (.aload_n 0, 1) := by decide +kernel
theorem dL_law_240 : decode cL_law 240 = .ok (.iload_n 3, 1) := by decide +kernel
theorem dL_law_241 : decode cL_law 241 = .ok (.iconst 3, 1) := by decide +kernel
theorem dL_law_242 : decode cL_law 242 = .ok (.iadd, 1) := by decide +kernel
theorem dL_law_243 : decode cL_law 243 = .ok (.iaload, 1) := by decide +kernel
theorem dL_law_244 : decode cL_law 244 = .ok (.aload_n 0, 1) := by decide +kernel
theorem dL_law_245 : decode cL_law 245 = .ok (.iload_n 3, 1) := by decide +kernel
theorem dL_law_246 : decode cL_law 246 = .ok (.iconst 4, 1) := by decide +kernel
theorem dL_law_247 : decode cL_law 247 = .ok (.iadd, 1) := by decide +kernel
theorem dL_law_248 : decode cL_law 248 = .ok (.iaload, 1) := by decide +kernel
theorem dL_law_249 : decode cL_law 249 = .ok (.aload_n 0, 1) := by decide +kernel
theorem dL_law_250 : decode cL_law 250 = .ok (.iload_n 3, 1) := by decide +kernel
theorem dL_law_251 : decode cL_law 251 = .ok (.iconst 5, 1) := by decide +kernel
theorem dL_law_252 : decode cL_law 252 = .ok (.iadd, 1) := by decide +kernel
theorem dL_law_253 : decode cL_law 253 = .ok (.iaload, 1) := by decide +kernel
theorem kw622 : (.methodLink RL 13 yX9_feed : Cond) ∈ gT := gT_of 622 (by decide +kernel) (by decide +kernel)
theorem kw625 : (.code yX9_feed cX9_feed 6 (some .int) : Cond) ∈ gT := gT_of 625 (by decide +kernel) (by decide +kernel)
theorem kw623 : (.instanceMethod yX9_feed : Cond) ∈ gT := gT_of 623 (by decide +kernel) (by decide +kernel)
theorem kw624 : (.selects RX9 yX9_feed yX9_feed : Cond) ∈ gT := gT_of 624 (by decide +kernel) (by decide +kernel)
theorem dL_law_254 : decode cL_law 254 = .ok (.invokevirtual 13, 3) := by decide +kernel
theorem dL_law_257 : decode cL_law 257 = .ok (.aload_n 2, 1) := by decide +kernel
theorem dL_law_258 : decode cL_law 258 = .ok (.aload_n 0, 1) := by decide +kernel
theorem dL_law_259 : decode cL_law 259 = .ok (.iload_n 3, 1) := by decide +kernel
theorem dL_law_260 : decode cL_law 260 = .ok (.iconst 1, 1) := by decide +kernel
theorem dL_law_261 : decode cL_law 261 = .ok (.iadd, 1) := by decide +kernel
theorem dL_law_262 : decode cL_law 262 = .ok (.iaload, 1) := by decide +kernel
theorem dL_law_263 : decode cL_law 263 = .ok (.aload_n 0, 1) := by decide +kernel
theorem dL_law_264 : decode cL_law 264 = .ok (.iload_n 3, 1) := by decide +kernel
theorem dL_law_265 : decode cL_law 265 = .ok (.iconst 2, 1) := by decide +kernel
theorem dL_law_266 : decode cL_law 266 = .ok (.iadd, 1) := by decide +kernel
theorem dL_law_267 : decode cL_law 267 = .ok (.iaload, 1) := by decide +kernel
theorem dL_law_268 : decode cL_law 268 = .ok (.aload_n 0, 1) := by decide +kernel
theorem dL_law_269 : decode cL_law 269 = .ok (.iload_n 3, 1) := by decide +kernel
theorem dL_law_270 : decode cL_law 270 = .ok (.iconst 3, 1) := by decide +kernel
theorem dL_law_271 : decode cL_law 271 = .ok (.iadd, 1) := by decide +kernel
theorem dL_law_272 : decode cL_law 272 = .ok (.iaload, 1) := by decide +kernel
theorem dL_law_273 : decode cL_law 273 = .ok (.aload_n 0, 1) := by decide +kernel
theorem dL_law_274 : decode cL_law 274 = .ok (.iload_n 3, 1) := by decide +kernel
theorem dL_law_275 : decode cL_law 275 = .ok (.iconst 4, 1) := by decide +kernel
theorem dL_law_276 : decode cL_law 276 = .ok (.iadd, 1) := by decide +kernel
theorem dL_law_277 : decode cL_law 277 = .ok (.iaload, 1) := by decide +kernel
theorem dL_law_278 : decode cL_law 278 = .ok (.aload_n 0, 1) := by decide +kernel
theorem dL_law_279 : decode cL_law 279 = .ok (.iload_n 3, 1) := by decide +kernel
theorem dL_law_280 : decode cL_law 280 = .ok (.iconst 5, 1) := by decide +kernel
theorem dL_law_281 : decode cL_law 281 = .ok (.iadd, 1) := by decide +kernel
theorem dL_law_282 : decode cL_law 282 = .ok (.iaload, 1) := by decide +kernel
theorem kw2010 : (.methodLink RL 17 yX10_feed : Cond) ∈ gT := gT_of 2010 (by decide +kernel) (by decide +kernel)
theorem kw2013 : (.code yX10_feed cX10_feed 8 (some .int) : Cond) ∈ gT := gT_of 2013 (by decide +kernel) (by decide +kernel)
theorem kw2011 : (.instanceMethod yX10_feed : Cond) ∈ gT := gT_of 2011 (by decide +kernel) (by decide +kernel)
theorem kw2012 : (.selects RX10 yX10_feed yX10_feed : Cond) ∈ gT := gT_of 2012 (by decide +kernel) (by decide +kernel)
theorem dL_law_283 : decode cL_law 283 = .ok (.invokevirtual 17, 3) := by decide +kernel
theorem dL_law_286 : decode cL_law 286 = .ok (.if_icmp .eq 1241, 3) := by decide +kernel
theorem dL_law_1527 : decode cL_law 1527 = .ok (.iinc 3 6, 3) := by decide +kernel
theorem dL_law_1530 : decode cL_law 1530 = .ok (.goto (-1512), 3) := by decide +kernel
theorem dL_law_291 : decode cL_law 291 = .ok (.aload_n 1, 1) := by decide +kernel
theorem dL_law_292 : decode cL_law 292 = .ok (.aload_n 0, 1) := by decide +kernel
theorem dL_law_293 : decode cL_law 293 = .ok (.iload_n 3, 1) := by decide +kernel
theorem dL_law_294 : decode cL_law 294 = .ok (.iconst 1, 1) := by decide +kernel
theorem dL_law_295 : decode cL_law 295 = .ok (.iadd, 1) := by decide +kernel
theorem dL_law_296 : decode cL_law 296 = .ok (.iaload, 1) := by decide +kernel
theorem kw634 : (.methodLink RL 18 yX9_end : Cond) ∈ gT := gT_of 634 (by decide +kernel) (by decide +kernel)
theorem kw637 : (.code yX9_end cX9_end 2 (some .int) : Cond) ∈ gT := gT_of 637 (by decide +kernel) (by decide +kernel)
theorem kw635 : (.instanceMethod yX9_end : Cond) ∈ gT := gT_of 635 (by decide +kernel) (by decide +kernel)
theorem kw636 : (.selects RX9 yX9_end yX9_end : Cond) ∈ gT := gT_of 636 (by decide +kernel) (by decide +kernel)
theorem dL_law_297 : decode cL_law 297 = .ok (.invokevirtual 18, 3) := by decide +kernel
theorem dL_law_300 : decode cL_law 300 = .ok (.aload_n 2, 1) := by decide +kernel
theorem dL_law_301 : decode cL_law 301 = .ok (.aload_n 0, 1) := by decide +kernel
theorem dL_law_302 : decode cL_law 302 = .ok (.iload_n 3, 1) := by decide +kernel
theorem dL_law_303 : decode cL_law 303 = .ok (.iconst 1, 1) := by decide +kernel
theorem dL_law_304 : decode cL_law 304 = .ok (.iadd, 1) := by decide +kernel
theorem dL_law_305 : decode cL_law 305 = .ok (.iaload, 1) := by decide +kernel
theorem kw2014 : (.methodLink RL 22 yX10_end : Cond) ∈ gT := gT_of 2014 (by decide +kernel) (by decide +kernel)
theorem kw2017 : (.code yX10_end cX10_end 2 (some .int) : Cond) ∈ gT := gT_of 2017 (by decide +kernel) (by decide +kernel)
theorem kw2015 : (.instanceMethod yX10_end : Cond) ∈ gT := gT_of 2015 (by decide +kernel) (by decide +kernel)
theorem kw2016 : (.selects RX10 yX10_end yX10_end : Cond) ∈ gT := gT_of 2016 (by decide +kernel) (by decide +kernel)
theorem dL_law_306 : decode cL_law 306 = .ok (.invokevirtual 22, 3) := by decide +kernel
theorem dL_law_309 : decode cL_law 309 = .ok (.if_icmp .eq 1218, 3) := by decide +kernel
theorem dL_law_314 : decode cL_law 314 = .ok (.aload_n 1, 1) := by decide +kernel
theorem kw642 : (.methodLink RL 23 yX9_world : Cond) ∈ gT := gT_of 642 (by decide +kernel) (by decide +kernel)
theorem kw645 : (.code yX9_world cX9_world 3 (some .int) : Cond) ∈ gT := gT_of 645 (by decide +kernel) (by decide +kernel)
theorem kw643 : (.instanceMethod yX9_world : Cond) ∈ gT := gT_of 643 (by decide +kernel) (by decide +kernel)
theorem kw644 : (.selects RX9 yX9_world yX9_world : Cond) ∈ gT := gT_of 644 (by decide +kernel) (by decide +kernel)
theorem dL_law_315 : decode cL_law 315 = .ok (.invokevirtual 23, 3) := by decide +kernel
theorem dL_law_318 : decode cL_law 318 = .ok (.aload_n 2, 1) := by decide +kernel
theorem kw1508 : (.methodLink RL 27 yX10_world : Cond) ∈ gT := gT_of 1508 (by decide +kernel) (by decide +kernel)
theorem kw1511 : (.code yX10_world cX10_world 2 (some .int) : Cond) ∈ gT := gT_of 1511 (by decide +kernel) (by decide +kernel)
theorem kw1509 : (.instanceMethod yX10_world : Cond) ∈ gT := gT_of 1509 (by decide +kernel) (by decide +kernel)
theorem kw1510 : (.selects RX10 yX10_world yX10_world : Cond) ∈ gT := gT_of 1510 (by decide +kernel) (by decide +kernel)
theorem dL_law_319 : decode cL_law 319 = .ok (.invokevirtual 27, 3) := by decide +kernel
theorem dL_law_322 : decode cL_law 322 = .ok (.if_icmp .eq 1205, 3) := by decide +kernel
theorem dL_law_327 : decode cL_law 327 = .ok (.aload_n 1, 1) := by decide +kernel
theorem dL_law_328 : decode cL_law 328 = .ok (.aload_n 0, 1) := by decide +kernel
theorem dL_law_329 : decode cL_law 329 = .ok (.iload_n 3, 1) := by decide +kernel
theorem dL_law_330 : decode cL_law 330 = .ok (.iconst 1, 1) := by decide +kernel
theorem dL_law_331 : decode cL_law 331 = .ok (.iadd, 1) := by decide +kernel
theorem dL_law_332 : decode cL_law 332 = .ok (.iaload, 1) := by decide +kernel
theorem kw823 : (.methodLink RL 28 yX9_fault : Cond) ∈ gT := gT_of 823 (by decide +kernel) (by decide +kernel)
theorem kw826 : (.code yX9_fault cX9_fault 2 (some .int) : Cond) ∈ gT := gT_of 826 (by decide +kernel) (by decide +kernel)
theorem kw824 : (.instanceMethod yX9_fault : Cond) ∈ gT := gT_of 824 (by decide +kernel) (by decide +kernel)
theorem kw825 : (.selects RX9 yX9_fault yX9_fault : Cond) ∈ gT := gT_of 825 (by decide +kernel) (by decide +kernel)
theorem dL_law_333 : decode cL_law 333 = .ok (.invokevirtual 28, 3) := by decide +kernel
theorem dL_law_336 : decode cL_law 336 = .ok (.aload_n 2, 1) := by decide +kernel
theorem dL_law_337 : decode cL_law 337 = .ok (.aload_n 0, 1) := by decide +kernel
theorem dL_law_338 : decode cL_law 338 = .ok (.iload_n 3, 1) := by decide +kernel
theorem dL_law_339 : decode cL_law 339 = .ok (.iconst 1, 1) := by decide +kernel
theorem dL_law_340 : decode cL_law 340 = .ok (.iadd, 1) := by decide +kernel
theorem dL_law_341 : decode cL_law 341 = .ok (.iaload, 1) := by decide +kernel
theorem kw1669 : (.methodLink RL 31 yX10_fault : Cond) ∈ gT := gT_of 1669 (by decide +kernel) (by decide +kernel)
theorem kw1672 : (.code yX10_fault cX10_fault 2 (some .int) : Cond) ∈ gT := gT_of 1672 (by decide +kernel) (by decide +kernel)
theorem kw1670 : (.instanceMethod yX10_fault : Cond) ∈ gT := gT_of 1670 (by decide +kernel) (by decide +kernel)
theorem kw1671 : (.selects RX10 yX10_fault yX10_fault : Cond) ∈ gT := gT_of 1671 (by decide +kernel) (by decide +kernel)
theorem dL_law_342 : decode cL_law 342 = .ok (.invokevirtual 31, 3) := by decide +kernel
theorem dL_law_345 : decode cL_law 345 = .ok (.if_icmp .eq 1182, 3) := by decide +kernel
theorem dL_law_350 : decode cL_law 350 = .ok (.aload_n 1, 1) := by decide +kernel
theorem dL_law_351 : decode cL_law 351 = .ok (.aload_n 0, 1) := by decide +kernel
theorem dL_law_352 : decode cL_law 352 = .ok (.iload_n 3, 1) := by decide +kernel
theorem dL_law_353 : decode cL_law 353 = .ok (.iconst 1, 1) := by decide +kernel
theorem dL_law_354 : decode cL_law 354 = .ok (.iadd, 1) := by decide +kernel
theorem dL_law_355 : decode cL_law 355 = .ok (.iaload, 1) := by decide +kernel
theorem dL_law_356 : decode cL_law 356 = .ok (.aload_n 0, 1) := by decide +kernel
theorem dL_law_357 : decode cL_law 357 = .ok (.iload_n 3, 1) := by decide +kernel
theorem dL_law_358 : decode cL_law 358 = .ok (.iconst 2, 1) := by decide +kernel
theorem dL_law_359 : decode cL_law 359 = .ok (.iadd, 1) := by decide +kernel
theorem dL_law_360 : decode cL_law 360 = .ok (.iaload, 1) := by decide +kernel
theorem kw827 : (.methodLink RL 32 yX9_place : Cond) ∈ gT := gT_of 827 (by decide +kernel) (by decide +kernel)
theorem kw830 : (.code yX9_place cX9_place 3 (some .int) : Cond) ∈ gT := gT_of 830 (by decide +kernel) (by decide +kernel)
theorem kw828 : (.instanceMethod yX9_place : Cond) ∈ gT := gT_of 828 (by decide +kernel) (by decide +kernel)
theorem kw829 : (.selects RX9 yX9_place yX9_place : Cond) ∈ gT := gT_of 829 (by decide +kernel) (by decide +kernel)
theorem dL_law_361 : decode cL_law 361 = .ok (.invokevirtual 32, 3) := by decide +kernel
theorem dL_law_364 : decode cL_law 364 = .ok (.aload_n 2, 1) := by decide +kernel
theorem dL_law_365 : decode cL_law 365 = .ok (.aload_n 0, 1) := by decide +kernel
theorem dL_law_366 : decode cL_law 366 = .ok (.iload_n 3, 1) := by decide +kernel
theorem dL_law_367 : decode cL_law 367 = .ok (.iconst 1, 1) := by decide +kernel
theorem dL_law_368 : decode cL_law 368 = .ok (.iadd, 1) := by decide +kernel
theorem dL_law_369 : decode cL_law 369 = .ok (.iaload, 1) := by decide +kernel
theorem dL_law_370 : decode cL_law 370 = .ok (.aload_n 0, 1) := by decide +kernel
theorem dL_law_371 : decode cL_law 371 = .ok (.iload_n 3, 1) := by decide +kernel
theorem dL_law_372 : decode cL_law 372 = .ok (.iconst 2, 1) := by decide +kernel
theorem dL_law_373 : decode cL_law 373 = .ok (.iadd, 1) := by decide +kernel
theorem dL_law_374 : decode cL_law 374 = .ok (.iaload, 1) := by decide +kernel
theorem kw1673 : (.methodLink RL 36 yX10_place : Cond) ∈ gT := gT_of 1673 (by decide +kernel) (by decide +kernel)
theorem kw1676 : (.code yX10_place cX10_place 3 (some .int) : Cond) ∈ gT := gT_of 1676 (by decide +kernel) (by decide +kernel)
theorem kw1674 : (.instanceMethod yX10_place : Cond) ∈ gT := gT_of 1674 (by decide +kernel) (by decide +kernel)
theorem kw1675 : (.selects RX10 yX10_place yX10_place : Cond) ∈ gT := gT_of 1675 (by decide +kernel) (by decide +kernel)
theorem dL_law_375 : decode cL_law 375 = .ok (.invokevirtual 36, 3) := by decide +kernel
theorem dL_law_378 : decode cL_law 378 = .ok (.if_icmp .eq 1149, 3) := by decide +kernel
theorem dL_law_383 : decode cL_law 383 = .ok (.aload_n 1, 1) := by decide +kernel
theorem dL_law_384 : decode cL_law 384 = .ok (.aload_n 0, 1) := by decide +kernel
theorem dL_law_385 : decode cL_law 385 = .ok (.iload_n 3, 1) := by decide +kernel
theorem dL_law_386 : decode cL_law 386 = .ok (.iconst 1, 1) := by decide +kernel
theorem dL_law_387 : decode cL_law 387 = .ok (.iadd, 1) := by decide +kernel
theorem dL_law_388 : decode cL_law 388 = .ok (.iaload, 1) := by decide +kernel
theorem dL_law_389 : decode cL_law 389 = .ok (.aload_n 0, 1) := by decide +kernel
theorem dL_law_390 : decode cL_law 390 = .ok (.iload_n 3, 1) := by decide +kernel
theorem dL_law_391 : decode cL_law 391 = .ok (.iconst 2, 1) := by decide +kernel
theorem dL_law_392 : decode cL_law 392 = .ok (.iadd, 1) := by decide +kernel
theorem dL_law_393 : decode cL_law 393 = .ok (.iaload, 1) := by decide +kernel
theorem kw855 : (.methodLink RL 37 yX9_court : Cond) ∈ gT := gT_of 855 (by decide +kernel) (by decide +kernel)
theorem kw858 : (.code yX9_court cX9_court 3 (some .int) : Cond) ∈ gT := gT_of 858 (by decide +kernel) (by decide +kernel)
theorem kw856 : (.instanceMethod yX9_court : Cond) ∈ gT := gT_of 856 (by decide +kernel) (by decide +kernel)
theorem kw857 : (.selects RX9 yX9_court yX9_court : Cond) ∈ gT := gT_of 857 (by decide +kernel) (by decide +kernel)
theorem dL_law_394 : decode cL_law 394 = .ok (.invokevirtual 37, 3) := by decide +kernel
theorem dL_law_397 : decode cL_law 397 = .ok (.aload_n 2, 1) := by decide +kernel
theorem dL_law_398 : decode cL_law 398 = .ok (.aload_n 0, 1) := by decide +kernel
theorem dL_law_399 : decode cL_law 399 = .ok (.iload_n 3, 1) := by decide +kernel
theorem dL_law_400 : decode cL_law 400 = .ok (.iconst 1, 1) := by decide +kernel
theorem dL_law_401 : decode cL_law 401 = .ok (.iadd, 1) := by decide +kernel
theorem dL_law_402 : decode cL_law 402 = .ok (.iaload, 1) := by decide +kernel
theorem dL_law_403 : decode cL_law 403 = .ok (.aload_n 0, 1) := by decide +kernel
theorem dL_law_404 : decode cL_law 404 = .ok (.iload_n 3, 1) := by decide +kernel
theorem dL_law_405 : decode cL_law 405 = .ok (.iconst 2, 1) := by decide +kernel
theorem dL_law_406 : decode cL_law 406 = .ok (.iadd, 1) := by decide +kernel
theorem dL_law_407 : decode cL_law 407 = .ok (.iaload, 1) := by decide +kernel
theorem kw1700 : (.methodLink RL 40 yX10_court : Cond) ∈ gT := gT_of 1700 (by decide +kernel) (by decide +kernel)
theorem kw1703 : (.code yX10_court cX10_court 3 (some .int) : Cond) ∈ gT := gT_of 1703 (by decide +kernel) (by decide +kernel)
theorem kw1701 : (.instanceMethod yX10_court : Cond) ∈ gT := gT_of 1701 (by decide +kernel) (by decide +kernel)
theorem kw1702 : (.selects RX10 yX10_court yX10_court : Cond) ∈ gT := gT_of 1702 (by decide +kernel) (by decide +kernel)
theorem dL_law_408 : decode cL_law 408 = .ok (.invokevirtual 40, 3) := by decide +kernel
theorem dL_law_411 : decode cL_law 411 = .ok (.if_icmp .eq 1116, 3) := by decide +kernel
theorem dL_law_416 : decode cL_law 416 = .ok (.aload_n 1, 1) := by decide +kernel
theorem dL_law_417 : decode cL_law 417 = .ok (.aload_n 0, 1) := by decide +kernel
theorem dL_law_418 : decode cL_law 418 = .ok (.iload_n 3, 1) := by decide +kernel
theorem dL_law_419 : decode cL_law 419 = .ok (.iconst 1, 1) := by decide +kernel
theorem dL_law_420 : decode cL_law 420 = .ok (.iadd, 1) := by decide +kernel
theorem dL_law_421 : decode cL_law 421 = .ok (.iaload, 1) := by decide +kernel
theorem dL_law_422 : decode cL_law 422 = .ok (.aload_n 0, 1) := by decide +kernel
theorem dL_law_423 : decode cL_law 423 = .ok (.iload_n 3, 1) := by decide +kernel
theorem dL_law_424 : decode cL_law 424 = .ok (.iconst 2, 1) := by decide +kernel
theorem dL_law_425 : decode cL_law 425 = .ok (.iadd, 1) := by decide +kernel
theorem dL_law_426 : decode cL_law 426 = .ok (.iaload, 1) := by decide +kernel
theorem kw918 : (.methodLink RL 41 yX9_crop : Cond) ∈ gT := gT_of 918 (by decide +kernel) (by decide +kernel)
theorem kw921 : (.code yX9_crop cX9_crop 3 (some .int) : Cond) ∈ gT := gT_of 921 (by decide +kernel) (by decide +kernel)
theorem kw919 : (.instanceMethod yX9_crop : Cond) ∈ gT := gT_of 919 (by decide +kernel) (by decide +kernel)
theorem kw920 : (.selects RX9 yX9_crop yX9_crop : Cond) ∈ gT := gT_of 920 (by decide +kernel) (by decide +kernel)
theorem dL_law_427 : decode cL_law 427 = .ok (.invokevirtual 41, 3) := by decide +kernel
theorem dL_law_430 : decode cL_law 430 = .ok (.aload_n 2, 1) := by decide +kernel
theorem dL_law_431 : decode cL_law 431 = .ok (.aload_n 0, 1) := by decide +kernel
theorem dL_law_432 : decode cL_law 432 = .ok (.iload_n 3, 1) := by decide +kernel
theorem dL_law_433 : decode cL_law 433 = .ok (.iconst 1, 1) := by decide +kernel
theorem dL_law_434 : decode cL_law 434 = .ok (.iadd, 1) := by decide +kernel
theorem dL_law_435 : decode cL_law 435 = .ok (.iaload, 1) := by decide +kernel
theorem dL_law_436 : decode cL_law 436 = .ok (.aload_n 0, 1) := by decide +kernel
theorem dL_law_437 : decode cL_law 437 = .ok (.iload_n 3, 1) := by decide +kernel
theorem dL_law_438 : decode cL_law 438 = .ok (.iconst 2, 1) := by decide +kernel
theorem dL_law_439 : decode cL_law 439 = .ok (.iadd, 1) := by decide +kernel
theorem dL_law_440 : decode cL_law 440 = .ok (.iaload, 1) := by decide +kernel
theorem kw1743 : (.methodLink RL 44 yX10_crop : Cond) ∈ gT := gT_of 1743 (by decide +kernel) (by decide +kernel)
theorem kw1746 : (.code yX10_crop cX10_crop 3 (some .int) : Cond) ∈ gT := gT_of 1746 (by decide +kernel) (by decide +kernel)
theorem kw1744 : (.instanceMethod yX10_crop : Cond) ∈ gT := gT_of 1744 (by decide +kernel) (by decide +kernel)
theorem kw1745 : (.selects RX10 yX10_crop yX10_crop : Cond) ∈ gT := gT_of 1745 (by decide +kernel) (by decide +kernel)
theorem dL_law_441 : decode cL_law 441 = .ok (.invokevirtual 44, 3) := by decide +kernel
theorem dL_law_444 : decode cL_law 444 = .ok (.if_icmp .eq 1083, 3) := by decide +kernel
theorem dL_law_449 : decode cL_law 449 = .ok (.aload_n 1, 1) := by decide +kernel
theorem dL_law_450 : decode cL_law 450 = .ok (.aload_n 0, 1) := by decide +kernel
theorem dL_law_451 : decode cL_law 451 = .ok (.iload_n 3, 1) := by decide +kernel
theorem dL_law_452 : decode cL_law 452 = .ok (.iconst 1, 1) := by decide +kernel
theorem dL_law_453 : decode cL_law 453 = .ok (.iadd, 1) := by decide +kernel
theorem dL_law_454 : decode cL_law 454 = .ok (.iaload, 1) := by decide +kernel
theorem dL_law_455 : decode cL_law 455 = .ok (.aload_n 0, 1) := by decide +kernel
theorem dL_law_456 : decode cL_law 456 = .ok (.iload_n 3, 1) := by decide +kernel
theorem dL_law_457 : decode cL_law 457 = .ok (.iconst 2, 1) := by decide +kernel
theorem dL_law_458 : decode cL_law 458 = .ok (.iadd, 1) := by decide +kernel
theorem dL_law_459 : decode cL_law 459 = .ok (.iaload, 1) := by decide +kernel
theorem kw931 : (.methodLink RL 45 yX9_belief : Cond) ∈ gT := gT_of 931 (by decide +kernel) (by decide +kernel)
theorem kw934 : (.code yX9_belief cX9_belief 3 (some .int) : Cond) ∈ gT := gT_of 934 (by decide +kernel) (by decide +kernel)
theorem kw932 : (.instanceMethod yX9_belief : Cond) ∈ gT := gT_of 932 (by decide +kernel) (by decide +kernel)
theorem kw933 : (.selects RX9 yX9_belief yX9_belief : Cond) ∈ gT := gT_of 933 (by decide +kernel) (by decide +kernel)
theorem dL_law_460 : decode cL_law 460 = .ok (.invokevirtual 45, 3) := by decide +kernel
theorem dL_law_463 : decode cL_law 463 = .ok (.aload_n 2, 1) := by decide +kernel
theorem dL_law_464 : decode cL_law 464 = .ok (.aload_n 0, 1) := by decide +kernel
theorem dL_law_465 : decode cL_law 465 = .ok (.iload_n 3, 1) := by decide +kernel
theorem dL_law_466 : decode cL_law 466 = .ok (.iconst 1, 1) := by decide +kernel
theorem dL_law_467 : decode cL_law 467 = .ok (.iadd, 1) := by decide +kernel
theorem dL_law_468 : decode cL_law 468 = .ok (.iaload, 1) := by decide +kernel
theorem dL_law_469 : decode cL_law 469 = .ok (.aload_n 0, 1) := by decide +kernel
theorem dL_law_470 : decode cL_law 470 = .ok (.iload_n 3, 1) := by decide +kernel
theorem dL_law_471 : decode cL_law 471 = .ok (.iconst 2, 1) := by decide +kernel
theorem dL_law_472 : decode cL_law 472 = .ok (.iadd, 1) := by decide +kernel
theorem dL_law_473 : decode cL_law 473 = .ok (.iaload, 1) := by decide +kernel
theorem kw1755 : (.methodLink RL 48 yX10_belief : Cond) ∈ gT := gT_of 1755 (by decide +kernel) (by decide +kernel)
theorem kw1758 : (.code yX10_belief cX10_belief 3 (some .int) : Cond) ∈ gT := gT_of 1758 (by decide +kernel) (by decide +kernel)
theorem kw1756 : (.instanceMethod yX10_belief : Cond) ∈ gT := gT_of 1756 (by decide +kernel) (by decide +kernel)
theorem kw1757 : (.selects RX10 yX10_belief yX10_belief : Cond) ∈ gT := gT_of 1757 (by decide +kernel) (by decide +kernel)
theorem dL_law_474 : decode cL_law 474 = .ok (.invokevirtual 48, 3) := by decide +kernel
theorem dL_law_477 : decode cL_law 477 = .ok (.if_icmp .eq 1050, 3) := by decide +kernel
theorem dL_law_482 : decode cL_law 482 = .ok (.aload_n 1, 1) := by decide +kernel
theorem dL_law_483 : decode cL_law 483 = .ok (.aload_n 0, 1) := by decide +kernel
theorem dL_law_484 : decode cL_law 484 = .ok (.iload_n 3, 1) := by decide +kernel
theorem dL_law_485 : decode cL_law 485 = .ok (.iconst 1, 1) := by decide +kernel
theorem dL_law_486 : decode cL_law 486 = .ok (.iadd, 1) := by decide +kernel
theorem dL_law_487 : decode cL_law 487 = .ok (.iaload, 1) := by decide +kernel
theorem dL_law_488 : decode cL_law 488 = .ok (.aload_n 0, 1) := by decide +kernel
theorem dL_law_489 : decode cL_law 489 = .ok (.iload_n 3, 1) := by decide +kernel
theorem dL_law_490 : decode cL_law 490 = .ok (.iconst 2, 1) := by decide +kernel
theorem dL_law_491 : decode cL_law 491 = .ok (.iadd, 1) := by decide +kernel
theorem dL_law_492 : decode cL_law 492 = .ok (.iaload, 1) := by decide +kernel
theorem kw936 : (.methodLink RL 49 yX9_worth : Cond) ∈ gT := gT_of 936 (by decide +kernel) (by decide +kernel)
theorem kw939 : (.code yX9_worth cX9_worth 3 (some .int) : Cond) ∈ gT := gT_of 939 (by decide +kernel) (by decide +kernel)
theorem kw937 : (.instanceMethod yX9_worth : Cond) ∈ gT := gT_of 937 (by decide +kernel) (by decide +kernel)
theorem kw938 : (.selects RX9 yX9_worth yX9_worth : Cond) ∈ gT := gT_of 938 (by decide +kernel) (by decide +kernel)
theorem dL_law_493 : decode cL_law 493 = .ok (.invokevirtual 49, 3) := by decide +kernel
theorem dL_law_496 : decode cL_law 496 = .ok (.aload_n 2, 1) := by decide +kernel
theorem dL_law_497 : decode cL_law 497 = .ok (.aload_n 0, 1) := by decide +kernel
theorem dL_law_498 : decode cL_law 498 = .ok (.iload_n 3, 1) := by decide +kernel
theorem dL_law_499 : decode cL_law 499 = .ok (.iconst 1, 1) := by decide +kernel
theorem dL_law_500 : decode cL_law 500 = .ok (.iadd, 1) := by decide +kernel
theorem dL_law_501 : decode cL_law 501 = .ok (.iaload, 1) := by decide +kernel
theorem dL_law_502 : decode cL_law 502 = .ok (.aload_n 0, 1) := by decide +kernel
theorem dL_law_503 : decode cL_law 503 = .ok (.iload_n 3, 1) := by decide +kernel
theorem dL_law_504 : decode cL_law 504 = .ok (.iconst 2, 1) := by decide +kernel
theorem dL_law_505 : decode cL_law 505 = .ok (.iadd, 1) := by decide +kernel
theorem dL_law_506 : decode cL_law 506 = .ok (.iaload, 1) := by decide +kernel
theorem kw1759 : (.methodLink RL 52 yX10_worth : Cond) ∈ gT := gT_of 1759 (by decide +kernel) (by decide +kernel)
theorem kw1762 : (.code yX10_worth cX10_worth 3 (some .int) : Cond) ∈ gT := gT_of 1762 (by decide +kernel) (by decide +kernel)
theorem kw1760 : (.instanceMethod yX10_worth : Cond) ∈ gT := gT_of 1760 (by decide +kernel) (by decide +kernel)
theorem kw1761 : (.selects RX10 yX10_worth yX10_worth : Cond) ∈ gT := gT_of 1761 (by decide +kernel) (by decide +kernel)
theorem dL_law_507 : decode cL_law 507 = .ok (.invokevirtual 52, 3) := by decide +kernel
theorem dL_law_510 : decode cL_law 510 = .ok (.if_icmp .eq 1017, 3) := by decide +kernel
theorem dL_law_515 : decode cL_law 515 = .ok (.aload_n 1, 1) := by decide +kernel
theorem dL_law_516 : decode cL_law 516 = .ok (.aload_n 0, 1) := by decide +kernel
theorem dL_law_517 : decode cL_law 517 = .ok (.iload_n 3, 1) := by decide +kernel
theorem dL_law_518 : decode cL_law 518 = .ok (.iconst 1, 1) := by decide +kernel
theorem dL_law_519 : decode cL_law 519 = .ok (.iadd, 1) := by decide +kernel
theorem dL_law_520 : decode cL_law 520 = .ok (.iaload, 1) := by decide +kernel
theorem dL_law_521 : decode cL_law 521 = .ok (.aload_n 0, 1) := by decide +kernel
theorem dL_law_522 : decode cL_law 522 = .ok (.iload_n 3, 1) := by decide +kernel
theorem dL_law_523 : decode cL_law 523 = .ok (.iconst 2, 1) := by decide +kernel
theorem dL_law_524 : decode cL_law 524 = .ok (.iadd, 1) := by decide +kernel
theorem dL_law_525 : decode cL_law 525 = .ok (.iaload, 1) := by decide +kernel
theorem kw941 : (.methodLink RL 53 yX9_swap : Cond) ∈ gT := gT_of 941 (by decide +kernel) (by decide +kernel)
theorem kw944 : (.code yX9_swap cX9_swap 4 (some .boolean) : Cond) ∈ gT := gT_of 944 (by decide +kernel) (by decide +kernel)
theorem kw942 : (.instanceMethod yX9_swap : Cond) ∈ gT := gT_of 942 (by decide +kernel) (by decide +kernel)
theorem kw943 : (.selects RX9 yX9_swap yX9_swap : Cond) ∈ gT := gT_of 943 (by decide +kernel) (by decide +kernel)
theorem dL_law_526 : decode cL_law 526 = .ok (.invokevirtual 53, 3) := by decide +kernel
theorem dL_law_529 : decode cL_law 529 = .ok (.aload_n 2, 1) := by decide +kernel
theorem dL_law_530 : decode cL_law 530 = .ok (.aload_n 0, 1) := by decide +kernel
theorem dL_law_531 : decode cL_law 531 = .ok (.iload_n 3, 1) := by decide +kernel
theorem dL_law_532 : decode cL_law 532 = .ok (.iconst 1, 1) := by decide +kernel
theorem dL_law_533 : decode cL_law 533 = .ok (.iadd, 1) := by decide +kernel
theorem dL_law_534 : decode cL_law 534 = .ok (.iaload, 1) := by decide +kernel
theorem dL_law_535 : decode cL_law 535 = .ok (.aload_n 0, 1) := by decide +kernel
theorem dL_law_536 : decode cL_law 536 = .ok (.iload_n 3, 1) := by decide +kernel
theorem dL_law_537 : decode cL_law 537 = .ok (.iconst 2, 1) := by decide +kernel
theorem dL_law_538 : decode cL_law 538 = .ok (.iadd, 1) := by decide +kernel
theorem dL_law_539 : decode cL_law 539 = .ok (.iaload, 1) := by decide +kernel
theorem kw1775 : (.methodLink RL 57 yX10_swap : Cond) ∈ gT := gT_of 1775 (by decide +kernel) (by decide +kernel)
theorem kw1778 : (.code yX10_swap cX10_swap 3 (some .boolean) : Cond) ∈ gT := gT_of 1778 (by decide +kernel) (by decide +kernel)
theorem kw1776 : (.instanceMethod yX10_swap : Cond) ∈ gT := gT_of 1776 (by decide +kernel) (by decide +kernel)
theorem kw1777 : (.selects RX10 yX10_swap yX10_swap : Cond) ∈ gT := gT_of 1777 (by decide +kernel) (by decide +kernel)
theorem dL_law_540 : decode cL_law 540 = .ok (.invokevirtual 57, 3) := by decide +kernel
theorem dL_law_543 : decode cL_law 543 = .ok (.if_icmp .eq 984, 3) := by decide +kernel
theorem dL_law_548 : decode cL_law 548 = .ok (.aload_n 1, 1) := by decide +kernel
theorem dL_law_549 : decode cL_law 549 = .ok (.aload_n 0, 1) := by decide +kernel
theorem dL_law_550 : decode cL_law 550 = .ok (.iload_n 3, 1) := by decide +kernel
theorem dL_law_551 : decode cL_law 551 = .ok (.iconst 1, 1) := by decide +kernel
theorem dL_law_552 : decode cL_law 552 = .ok (.iadd, 1) := by decide +kernel
theorem dL_law_553 : decode cL_law 553 = .ok (.iaload, 1) := by decide +kernel
theorem dL_law_554 : decode cL_law 554 = .ok (.aload_n 0, 1) := by decide +kernel
theorem dL_law_555 : decode cL_law 555 = .ok (.iload_n 3, 1) := by decide +kernel
theorem dL_law_556 : decode cL_law 556 = .ok (.iconst 2, 1) := by decide +kernel
theorem dL_law_557 : decode cL_law 557 = .ok (.iadd, 1) := by decide +kernel
theorem dL_law_558 : decode cL_law 558 = .ok (.iaload, 1) := by decide +kernel
theorem kw961 : (.methodLink RL 58 yX9_cede : Cond) ∈ gT := gT_of 961 (by decide +kernel) (by decide +kernel)
theorem kw964 : (.code yX9_cede cX9_cede 4 (some .int) : Cond) ∈ gT := gT_of 964 (by decide +kernel) (by decide +kernel)
theorem kw962 : (.instanceMethod yX9_cede : Cond) ∈ gT := gT_of 962 (by decide +kernel) (by decide +kernel)
theorem kw963 : (.selects RX9 yX9_cede yX9_cede : Cond) ∈ gT := gT_of 963 (by decide +kernel) (by decide +kernel)
theorem dL_law_559 : decode cL_law 559 = .ok (.invokevirtual 58, 3) := by decide +kernel
theorem dL_law_562 : decode cL_law 562 = .ok (.aload_n 2, 1) := by decide +kernel
theorem dL_law_563 : decode cL_law 563 = .ok (.aload_n 0, 1) := by decide +kernel
theorem dL_law_564 : decode cL_law 564 = .ok (.iload_n 3, 1) := by decide +kernel
theorem dL_law_565 : decode cL_law 565 = .ok (.iconst 1, 1) := by decide +kernel
theorem dL_law_566 : decode cL_law 566 = .ok (.iadd, 1) := by decide +kernel
theorem dL_law_567 : decode cL_law 567 = .ok (.iaload, 1) := by decide +kernel
theorem dL_law_568 : decode cL_law 568 = .ok (.aload_n 0, 1) := by decide +kernel
theorem dL_law_569 : decode cL_law 569 = .ok (.iload_n 3, 1) := by decide +kernel
theorem dL_law_570 : decode cL_law 570 = .ok (.iconst 2, 1) := by decide +kernel
theorem dL_law_571 : decode cL_law 571 = .ok (.iadd, 1) := by decide +kernel
theorem dL_law_572 : decode cL_law 572 = .ok (.iaload, 1) := by decide +kernel
theorem kw1791 : (.methodLink RL 61 yX10_cede : Cond) ∈ gT := gT_of 1791 (by decide +kernel) (by decide +kernel)
theorem kw1794 : (.code yX10_cede cX10_cede 4 (some .int) : Cond) ∈ gT := gT_of 1794 (by decide +kernel) (by decide +kernel)
theorem kw1792 : (.instanceMethod yX10_cede : Cond) ∈ gT := gT_of 1792 (by decide +kernel) (by decide +kernel)
theorem kw1793 : (.selects RX10 yX10_cede yX10_cede : Cond) ∈ gT := gT_of 1793 (by decide +kernel) (by decide +kernel)
theorem dL_law_573 : decode cL_law 573 = .ok (.invokevirtual 61, 3) := by decide +kernel
theorem dL_law_576 : decode cL_law 576 = .ok (.if_icmp .eq 951, 3) := by decide +kernel
theorem dL_law_581 : decode cL_law 581 = .ok (.aload_n 1, 1) := by decide +kernel
theorem dL_law_582 : decode cL_law 582 = .ok (.aload_n 0, 1) := by decide +kernel
theorem dL_law_583 : decode cL_law 583 = .ok (.iload_n 3, 1) := by decide +kernel
theorem dL_law_584 : decode cL_law 584 = .ok (.iconst 1, 1) := by decide +kernel
theorem dL_law_585 : decode cL_law 585 = .ok (.iadd, 1) := by decide +kernel
theorem dL_law_586 : decode cL_law 586 = .ok (.iaload, 1) := by decide +kernel
theorem dL_law_587 : decode cL_law 587 = .ok (.aload_n 0, 1) := by decide +kernel
theorem dL_law_588 : decode cL_law 588 = .ok (.iload_n 3, 1) := by decide +kernel
theorem dL_law_589 : decode cL_law 589 = .ok (.iconst 2, 1) := by decide +kernel
theorem dL_law_590 : decode cL_law 590 = .ok (.iadd, 1) := by decide +kernel
theorem dL_law_591 : decode cL_law 591 = .ok (.iaload, 1) := by decide +kernel
theorem kw965 : (.methodLink RL 62 yX9_carry : Cond) ∈ gT := gT_of 965 (by decide +kernel) (by decide +kernel)
theorem kw968 : (.code yX9_carry cX9_carry 4 (some .int) : Cond) ∈ gT := gT_of 968 (by decide +kernel) (by decide +kernel)
theorem kw966 : (.instanceMethod yX9_carry : Cond) ∈ gT := gT_of 966 (by decide +kernel) (by decide +kernel)
theorem kw967 : (.selects RX9 yX9_carry yX9_carry : Cond) ∈ gT := gT_of 967 (by decide +kernel) (by decide +kernel)
theorem dL_law_592 : decode cL_law 592 = .ok (.invokevirtual 62, 3) := by decide +kernel
theorem dL_law_595 : decode cL_law 595 = .ok (.aload_n 2, 1) := by decide +kernel
theorem dL_law_596 : decode cL_law 596 = .ok (.aload_n 0, 1) := by decide +kernel
theorem dL_law_597 : decode cL_law 597 = .ok (.iload_n 3, 1) := by decide +kernel
theorem dL_law_598 : decode cL_law 598 = .ok (.iconst 1, 1) := by decide +kernel
theorem dL_law_599 : decode cL_law 599 = .ok (.iadd, 1) := by decide +kernel
theorem dL_law_600 : decode cL_law 600 = .ok (.iaload, 1) := by decide +kernel
theorem dL_law_601 : decode cL_law 601 = .ok (.aload_n 0, 1) := by decide +kernel
theorem dL_law_602 : decode cL_law 602 = .ok (.iload_n 3, 1) := by decide +kernel
theorem dL_law_603 : decode cL_law 603 = .ok (.iconst 2, 1) := by decide +kernel
theorem dL_law_604 : decode cL_law 604 = .ok (.iadd, 1) := by decide +kernel
theorem dL_law_605 : decode cL_law 605 = .ok (.iaload, 1) := by decide +kernel
theorem kw1795 : (.methodLink RL 65 yX10_carry : Cond) ∈ gT := gT_of 1795 (by decide +kernel) (by decide +kernel)
theorem kw1798 : (.code yX10_carry cX10_carry 3 (some .int) : Cond) ∈ gT := gT_of 1798 (by decide +kernel) (by decide +kernel)
theorem kw1796 : (.instanceMethod yX10_carry : Cond) ∈ gT := gT_of 1796 (by decide +kernel) (by decide +kernel)
theorem kw1797 : (.selects RX10 yX10_carry yX10_carry : Cond) ∈ gT := gT_of 1797 (by decide +kernel) (by decide +kernel)
theorem dL_law_606 : decode cL_law 606 = .ok (.invokevirtual 65, 3) := by decide +kernel
theorem dL_law_609 : decode cL_law 609 = .ok (.if_icmp .eq 918, 3) := by decide +kernel
theorem dL_law_614 : decode cL_law 614 = .ok (.aload_n 1, 1) := by decide +kernel
theorem kw970 : (.methodLink RL 66 yX9_year : Cond) ∈ gT := gT_of 970 (by decide +kernel) (by decide +kernel)
theorem kw973 : (.code yX9_year cX9_year 1 (some .int) : Cond) ∈ gT := gT_of 973 (by decide +kernel) (by decide +kernel)
theorem kw971 : (.instanceMethod yX9_year : Cond) ∈ gT := gT_of 971 (by decide +kernel) (by decide +kernel)
theorem kw972 : (.selects RX9 yX9_year yX9_year : Cond) ∈ gT := gT_of 972 (by decide +kernel) (by decide +kernel)
theorem dL_law_615 : decode cL_law 615 = .ok (.invokevirtual 66, 3) := by decide +kernel
theorem dL_law_618 : decode cL_law 618 = .ok (.aload_n 2, 1) := by decide +kernel
theorem kw1799 : (.methodLink RL 69 yX10_year : Cond) ∈ gT := gT_of 1799 (by decide +kernel) (by decide +kernel)
theorem kw1802 : (.code yX10_year cX10_year 1 (some .int) : Cond) ∈ gT := gT_of 1802 (by decide +kernel) (by decide +kernel)
theorem kw1800 : (.instanceMethod yX10_year : Cond) ∈ gT := gT_of 1800 (by decide +kernel) (by decide +kernel)
theorem kw1801 : (.selects RX10 yX10_year yX10_year : Cond) ∈ gT := gT_of 1801 (by decide +kernel) (by decide +kernel)
theorem dL_law_619 : decode cL_law 619 = .ok (.invokevirtual 69, 3) := by decide +kernel
theorem dL_law_622 : decode cL_law 622 = .ok (.if_icmp .eq 905, 3) := by decide +kernel
theorem dL_law_627 : decode cL_law 627 = .ok (.aload_n 1, 1) := by decide +kernel
theorem kw987 : (.methodLink RL 70 yX9_undo : Cond) ∈ gT := gT_of 987 (by decide +kernel) (by decide +kernel)
theorem kw990 : (.code yX9_undo cX9_undo 1 (some .boolean) : Cond) ∈ gT := gT_of 990 (by decide +kernel) (by decide +kernel)
theorem kw988 : (.instanceMethod yX9_undo : Cond) ∈ gT := gT_of 988 (by decide +kernel) (by decide +kernel)
theorem kw989 : (.selects RX9 yX9_undo yX9_undo : Cond) ∈ gT := gT_of 989 (by decide +kernel) (by decide +kernel)
theorem dL_law_628 : decode cL_law 628 = .ok (.invokevirtual 70, 3) := by decide +kernel
theorem dL_law_631 : decode cL_law 631 = .ok (.aload_n 2, 1) := by decide +kernel
theorem kw1811 : (.methodLink RL 74 yX10_undo : Cond) ∈ gT := gT_of 1811 (by decide +kernel) (by decide +kernel)
theorem kw1814 : (.code yX10_undo cX10_undo 1 (some .boolean) : Cond) ∈ gT := gT_of 1814 (by decide +kernel) (by decide +kernel)
theorem kw1812 : (.instanceMethod yX10_undo : Cond) ∈ gT := gT_of 1812 (by decide +kernel) (by decide +kernel)
theorem kw1813 : (.selects RX10 yX10_undo yX10_undo : Cond) ∈ gT := gT_of 1813 (by decide +kernel) (by decide +kernel)
theorem dL_law_632 : decode cL_law 632 = .ok (.invokevirtual 74, 3) := by decide +kernel
theorem dL_law_635 : decode cL_law 635 = .ok (.if_icmp .eq 892, 3) := by decide +kernel
theorem dL_law_640 : decode cL_law 640 = .ok (.aload_n 1, 1) := by decide +kernel
theorem kw999 : (.methodLink RL 75 yX9_redo : Cond) ∈ gT := gT_of 999 (by decide +kernel) (by decide +kernel)
theorem kw1002 : (.code yX9_redo cX9_redo 1 (some .boolean) : Cond) ∈ gT := gT_of 1002 (by decide +kernel) (by decide +kernel)
theorem kw1000 : (.instanceMethod yX9_redo : Cond) ∈ gT := gT_of 1000 (by decide +kernel) (by decide +kernel)
theorem kw1001 : (.selects RX9 yX9_redo yX9_redo : Cond) ∈ gT := gT_of 1001 (by decide +kernel) (by decide +kernel)
theorem dL_law_641 : decode cL_law 641 = .ok (.invokevirtual 75, 3) := by decide +kernel
theorem dL_law_644 : decode cL_law 644 = .ok (.aload_n 2, 1) := by decide +kernel
theorem kw1819 : (.methodLink RL 78 yX10_redo : Cond) ∈ gT := gT_of 1819 (by decide +kernel) (by decide +kernel)
theorem kw1822 : (.code yX10_redo cX10_redo 1 (some .boolean) : Cond) ∈ gT := gT_of 1822 (by decide +kernel) (by decide +kernel)
theorem kw1820 : (.instanceMethod yX10_redo : Cond) ∈ gT := gT_of 1820 (by decide +kernel) (by decide +kernel)
theorem kw1821 : (.selects RX10 yX10_redo yX10_redo : Cond) ∈ gT := gT_of 1821 (by decide +kernel) (by decide +kernel)
theorem dL_law_645 : decode cL_law 645 = .ok (.invokevirtual 78, 3) := by decide +kernel
theorem dL_law_648 : decode cL_law 648 = .ok (.if_icmp .eq 879, 3) := by decide +kernel
theorem dL_law_653 : decode cL_law 653 = .ok (.aload_n 1, 1) := by decide +kernel
theorem dL_law_654 : decode cL_law 654 = .ok (.aload_n 0, 1) := by decide +kernel
theorem dL_law_655 : decode cL_law 655 = .ok (.iload_n 3, 1) := by decide +kernel
theorem dL_law_656 : decode cL_law 656 = .ok (.iconst 1, 1) := by decide +kernel
theorem dL_law_657 : decode cL_law 657 = .ok (.iadd, 1) := by decide +kernel
theorem dL_law_658 : decode cL_law 658 = .ok (.iaload, 1) := by decide +kernel
theorem dL_law_659 : decode cL_law 659 = .ok (.aload_n 0, 1) := by decide +kernel
theorem dL_law_660 : decode cL_law 660 = .ok (.iload_n 3, 1) := by decide +kernel
theorem dL_law_661 : decode cL_law 661 = .ok (.iconst 2, 1) := by decide +kernel
theorem dL_law_662 : decode cL_law 662 = .ok (.iadd, 1) := by decide +kernel
theorem dL_law_663 : decode cL_law 663 = .ok (.iaload, 1) := by decide +kernel
theorem kw1007 : (.methodLink RL 79 yX9_gain : Cond) ∈ gT := gT_of 1007 (by decide +kernel) (by decide +kernel)
theorem kw1010 : (.code yX9_gain cX9_gain 4 (some .int) : Cond) ∈ gT := gT_of 1010 (by decide +kernel) (by decide +kernel)
theorem kw1008 : (.instanceMethod yX9_gain : Cond) ∈ gT := gT_of 1008 (by decide +kernel) (by decide +kernel)
theorem kw1009 : (.selects RX9 yX9_gain yX9_gain : Cond) ∈ gT := gT_of 1009 (by decide +kernel) (by decide +kernel)
theorem dL_law_664 : decode cL_law 664 = .ok (.invokevirtual 79, 3) := by decide +kernel
theorem dL_law_667 : decode cL_law 667 = .ok (.aload_n 2, 1) := by decide +kernel
theorem dL_law_668 : decode cL_law 668 = .ok (.aload_n 0, 1) := by decide +kernel
theorem dL_law_669 : decode cL_law 669 = .ok (.iload_n 3, 1) := by decide +kernel
theorem dL_law_670 : decode cL_law 670 = .ok (.iconst 1, 1) := by decide +kernel
theorem dL_law_671 : decode cL_law 671 = .ok (.iadd, 1) := by decide +kernel
theorem dL_law_672 : decode cL_law 672 = .ok (.iaload, 1) := by decide +kernel
theorem dL_law_673 : decode cL_law 673 = .ok (.aload_n 0, 1) := by decide +kernel
theorem dL_law_674 : decode cL_law 674 = .ok (.iload_n 3, 1) := by decide +kernel
theorem dL_law_675 : decode cL_law 675 = .ok (.iconst 2, 1) := by decide +kernel
theorem dL_law_676 : decode cL_law 676 = .ok (.iadd, 1) := by decide +kernel
theorem dL_law_677 : decode cL_law 677 = .ok (.iaload, 1) := by decide +kernel
theorem kw1823 : (.methodLink RL 82 yX10_gain : Cond) ∈ gT := gT_of 1823 (by decide +kernel) (by decide +kernel)
theorem kw1826 : (.code yX10_gain cX10_gain 3 (some .int) : Cond) ∈ gT := gT_of 1826 (by decide +kernel) (by decide +kernel)
theorem kw1824 : (.instanceMethod yX10_gain : Cond) ∈ gT := gT_of 1824 (by decide +kernel) (by decide +kernel)
theorem kw1825 : (.selects RX10 yX10_gain yX10_gain : Cond) ∈ gT := gT_of 1825 (by decide +kernel) (by decide +kernel)
theorem dL_law_678 : decode cL_law 678 = .ok (.invokevirtual 82, 3) := by decide +kernel
theorem dL_law_681 : decode cL_law 681 = .ok (.if_icmp .eq 846, 3) := by decide +kernel
theorem dL_law_686 : decode cL_law 686 = .ok (.aload_n 1, 1) := by decide +kernel
theorem dL_law_687 : decode cL_law 687 = .ok (.aload_n 0, 1) := by decide +kernel
theorem dL_law_688 : decode cL_law 688 = .ok (.iload_n 3, 1) := by decide +kernel
theorem dL_law_689 : decode cL_law 689 = .ok (.iconst 1, 1) := by decide +kernel
theorem dL_law_690 : decode cL_law 690 = .ok (.iadd, 1) := by decide +kernel
theorem dL_law_691 : decode cL_law 691 = .ok (.iaload, 1) := by decide +kernel
theorem kw1011 : (.methodLink RL 83 yX9_best : Cond) ∈ gT := gT_of 1011 (by decide +kernel) (by decide +kernel)
theorem kw1014 : (.code yX9_best cX9_best 2 (some .int) : Cond) ∈ gT := gT_of 1014 (by decide +kernel) (by decide +kernel)
theorem kw1012 : (.instanceMethod yX9_best : Cond) ∈ gT := gT_of 1012 (by decide +kernel) (by decide +kernel)
theorem kw1013 : (.selects RX9 yX9_best yX9_best : Cond) ∈ gT := gT_of 1013 (by decide +kernel) (by decide +kernel)
theorem dL_law_692 : decode cL_law 692 = .ok (.invokevirtual 83, 3) := by decide +kernel
theorem dL_law_695 : decode cL_law 695 = .ok (.aload_n 2, 1) := by decide +kernel
theorem dL_law_696 : decode cL_law 696 = .ok (.aload_n 0, 1) := by decide +kernel
theorem dL_law_697 : decode cL_law 697 = .ok (.iload_n 3, 1) := by decide +kernel
theorem dL_law_698 : decode cL_law 698 = .ok (.iconst 1, 1) := by decide +kernel
theorem dL_law_699 : decode cL_law 699 = .ok (.iadd, 1) := by decide +kernel
theorem dL_law_700 : decode cL_law 700 = .ok (.iaload, 1) := by decide +kernel
theorem kw1831 : (.methodLink RL 86 yX10_best : Cond) ∈ gT := gT_of 1831 (by decide +kernel) (by decide +kernel)
theorem kw1834 : (.code yX10_best cX10_best 2 (some .int) : Cond) ∈ gT := gT_of 1834 (by decide +kernel) (by decide +kernel)
theorem kw1832 : (.instanceMethod yX10_best : Cond) ∈ gT := gT_of 1832 (by decide +kernel) (by decide +kernel)
theorem kw1833 : (.selects RX10 yX10_best yX10_best : Cond) ∈ gT := gT_of 1833 (by decide +kernel) (by decide +kernel)
theorem dL_law_701 : decode cL_law 701 = .ok (.invokevirtual 86, 3) := by decide +kernel
theorem dL_law_704 : decode cL_law 704 = .ok (.if_icmp .eq 823, 3) := by decide +kernel
theorem dL_law_709 : decode cL_law 709 = .ok (.aload_n 1, 1) := by decide +kernel
theorem kw1027 : (.methodLink RL 87 yX9_swaps : Cond) ∈ gT := gT_of 1027 (by decide +kernel) (by decide +kernel)
theorem kw1030 : (.code yX9_swaps cX9_swaps 1 (some .int) : Cond) ∈ gT := gT_of 1030 (by decide +kernel) (by decide +kernel)
theorem kw1028 : (.instanceMethod yX9_swaps : Cond) ∈ gT := gT_of 1028 (by decide +kernel) (by decide +kernel)
theorem kw1029 : (.selects RX9 yX9_swaps yX9_swaps : Cond) ∈ gT := gT_of 1029 (by decide +kernel) (by decide +kernel)
theorem dL_law_710 : decode cL_law 710 = .ok (.invokevirtual 87, 3) := by decide +kernel
theorem dL_law_713 : decode cL_law 713 = .ok (.aload_n 2, 1) := by decide +kernel
theorem kw1839 : (.methodLink RL 90 yX10_swaps : Cond) ∈ gT := gT_of 1839 (by decide +kernel) (by decide +kernel)
theorem kw1842 : (.code yX10_swaps cX10_swaps 1 (some .int) : Cond) ∈ gT := gT_of 1842 (by decide +kernel) (by decide +kernel)
theorem kw1840 : (.instanceMethod yX10_swaps : Cond) ∈ gT := gT_of 1840 (by decide +kernel) (by decide +kernel)
theorem kw1841 : (.selects RX10 yX10_swaps yX10_swaps : Cond) ∈ gT := gT_of 1841 (by decide +kernel) (by decide +kernel)
theorem dL_law_714 : decode cL_law 714 = .ok (.invokevirtual 90, 3) := by decide +kernel
theorem dL_law_717 : decode cL_law 717 = .ok (.if_icmp .eq 810, 3) := by decide +kernel
theorem dL_law_722 : decode cL_law 722 = .ok (.aload_n 1, 1) := by decide +kernel
theorem kw1035 : (.methodLink RL 91 yX9_haggle : Cond) ∈ gT := gT_of 1035 (by decide +kernel) (by decide +kernel)
theorem kw1038 : (.code yX9_haggle cX9_haggle 2 (some .int) : Cond) ∈ gT := gT_of 1038 (by decide +kernel) (by decide +kernel)
theorem kw1036 : (.instanceMethod yX9_haggle : Cond) ∈ gT := gT_of 1036 (by decide +kernel) (by decide +kernel)
theorem kw1037 : (.selects RX9 yX9_haggle yX9_haggle : Cond) ∈ gT := gT_of 1037 (by decide +kernel) (by decide +kernel)
theorem dL_law_723 : decode cL_law 723 = .ok (.invokevirtual 91, 3) := by decide +kernel
theorem dL_law_726 : decode cL_law 726 = .ok (.aload_n 2, 1) := by decide +kernel
theorem kw1847 : (.methodLink RL 94 yX10_haggle : Cond) ∈ gT := gT_of 1847 (by decide +kernel) (by decide +kernel)
theorem kw1850 : (.code yX10_haggle cX10_haggle 4 (some .int) : Cond) ∈ gT := gT_of 1850 (by decide +kernel) (by decide +kernel)
theorem kw1848 : (.instanceMethod yX10_haggle : Cond) ∈ gT := gT_of 1848 (by decide +kernel) (by decide +kernel)
theorem kw1849 : (.selects RX10 yX10_haggle yX10_haggle : Cond) ∈ gT := gT_of 1849 (by decide +kernel) (by decide +kernel)
theorem dL_law_727 : decode cL_law 727 = .ok (.invokevirtual 94, 3) := by decide +kernel
theorem dL_law_730 : decode cL_law 730 = .ok (.if_icmp .eq 797, 3) := by decide +kernel
theorem dL_law_735 : decode cL_law 735 = .ok (.aload_n 1, 1) := by decide +kernel
theorem dL_law_736 : decode cL_law 736 = .ok (.aload_n 0, 1) := by decide +kernel
theorem dL_law_737 : decode cL_law 737 = .ok (.iload_n 3, 1) := by decide +kernel
theorem dL_law_738 : decode cL_law 738 = .ok (.iconst 1, 1) := by decide +kernel
theorem dL_law_739 : decode cL_law 739 = .ok (.iadd, 1) := by decide +kernel
theorem dL_law_740 : decode cL_law 740 = .ok (.iaload, 1) := by decide +kernel
theorem kw1053 : (.methodLink RL 95 yX9_envies : Cond) ∈ gT := gT_of 1053 (by decide +kernel) (by decide +kernel)
theorem kw1056 : (.code yX9_envies cX9_envies 5 (some .int) : Cond) ∈ gT := gT_of 1056 (by decide +kernel) (by decide +kernel)
theorem kw1054 : (.instanceMethod yX9_envies : Cond) ∈ gT := gT_of 1054 (by decide +kernel) (by decide +kernel)
theorem kw1055 : (.selects RX9 yX9_envies yX9_envies : Cond) ∈ gT := gT_of 1055 (by decide +kernel) (by decide +kernel)
theorem dL_law_741 : decode cL_law 741 = .ok (.invokevirtual 95, 3) := by decide +kernel
theorem dL_law_744 : decode cL_law 744 = .ok (.aload_n 2, 1) := by decide +kernel
theorem dL_law_745 : decode cL_law 745 = .ok (.aload_n 0, 1) := by decide +kernel
theorem dL_law_746 : decode cL_law 746 = .ok (.iload_n 3, 1) := by decide +kernel
theorem dL_law_747 : decode cL_law 747 = .ok (.iconst 1, 1) := by decide +kernel
theorem dL_law_748 : decode cL_law 748 = .ok (.iadd, 1) := by decide +kernel
theorem dL_law_749 : decode cL_law 749 = .ok (.iaload, 1) := by decide +kernel
theorem kw1767 : (.methodLink RL 98 yX10_envies : Cond) ∈ gT := gT_of 1767 (by decide +kernel) (by decide +kernel)
theorem kw1770 : (.code yX10_envies cX10_envies 5 (some .int) : Cond) ∈ gT := gT_of 1770 (by decide +kernel) (by decide +kernel)
theorem kw1768 : (.instanceMethod yX10_envies : Cond) ∈ gT := gT_of 1768 (by decide +kernel) (by decide +kernel)
theorem kw1769 : (.selects RX10 yX10_envies yX10_envies : Cond) ∈ gT := gT_of 1769 (by decide +kernel) (by decide +kernel)
theorem dL_law_750 : decode cL_law 750 = .ok (.invokevirtual 98, 3) := by decide +kernel
theorem dL_law_753 : decode cL_law 753 = .ok (.if_icmp .eq 774, 3) := by decide +kernel
theorem dL_law_758 : decode cL_law 758 = .ok (.aload_n 1, 1) := by decide +kernel
theorem dL_law_759 : decode cL_law 759 = .ok (.aload_n 0, 1) := by decide +kernel
theorem dL_law_760 : decode cL_law 760 = .ok (.iload_n 3, 1) := by decide +kernel
theorem dL_law_761 : decode cL_law 761 = .ok (.iconst 1, 1) := by decide +kernel
theorem dL_law_762 : decode cL_law 762 = .ok (.iadd, 1) := by decide +kernel
theorem dL_law_763 : decode cL_law 763 = .ok (.iaload, 1) := by decide +kernel
theorem kw1057 : (.methodLink RL 99 yX9_ports : Cond) ∈ gT := gT_of 1057 (by decide +kernel) (by decide +kernel)
theorem kw1060 : (.code yX9_ports cX9_ports 4 (some .int) : Cond) ∈ gT := gT_of 1060 (by decide +kernel) (by decide +kernel)
theorem kw1058 : (.instanceMethod yX9_ports : Cond) ∈ gT := gT_of 1058 (by decide +kernel) (by decide +kernel)
theorem kw1059 : (.selects RX9 yX9_ports yX9_ports : Cond) ∈ gT := gT_of 1059 (by decide +kernel) (by decide +kernel)
theorem dL_law_764 : decode cL_law 764 = .ok (.invokevirtual 99, 3) := by decide +kernel
theorem dL_law_767 : decode cL_law 767 = .ok (.aload_n 2, 1) := by decide +kernel
theorem dL_law_768 : decode cL_law 768 = .ok (.aload_n 0, 1) := by decide +kernel
theorem dL_law_769 : decode cL_law 769 = .ok (.iload_n 3, 1) := by decide +kernel
theorem dL_law_770 : decode cL_law 770 = .ok (.iconst 1, 1) := by decide +kernel
theorem dL_law_771 : decode cL_law 771 = .ok (.iadd, 1) := by decide +kernel
theorem dL_law_772 : decode cL_law 772 = .ok (.iaload, 1) := by decide +kernel
theorem kw1763 : (.methodLink RL 102 yX10_ports : Cond) ∈ gT := gT_of 1763 (by decide +kernel) (by decide +kernel)
theorem kw1766 : (.code yX10_ports cX10_ports 2 (some .int) : Cond) ∈ gT := gT_of 1766 (by decide +kernel) (by decide +kernel)
theorem kw1764 : (.instanceMethod yX10_ports : Cond) ∈ gT := gT_of 1764 (by decide +kernel) (by decide +kernel)
theorem kw1765 : (.selects RX10 yX10_ports yX10_ports : Cond) ∈ gT := gT_of 1765 (by decide +kernel) (by decide +kernel)
theorem dL_law_773 : decode cL_law 773 = .ok (.invokevirtual 102, 3) := by decide +kernel
theorem dL_law_776 : decode cL_law 776 = .ok (.if_icmp .eq 751, 3) := by decide +kernel
theorem dL_law_781 : decode cL_law 781 = .ok (.aload_n 1, 1) := by decide +kernel
theorem kw1061 : (.methodLink RL 103 yX9_ring : Cond) ∈ gT := gT_of 1061 (by decide +kernel) (by decide +kernel)
theorem kw1064 : (.code yX9_ring cX9_ring 2 (some .int) : Cond) ∈ gT := gT_of 1064 (by decide +kernel) (by decide +kernel)
theorem kw1062 : (.instanceMethod yX9_ring : Cond) ∈ gT := gT_of 1062 (by decide +kernel) (by decide +kernel)
theorem kw1063 : (.selects RX9 yX9_ring yX9_ring : Cond) ∈ gT := gT_of 1063 (by decide +kernel) (by decide +kernel)
theorem dL_law_782 : decode cL_law 782 = .ok (.invokevirtual 103, 3) := by decide +kernel
theorem dL_law_785 : decode cL_law 785 = .ok (.aload_n 2, 1) := by decide +kernel
theorem kw1859 : (.methodLink RL 106 yX10_ring : Cond) ∈ gT := gT_of 1859 (by decide +kernel) (by decide +kernel)
theorem kw1862 : (.code yX10_ring cX10_ring 8 (some .int) : Cond) ∈ gT := gT_of 1862 (by decide +kernel) (by decide +kernel)
theorem kw1860 : (.instanceMethod yX10_ring : Cond) ∈ gT := gT_of 1860 (by decide +kernel) (by decide +kernel)
theorem kw1861 : (.selects RX10 yX10_ring yX10_ring : Cond) ∈ gT := gT_of 1861 (by decide +kernel) (by decide +kernel)
theorem dL_law_786 : decode cL_law 786 = .ok (.invokevirtual 106, 3) := by decide +kernel
theorem dL_law_789 : decode cL_law 789 = .ok (.if_icmp .eq 738, 3) := by decide +kernel
theorem dL_law_794 : decode cL_law 794 = .ok (.aload_n 1, 1) := by decide +kernel
theorem kw1088 : (.methodLink RL 107 yX9_dear : Cond) ∈ gT := gT_of 1088 (by decide +kernel) (by decide +kernel)
theorem kw1091 : (.code yX9_dear cX9_dear 4 (some .int) : Cond) ∈ gT := gT_of 1091 (by decide +kernel) (by decide +kernel)
theorem kw1089 : (.instanceMethod yX9_dear : Cond) ∈ gT := gT_of 1089 (by decide +kernel) (by decide +kernel)
theorem kw1090 : (.selects RX9 yX9_dear yX9_dear : Cond) ∈ gT := gT_of 1090 (by decide +kernel) (by decide +kernel)
theorem dL_law_795 : decode cL_law 795 = .ok (.invokevirtual 107, 3) := by decide +kernel
theorem dL_law_798 : decode cL_law 798 = .ok (.aload_n 2, 1) := by decide +kernel
theorem kw1883 : (.methodLink RL 110 yX10_dear : Cond) ∈ gT := gT_of 1883 (by decide +kernel) (by decide +kernel)
theorem kw1886 : (.code yX10_dear cX10_dear 5 (some .int) : Cond) ∈ gT := gT_of 1886 (by decide +kernel) (by decide +kernel)
theorem kw1884 : (.instanceMethod yX10_dear : Cond) ∈ gT := gT_of 1884 (by decide +kernel) (by decide +kernel)
theorem kw1885 : (.selects RX10 yX10_dear yX10_dear : Cond) ∈ gT := gT_of 1885 (by decide +kernel) (by decide +kernel)
theorem dL_law_799 : decode cL_law 799 = .ok (.invokevirtual 110, 3) := by decide +kernel
theorem dL_law_802 : decode cL_law 802 = .ok (.if_icmp .eq 725, 3) := by decide +kernel
theorem dL_law_807 : decode cL_law 807 = .ok (.aload_n 1, 1) := by decide +kernel
theorem kw1098 : (.methodLink RL 111 yX9_misheld : Cond) ∈ gT := gT_of 1098 (by decide +kernel) (by decide +kernel)
theorem kw1101 : (.code yX9_misheld cX9_misheld 4 (some .int) : Cond) ∈ gT := gT_of 1101 (by decide +kernel) (by decide +kernel)
theorem kw1099 : (.instanceMethod yX9_misheld : Cond) ∈ gT := gT_of 1099 (by decide +kernel) (by decide +kernel)
theorem kw1100 : (.selects RX9 yX9_misheld yX9_misheld : Cond) ∈ gT := gT_of 1100 (by decide +kernel) (by decide +kernel)
theorem dL_law_808 : decode cL_law 808 = .ok (.invokevirtual 111, 3) := by decide +kernel
theorem dL_law_811 : decode cL_law 811 = .ok (.aload_n 2, 1) := by decide +kernel
theorem kw1771 : (.methodLink RL 114 yX10_misheld : Cond) ∈ gT := gT_of 1771 (by decide +kernel) (by decide +kernel)
theorem kw1774 : (.code yX10_misheld cX10_misheld 5 (some .int) : Cond) ∈ gT := gT_of 1774 (by decide +kernel) (by decide +kernel)
theorem kw1772 : (.instanceMethod yX10_misheld : Cond) ∈ gT := gT_of 1772 (by decide +kernel) (by decide +kernel)
theorem kw1773 : (.selects RX10 yX10_misheld yX10_misheld : Cond) ∈ gT := gT_of 1773 (by decide +kernel) (by decide +kernel)
theorem dL_law_812 : decode cL_law 812 = .ok (.invokevirtual 114, 3) := by decide +kernel
theorem dL_law_815 : decode cL_law 815 = .ok (.if_icmp .eq 712, 3) := by decide +kernel
theorem dL_law_820 : decode cL_law 820 = .ok (.aload_n 1, 1) := by decide +kernel
theorem dL_law_821 : decode cL_law 821 = .ok (.aload_n 0, 1) := by decide +kernel
theorem dL_law_822 : decode cL_law 822 = .ok (.iload_n 3, 1) := by decide +kernel
theorem dL_law_823 : decode cL_law 823 = .ok (.iconst 1, 1) := by decide +kernel
theorem dL_law_824 : decode cL_law 824 = .ok (.iadd, 1) := by decide +kernel
theorem dL_law_825 : decode cL_law 825 = .ok (.iaload, 1) := by decide +kernel
theorem dL_law_826 : decode cL_law 826 = .ok (.aload_n 0, 1) := by decide +kernel
theorem dL_law_827 : decode cL_law 827 = .ok (.iload_n 3, 1) := by decide +kernel
theorem dL_law_828 : decode cL_law 828 = .ok (.iconst 2, 1) := by decide +kernel
theorem dL_law_829 : decode cL_law 829 = .ok (.iadd, 1) := by decide +kernel
theorem dL_law_830 : decode cL_law 830 = .ok (.iaload, 1) := by decide +kernel
theorem dL_law_831 : decode cL_law 831 = .ok (.aload_n 0, 1) := by decide +kernel
theorem dL_law_832 : decode cL_law 832 = .ok (.iload_n 3, 1) := by decide +kernel
theorem dL_law_833 : decode cL_law 833 = .ok (.iconst 3, 1) := by decide +kernel
theorem dL_law_834 : decode cL_law 834 = .ok (.iadd, 1) := by decide +kernel
theorem dL_law_835 : decode cL_law 835 = .ok (.iaload, 1) := by decide +kernel
theorem dL_law_836 : decode cL_law 836 = .ok (.aload_n 0, 1) := by decide +kernel
theorem dL_law_837 : decode cL_law 837 = .ok (.iload_n 3, 1) := by decide +kernel
theorem dL_law_838 : decode cL_law 838 = .ok (.iconst 4, 1) := by decide +kernel
theorem dL_law_839 : decode cL_law 839 = .ok (.iadd, 1) := by decide +kernel
theorem dL_law_840 : decode cL_law 840 = .ok (.iaload, 1) := by decide +kernel
theorem kw1102 : (.methodLink RL 115 yX9_divide : Cond) ∈ gT := gT_of 1102 (by decide +kernel) (by decide +kernel)
theorem kw1105 : (.code yX9_divide cX9_divide 5 (some .int) : Cond) ∈ gT := gT_of 1105 (by decide +kernel) (by decide +kernel)
theorem kw1103 : (.instanceMethod yX9_divide : Cond) ∈ gT := gT_of 1103 (by decide +kernel) (by decide +kernel)
theorem kw1104 : (.selects RX9 yX9_divide yX9_divide : Cond) ∈ gT := gT_of 1104 (by decide +kernel) (by decide +kernel)
theorem dL_law_841 : decode cL_law 841 = .ok (.invokevirtual 115, 3) := by decide +kernel
theorem dL_law_844 : decode cL_law 844 = .ok (.aload_n 2, 1) := by decide +kernel
theorem dL_law_845 : decode cL_law 845 = .ok (.aload_n 0, 1) := by decide +kernel
theorem dL_law_846 : decode cL_law 846 = .ok (.iload_n 3, 1) := by decide +kernel
theorem dL_law_847 : decode cL_law 847 = .ok (.iconst 1, 1) := by decide +kernel
theorem dL_law_848 : decode cL_law 848 = .ok (.iadd, 1) := by decide +kernel
theorem dL_law_849 : decode cL_law 849 = .ok (.iaload, 1) := by decide +kernel
theorem dL_law_850 : decode cL_law 850 = .ok (.aload_n 0, 1) := by decide +kernel
theorem dL_law_851 : decode cL_law 851 = .ok (.iload_n 3, 1) := by decide +kernel
theorem dL_law_852 : decode cL_law 852 = .ok (.iconst 2, 1) := by decide +kernel
theorem dL_law_853 : decode cL_law 853 = .ok (.iadd, 1) := by decide +kernel
theorem dL_law_854 : decode cL_law 854 = .ok (.iaload, 1) := by decide +kernel
theorem dL_law_855 : decode cL_law 855 = .ok (.aload_n 0, 1) := by decide +kernel
theorem dL_law_856 : decode cL_law 856 = .ok (.iload_n 3, 1) := by decide +kernel
theorem dL_law_857 : decode cL_law 857 = .ok (.iconst 3, 1) := by decide +kernel
theorem dL_law_858 : decode cL_law 858 = .ok (.iadd, 1) := by decide +kernel
theorem dL_law_859 : decode cL_law 859 = .ok (.iaload, 1) := by decide +kernel
theorem dL_law_860 : decode cL_law 860 = .ok (.aload_n 0, 1) := by decide +kernel
theorem dL_law_861 : decode cL_law 861 = .ok (.iload_n 3, 1) := by decide +kernel
theorem dL_law_862 : decode cL_law 862 = .ok (.iconst 4, 1) := by decide +kernel
theorem dL_law_863 : decode cL_law 863 = .ok (.iadd, 1) := by decide +kernel
theorem dL_law_864 : decode cL_law 864 = .ok (.iaload, 1) := by decide +kernel
theorem kw1887 : (.methodLink RL 119 yX10_divide : Cond) ∈ gT := gT_of 1887 (by decide +kernel) (by decide +kernel)
theorem kw1890 : (.code yX10_divide cX10_divide 12 (some .int) : Cond) ∈ gT := gT_of 1890 (by decide +kernel) (by decide +kernel)
theorem kw1888 : (.instanceMethod yX10_divide : Cond) ∈ gT := gT_of 1888 (by decide +kernel) (by decide +kernel)
theorem kw1889 : (.selects RX10 yX10_divide yX10_divide : Cond) ∈ gT := gT_of 1889 (by decide +kernel) (by decide +kernel)
theorem dL_law_865 : decode cL_law 865 = .ok (.invokevirtual 119, 3) := by decide +kernel
theorem dL_law_868 : decode cL_law 868 = .ok (.if_icmp .eq 659, 3) := by decide +kernel
theorem dL_law_873 : decode cL_law 873 = .ok (.aload_n 1, 1) := by decide +kernel
theorem dL_law_874 : decode cL_law 874 = .ok (.aload_n 0, 1) := by decide +kernel
theorem dL_law_875 : decode cL_law 875 = .ok (.iload_n 3, 1) := by decide +kernel
theorem dL_law_876 : decode cL_law 876 = .ok (.iconst 1, 1) := by decide +kernel
theorem dL_law_877 : decode cL_law 877 = .ok (.iadd, 1) := by decide +kernel
theorem dL_law_878 : decode cL_law 878 = .ok (.iaload, 1) := by decide +kernel
theorem dL_law_879 : decode cL_law 879 = .ok (.aload_n 0, 1) := by decide +kernel
theorem dL_law_880 : decode cL_law 880 = .ok (.iload_n 3, 1) := by decide +kernel
theorem dL_law_881 : decode cL_law 881 = .ok (.iconst 2, 1) := by decide +kernel
theorem dL_law_882 : decode cL_law 882 = .ok (.iadd, 1) := by decide +kernel
theorem dL_law_883 : decode cL_law 883 = .ok (.iaload, 1) := by decide +kernel
theorem dL_law_884 : decode cL_law 884 = .ok (.aload_n 0, 1) := by decide +kernel
theorem dL_law_885 : decode cL_law 885 = .ok (.iload_n 3, 1) := by decide +kernel
theorem dL_law_886 : decode cL_law 886 = .ok (.iconst 3, 1) := by decide +kernel
theorem dL_law_887 : decode cL_law 887 = .ok (.iadd, 1) := by decide +kernel
theorem dL_law_888 : decode cL_law 888 = .ok (.iaload, 1) := by decide +kernel
theorem dL_law_889 : decode cL_law 889 = .ok (.aload_n 0, 1) := by decide +kernel
theorem dL_law_890 : decode cL_law 890 = .ok (.iload_n 3, 1) := by decide +kernel
theorem dL_law_891 : decode cL_law 891 = .ok (.iconst 4, 1) := by decide +kernel
theorem dL_law_892 : decode cL_law 892 = .ok (.iadd, 1) := by decide +kernel
theorem dL_law_893 : decode cL_law 893 = .ok (.iaload, 1) := by decide +kernel
theorem kw1116 : (.methodLink RL 120 yX9_lots : Cond) ∈ gT := gT_of 1116 (by decide +kernel) (by decide +kernel)
theorem kw1119 : (.code yX9_lots cX9_lots 5 (some .int) : Cond) ∈ gT := gT_of 1119 (by decide +kernel) (by decide +kernel)
theorem kw1117 : (.instanceMethod yX9_lots : Cond) ∈ gT := gT_of 1117 (by decide +kernel) (by decide +kernel)
theorem kw1118 : (.selects RX9 yX9_lots yX9_lots : Cond) ∈ gT := gT_of 1118 (by decide +kernel) (by decide +kernel)
theorem dL_law_894 : decode cL_law 894 = .ok (.invokevirtual 120, 3) := by decide +kernel
theorem dL_law_897 : decode cL_law 897 = .ok (.aload_n 2, 1) := by decide +kernel
theorem dL_law_898 : decode cL_law 898 = .ok (.aload_n 0, 1) := by decide +kernel
theorem dL_law_899 : decode cL_law 899 = .ok (.iload_n 3, 1) := by decide +kernel
theorem dL_law_900 : decode cL_law 900 = .ok (.iconst 1, 1) := by decide +kernel
theorem dL_law_901 : decode cL_law 901 = .ok (.iadd, 1) := by decide +kernel
theorem dL_law_902 : decode cL_law 902 = .ok (.iaload, 1) := by decide +kernel
theorem dL_law_903 : decode cL_law 903 = .ok (.aload_n 0, 1) := by decide +kernel
theorem dL_law_904 : decode cL_law 904 = .ok (.iload_n 3, 1) := by decide +kernel
theorem dL_law_905 : decode cL_law 905 = .ok (.iconst 2, 1) := by decide +kernel
theorem dL_law_906 : decode cL_law 906 = .ok (.iadd, 1) := by decide +kernel
theorem dL_law_907 : decode cL_law 907 = .ok (.iaload, 1) := by decide +kernel
theorem dL_law_908 : decode cL_law 908 = .ok (.aload_n 0, 1) := by decide +kernel
theorem dL_law_909 : decode cL_law 909 = .ok (.iload_n 3, 1) := by decide +kernel
theorem dL_law_910 : decode cL_law 910 = .ok (.iconst 3, 1) := by decide +kernel
theorem dL_law_911 : decode cL_law 911 = .ok (.iadd, 1) := by decide +kernel
theorem dL_law_912 : decode cL_law 912 = .ok (.iaload, 1) := by decide +kernel
theorem dL_law_913 : decode cL_law 913 = .ok (.aload_n 0, 1) := by decide +kernel
theorem dL_law_914 : decode cL_law 914 = .ok (.iload_n 3, 1) := by decide +kernel
theorem dL_law_915 : decode cL_law 915 = .ok (.iconst 4, 1) := by decide +kernel
theorem dL_law_916 : decode cL_law 916 = .ok (.iadd, 1) := by decide +kernel
theorem dL_law_917 : decode cL_law 917 = .ok (.iaload, 1) := by decide +kernel
theorem kw1898 : (.methodLink RL 123 yX10_lots : Cond) ∈ gT := gT_of 1898 (by decide +kernel) (by decide +kernel)
theorem kw1901 : (.code yX10_lots cX10_lots 10 (some .int) : Cond) ∈ gT := gT_of 1901 (by decide +kernel) (by decide +kernel)
theorem kw1899 : (.instanceMethod yX10_lots : Cond) ∈ gT := gT_of 1899 (by decide +kernel) (by decide +kernel)
theorem kw1900 : (.selects RX10 yX10_lots yX10_lots : Cond) ∈ gT := gT_of 1900 (by decide +kernel) (by decide +kernel)
theorem dL_law_918 : decode cL_law 918 = .ok (.invokevirtual 123, 3) := by decide +kernel
theorem dL_law_921 : decode cL_law 921 = .ok (.if_icmp .eq 606, 3) := by decide +kernel
theorem dL_law_926 : decode cL_law 926 = .ok (.aload_n 1, 1) := by decide +kernel
theorem dL_law_927 : decode cL_law 927 = .ok (.aload_n 0, 1) := by decide +kernel
theorem dL_law_928 : decode cL_law 928 = .ok (.iload_n 3, 1) := by decide +kernel
theorem dL_law_929 : decode cL_law 929 = .ok (.iconst 1, 1) := by decide +kernel
theorem dL_law_930 : decode cL_law 930 = .ok (.iadd, 1) := by decide +kernel
theorem dL_law_931 : decode cL_law 931 = .ok (.iaload, 1) := by decide +kernel
theorem dL_law_932 : decode cL_law 932 = .ok (.aload_n 0, 1) := by decide +kernel
theorem dL_law_933 : decode cL_law 933 = .ok (.iload_n 3, 1) := by decide +kernel
theorem dL_law_934 : decode cL_law 934 = .ok (.iconst 2, 1) := by decide +kernel
theorem dL_law_935 : decode cL_law 935 = .ok (.iadd, 1) := by decide +kernel
theorem dL_law_936 : decode cL_law 936 = .ok (.iaload, 1) := by decide +kernel
theorem dL_law_937 : decode cL_law 937 = .ok (.aload_n 0, 1) := by decide +kernel
theorem dL_law_938 : decode cL_law 938 = .ok (.iload_n 3, 1) := by decide +kernel
theorem dL_law_939 : decode cL_law 939 = .ok (.iconst 3, 1) := by decide +kernel
theorem dL_law_940 : decode cL_law 940 = .ok (.iadd, 1) := by decide +kernel
theorem dL_law_941 : decode cL_law 941 = .ok (.iaload, 1) := by decide +kernel
theorem kw1125 : (.methodLink RL 124 yX9_seeds : Cond) ∈ gT := gT_of 1125 (by decide +kernel) (by decide +kernel)
theorem kw1128 : (.code yX9_seeds cX9_seeds 9 (some .int) : Cond) ∈ gT := gT_of 1128 (by decide +kernel) (by decide +kernel)
theorem kw1126 : (.instanceMethod yX9_seeds : Cond) ∈ gT := gT_of 1126 (by decide +kernel) (by decide +kernel)
theorem kw1127 : (.selects RX9 yX9_seeds yX9_seeds : Cond) ∈ gT := gT_of 1127 (by decide +kernel) (by decide +kernel)
theorem dL_law_942 : decode cL_law 942 = .ok (.invokevirtual 124, 3) := by decide +kernel
theorem dL_law_945 : decode cL_law 945 = .ok (.aload_n 2, 1) := by decide +kernel
theorem dL_law_946 : decode cL_law 946 = .ok (.aload_n 0, 1) := by decide +kernel
theorem dL_law_947 : decode cL_law 947 = .ok (.iload_n 3, 1) := by decide +kernel
theorem dL_law_948 : decode cL_law 948 = .ok (.iconst 1, 1) := by decide +kernel
theorem dL_law_949 : decode cL_law 949 = .ok (.iadd, 1) := by decide +kernel
theorem dL_law_950 : decode cL_law 950 = .ok (.iaload, 1) := by decide +kernel
theorem dL_law_951 : decode cL_law 951 = .ok (.aload_n 0, 1) := by decide +kernel
theorem dL_law_952 : decode cL_law 952 = .ok (.iload_n 3, 1) := by decide +kernel
theorem dL_law_953 : decode cL_law 953 = .ok (.iconst 2, 1) := by decide +kernel
theorem dL_law_954 : decode cL_law 954 = .ok (.iadd, 1) := by decide +kernel
theorem dL_law_955 : decode cL_law 955 = .ok (.iaload, 1) := by decide +kernel
theorem dL_law_956 : decode cL_law 956 = .ok (.aload_n 0, 1) := by decide +kernel
theorem dL_law_957 : decode cL_law 957 = .ok (.iload_n 3, 1) := by decide +kernel
theorem dL_law_958 : decode cL_law 958 = .ok (.iconst 3, 1) := by decide +kernel
theorem dL_law_959 : decode cL_law 959 = .ok (.iadd, 1) := by decide +kernel
theorem dL_law_960 : decode cL_law 960 = .ok (.iaload, 1) := by decide +kernel
theorem kw1902 : (.methodLink RL 128 yX10_seeds : Cond) ∈ gT := gT_of 1902 (by decide +kernel) (by decide +kernel)
theorem kw1905 : (.code yX10_seeds cX10_seeds 9 (some .int) : Cond) ∈ gT := gT_of 1905 (by decide +kernel) (by decide +kernel)
theorem kw1903 : (.instanceMethod yX10_seeds : Cond) ∈ gT := gT_of 1903 (by decide +kernel) (by decide +kernel)
theorem kw1904 : (.selects RX10 yX10_seeds yX10_seeds : Cond) ∈ gT := gT_of 1904 (by decide +kernel) (by decide +kernel)
theorem dL_law_961 : decode cL_law 961 = .ok (.invokevirtual 128, 3) := by decide +kernel
theorem dL_law_964 : decode cL_law 964 = .ok (.if_icmp .eq 563, 3) := by decide +kernel
theorem dL_law_969 : decode cL_law 969 = .ok (.aload_n 1, 1) := by decide +kernel
theorem dL_law_970 : decode cL_law 970 = .ok (.aload_n 0, 1) := by decide +kernel
theorem dL_law_971 : decode cL_law 971 = .ok (.iload_n 3, 1) := by decide +kernel
theorem dL_law_972 : decode cL_law 972 = .ok (.iconst 1, 1) := by decide +kernel
theorem dL_law_973 : decode cL_law 973 = .ok (.iadd, 1) := by decide +kernel
theorem dL_law_974 : decode cL_law 974 = .ok (.iaload, 1) := by decide +kernel
theorem dL_law_975 : decode cL_law 975 = .ok (.aload_n 0, 1) := by decide +kernel
theorem dL_law_976 : decode cL_law 976 = .ok (.iload_n 3, 1) := by decide +kernel
theorem dL_law_977 : decode cL_law 977 = .ok (.iconst 2, 1) := by decide +kernel
theorem dL_law_978 : decode cL_law 978 = .ok (.iadd, 1) := by decide +kernel
theorem dL_law_979 : decode cL_law 979 = .ok (.iaload, 1) := by decide +kernel
theorem kw1137 : (.methodLink RL 129 yX9_leak : Cond) ∈ gT := gT_of 1137 (by decide +kernel) (by decide +kernel)
theorem kw1140 : (.code yX9_leak cX9_leak 5 (some .int) : Cond) ∈ gT := gT_of 1140 (by decide +kernel) (by decide +kernel)
theorem kw1138 : (.instanceMethod yX9_leak : Cond) ∈ gT := gT_of 1138 (by decide +kernel) (by decide +kernel)
theorem kw1139 : (.selects RX9 yX9_leak yX9_leak : Cond) ∈ gT := gT_of 1139 (by decide +kernel) (by decide +kernel)
theorem dL_law_980 : decode cL_law 980 = .ok (.invokevirtual 129, 3) := by decide +kernel
theorem dL_law_983 : decode cL_law 983 = .ok (.aload_n 2, 1) := by decide +kernel
theorem dL_law_984 : decode cL_law 984 = .ok (.aload_n 0, 1) := by decide +kernel
theorem dL_law_985 : decode cL_law 985 = .ok (.iload_n 3, 1) := by decide +kernel
theorem dL_law_986 : decode cL_law 986 = .ok (.iconst 1, 1) := by decide +kernel
theorem dL_law_987 : decode cL_law 987 = .ok (.iadd, 1) := by decide +kernel
theorem dL_law_988 : decode cL_law 988 = .ok (.iaload, 1) := by decide +kernel
theorem dL_law_989 : decode cL_law 989 = .ok (.aload_n 0, 1) := by decide +kernel
theorem dL_law_990 : decode cL_law 990 = .ok (.iload_n 3, 1) := by decide +kernel
theorem dL_law_991 : decode cL_law 991 = .ok (.iconst 2, 1) := by decide +kernel
theorem dL_law_992 : decode cL_law 992 = .ok (.iadd, 1) := by decide +kernel
theorem dL_law_993 : decode cL_law 993 = .ok (.iaload, 1) := by decide +kernel
theorem kw1906 : (.methodLink RL 132 yX10_leak : Cond) ∈ gT := gT_of 1906 (by decide +kernel) (by decide +kernel)
theorem kw1909 : (.code yX10_leak cX10_leak 5 (some .int) : Cond) ∈ gT := gT_of 1909 (by decide +kernel) (by decide +kernel)
theorem kw1907 : (.instanceMethod yX10_leak : Cond) ∈ gT := gT_of 1907 (by decide +kernel) (by decide +kernel)
theorem kw1908 : (.selects RX10 yX10_leak yX10_leak : Cond) ∈ gT := gT_of 1908 (by decide +kernel) (by decide +kernel)
theorem dL_law_994 : decode cL_law 994 = .ok (.invokevirtual 132, 3) := by decide +kernel
theorem dL_law_997 : decode cL_law 997 = .ok (.if_icmp .eq 530, 3) := by decide +kernel
theorem dL_law_1002 : decode cL_law 1002 = .ok (.aload_n 1, 1) := by decide +kernel
theorem dL_law_1003 : decode cL_law 1003 = .ok (.aload_n 0, 1) := by decide +kernel
theorem dL_law_1004 : decode cL_law 1004 = .ok (.iload_n 3, 1) := by decide +kernel
theorem dL_law_1005 : decode cL_law 1005 = .ok (.iconst 1, 1) := by decide +kernel
theorem dL_law_1006 : decode cL_law 1006 = .ok (.iadd, 1) := by decide +kernel
theorem dL_law_1007 : decode cL_law 1007 = .ok (.iaload, 1) := by decide +kernel
theorem dL_law_1008 : decode cL_law 1008 = .ok (.aload_n 0, 1) := by decide +kernel
theorem dL_law_1009 : decode cL_law 1009 = .ok (.iload_n 3, 1) := by decide +kernel
theorem dL_law_1010 : decode cL_law 1010 = .ok (.iconst 2, 1) := by decide +kernel
theorem dL_law_1011 : decode cL_law 1011 = .ok (.iadd, 1) := by decide +kernel
theorem dL_law_1012 : decode cL_law 1012 = .ok (.iaload, 1) := by decide +kernel
theorem kw1141 : (.methodLink RL 133 yX9_will : Cond) ∈ gT := gT_of 1141 (by decide +kernel) (by decide +kernel)
theorem kw1144 : (.code yX9_will cX9_will 3 (some .int) : Cond) ∈ gT := gT_of 1144 (by decide +kernel) (by decide +kernel)
theorem kw1142 : (.instanceMethod yX9_will : Cond) ∈ gT := gT_of 1142 (by decide +kernel) (by decide +kernel)
theorem kw1143 : (.selects RX9 yX9_will yX9_will : Cond) ∈ gT := gT_of 1143 (by decide +kernel) (by decide +kernel)
theorem dL_law_1013 : decode cL_law 1013 = .ok (.invokevirtual 133, 3) := by decide +kernel
theorem dL_law_1016 : decode cL_law 1016 = .ok (.aload_n 2, 1) := by decide +kernel
theorem dL_law_1017 : decode cL_law 1017 = .ok (.aload_n 0, 1) := by decide +kernel
theorem dL_law_1018 : decode cL_law 1018 = .ok (.iload_n 3, 1) := by decide +kernel
theorem dL_law_1019 : decode cL_law 1019 = .ok (.iconst 1, 1) := by decide +kernel
theorem dL_law_1020 : decode cL_law 1020 = .ok (.iadd, 1) := by decide +kernel
theorem dL_law_1021 : decode cL_law 1021 = .ok (.iaload, 1) := by decide +kernel
theorem dL_law_1022 : decode cL_law 1022 = .ok (.aload_n 0, 1) := by decide +kernel
theorem dL_law_1023 : decode cL_law 1023 = .ok (.iload_n 3, 1) := by decide +kernel
theorem dL_law_1024 : decode cL_law 1024 = .ok (.iconst 2, 1) := by decide +kernel
theorem dL_law_1025 : decode cL_law 1025 = .ok (.iadd, 1) := by decide +kernel
theorem dL_law_1026 : decode cL_law 1026 = .ok (.iaload, 1) := by decide +kernel
theorem kw1914 : (.methodLink RL 136 yX10_will : Cond) ∈ gT := gT_of 1914 (by decide +kernel) (by decide +kernel)
theorem kw1917 : (.code yX10_will cX10_will 4 (some .int) : Cond) ∈ gT := gT_of 1917 (by decide +kernel) (by decide +kernel)
theorem kw1915 : (.instanceMethod yX10_will : Cond) ∈ gT := gT_of 1915 (by decide +kernel) (by decide +kernel)
theorem kw1916 : (.selects RX10 yX10_will yX10_will : Cond) ∈ gT := gT_of 1916 (by decide +kernel) (by decide +kernel)
theorem dL_law_1027 : decode cL_law 1027 = .ok (.invokevirtual 136, 3) := by decide +kernel
theorem dL_law_1030 : decode cL_law 1030 = .ok (.if_icmp .eq 497, 3) := by decide +kernel
theorem dL_law_1035 : decode cL_law 1035 = .ok (.aload_n 1, 1) := by decide +kernel
theorem dL_law_1036 : decode cL_law 1036 = .ok (.aload_n 0, 1) := by decide +kernel
theorem dL_law_1037 : decode cL_law 1037 = .ok (.iload_n 3, 1) := by decide +kernel
theorem dL_law_1038 : decode cL_law 1038 = .ok (.iconst 1, 1) := by decide +kernel
theorem dL_law_1039 : decode cL_law 1039 = .ok (.iadd, 1) := by decide +kernel
theorem dL_law_1040 : decode cL_law 1040 = .ok (.iaload, 1) := by decide +kernel
theorem kw1153 : (.methodLink RL 137 yX9_ruin : Cond) ∈ gT := gT_of 1153 (by decide +kernel) (by decide +kernel)
theorem kw1156 : (.code yX9_ruin cX9_ruin 3 (some .int) : Cond) ∈ gT := gT_of 1156 (by decide +kernel) (by decide +kernel)
theorem kw1154 : (.instanceMethod yX9_ruin : Cond) ∈ gT := gT_of 1154 (by decide +kernel) (by decide +kernel)
theorem kw1155 : (.selects RX9 yX9_ruin yX9_ruin : Cond) ∈ gT := gT_of 1155 (by decide +kernel) (by decide +kernel)
theorem dL_law_1041 : decode cL_law 1041 = .ok (.invokevirtual 137, 3) := by decide +kernel
theorem dL_law_1044 : decode cL_law 1044 = .ok (.aload_n 2, 1) := by decide +kernel
theorem dL_law_1045 : decode cL_law 1045 = .ok (.aload_n 0, 1) := by decide +kernel
theorem dL_law_1046 : decode cL_law 1046 = .ok (.iload_n 3, 1) := by decide +kernel
theorem dL_law_1047 : decode cL_law 1047 = .ok (.iconst 1, 1) := by decide +kernel
theorem dL_law_1048 : decode cL_law 1048 = .ok (.iadd, 1) := by decide +kernel
theorem dL_law_1049 : decode cL_law 1049 = .ok (.iaload, 1) := by decide +kernel
theorem kw1925 : (.methodLink RL 140 yX10_ruin : Cond) ∈ gT := gT_of 1925 (by decide +kernel) (by decide +kernel)
theorem kw1928 : (.code yX10_ruin cX10_ruin 4 (some .int) : Cond) ∈ gT := gT_of 1928 (by decide +kernel) (by decide +kernel)
theorem kw1926 : (.instanceMethod yX10_ruin : Cond) ∈ gT := gT_of 1926 (by decide +kernel) (by decide +kernel)
theorem kw1927 : (.selects RX10 yX10_ruin yX10_ruin : Cond) ∈ gT := gT_of 1927 (by decide +kernel) (by decide +kernel)
theorem dL_law_1050 : decode cL_law 1050 = .ok (.invokevirtual 140, 3) := by decide +kernel
theorem dL_law_1053 : decode cL_law 1053 = .ok (.if_icmp .eq 474, 3) := by decide +kernel
theorem dL_law_1058 : decode cL_law 1058 = .ok (.aload_n 1, 1) := by decide +kernel
theorem dL_law_1059 : decode cL_law 1059 = .ok (.aload_n 0, 1) := by decide +kernel
theorem dL_law_1060 : decode cL_law 1060 = .ok (.iload_n 3, 1) := by decide +kernel
theorem dL_law_1061 : decode cL_law 1061 = .ok (.iconst 1, 1) := by decide +kernel
theorem dL_law_1062 : decode cL_law 1062 = .ok (.iadd, 1) := by decide +kernel
theorem dL_law_1063 : decode cL_law 1063 = .ok (.iaload, 1) := by decide +kernel
theorem dL_law_1064 : decode cL_law 1064 = .ok (.aload_n 0, 1) := by decide +kernel
theorem dL_law_1065 : decode cL_law 1065 = .ok (.iload_n 3, 1) := by decide +kernel
theorem dL_law_1066 : decode cL_law 1066 = .ok (.iconst 2, 1) := by decide +kernel
theorem dL_law_1067 : decode cL_law 1067 = .ok (.iadd, 1) := by decide +kernel
theorem dL_law_1068 : decode cL_law 1068 = .ok (.iaload, 1) := by decide +kernel
theorem kw1157 : (.methodLink RL 141 yX9_grown : Cond) ∈ gT := gT_of 1157 (by decide +kernel) (by decide +kernel)
theorem kw1160 : (.code yX9_grown cX9_grown 3 (some .int) : Cond) ∈ gT := gT_of 1160 (by decide +kernel) (by decide +kernel)
theorem kw1158 : (.instanceMethod yX9_grown : Cond) ∈ gT := gT_of 1158 (by decide +kernel) (by decide +kernel)
theorem kw1159 : (.selects RX9 yX9_grown yX9_grown : Cond) ∈ gT := gT_of 1159 (by decide +kernel) (by decide +kernel)
theorem dL_law_1069 : decode cL_law 1069 = .ok (.invokevirtual 141, 3) := by decide +kernel
theorem dL_law_1072 : decode cL_law 1072 = .ok (.aload_n 2, 1) := by decide +kernel
theorem dL_law_1073 : decode cL_law 1073 = .ok (.aload_n 0, 1) := by decide +kernel
theorem dL_law_1074 : decode cL_law 1074 = .ok (.iload_n 3, 1) := by decide +kernel
theorem dL_law_1075 : decode cL_law 1075 = .ok (.iconst 1, 1) := by decide +kernel
theorem dL_law_1076 : decode cL_law 1076 = .ok (.iadd, 1) := by decide +kernel
theorem dL_law_1077 : decode cL_law 1077 = .ok (.iaload, 1) := by decide +kernel
theorem dL_law_1078 : decode cL_law 1078 = .ok (.aload_n 0, 1) := by decide +kernel
theorem dL_law_1079 : decode cL_law 1079 = .ok (.iload_n 3, 1) := by decide +kernel
theorem dL_law_1080 : decode cL_law 1080 = .ok (.iconst 2, 1) := by decide +kernel
theorem dL_law_1081 : decode cL_law 1081 = .ok (.iadd, 1) := by decide +kernel
theorem dL_law_1082 : decode cL_law 1082 = .ok (.iaload, 1) := by decide +kernel
theorem kw1929 : (.methodLink RL 144 yX10_grown : Cond) ∈ gT := gT_of 1929 (by decide +kernel) (by decide +kernel)
theorem kw1932 : (.code yX10_grown cX10_grown 4 (some .int) : Cond) ∈ gT := gT_of 1932 (by decide +kernel) (by decide +kernel)
theorem kw1930 : (.instanceMethod yX10_grown : Cond) ∈ gT := gT_of 1930 (by decide +kernel) (by decide +kernel)
theorem kw1931 : (.selects RX10 yX10_grown yX10_grown : Cond) ∈ gT := gT_of 1931 (by decide +kernel) (by decide +kernel)
theorem dL_law_1083 : decode cL_law 1083 = .ok (.invokevirtual 144, 3) := by decide +kernel
theorem dL_law_1086 : decode cL_law 1086 = .ok (.if_icmp .eq 441, 3) := by decide +kernel
theorem dL_law_1091 : decode cL_law 1091 = .ok (.aload_n 1, 1) := by decide +kernel
theorem dL_law_1092 : decode cL_law 1092 = .ok (.aload_n 0, 1) := by decide +kernel
theorem dL_law_1093 : decode cL_law 1093 = .ok (.iload_n 3, 1) := by decide +kernel
theorem dL_law_1094 : decode cL_law 1094 = .ok (.iconst 1, 1) := by decide +kernel
theorem dL_law_1095 : decode cL_law 1095 = .ok (.iadd, 1) := by decide +kernel
theorem dL_law_1096 : decode cL_law 1096 = .ok (.iaload, 1) := by decide +kernel
theorem kw1161 : (.methodLink RL 145 yX9_richest : Cond) ∈ gT := gT_of 1161 (by decide +kernel) (by decide +kernel)
theorem kw1164 : (.code yX9_richest cX9_richest 4 (some .int) : Cond) ∈ gT := gT_of 1164 (by decide +kernel) (by decide +kernel)
theorem kw1162 : (.instanceMethod yX9_richest : Cond) ∈ gT := gT_of 1162 (by decide +kernel) (by decide +kernel)
theorem kw1163 : (.selects RX9 yX9_richest yX9_richest : Cond) ∈ gT := gT_of 1163 (by decide +kernel) (by decide +kernel)
theorem dL_law_1097 : decode cL_law 1097 = .ok (.invokevirtual 145, 3) := by decide +kernel
theorem dL_law_1100 : decode cL_law 1100 = .ok (.aload_n 2, 1) := by decide +kernel
theorem dL_law_1101 : decode cL_law 1101 = .ok (.aload_n 0, 1) := by decide +kernel
theorem dL_law_1102 : decode cL_law 1102 = .ok (.iload_n 3, 1) := by decide +kernel
theorem dL_law_1103 : decode cL_law 1103 = .ok (.iconst 1, 1) := by decide +kernel
theorem dL_law_1104 : decode cL_law 1104 = .ok (.iadd, 1) := by decide +kernel
theorem dL_law_1105 : decode cL_law 1105 = .ok (.iaload, 1) := by decide +kernel
theorem kw1933 : (.methodLink RL 148 yX10_richest : Cond) ∈ gT := gT_of 1933 (by decide +kernel) (by decide +kernel)
theorem kw1936 : (.code yX10_richest cX10_richest 4 (some .int) : Cond) ∈ gT := gT_of 1936 (by decide +kernel) (by decide +kernel)
theorem kw1934 : (.instanceMethod yX10_richest : Cond) ∈ gT := gT_of 1934 (by decide +kernel) (by decide +kernel)
theorem kw1935 : (.selects RX10 yX10_richest yX10_richest : Cond) ∈ gT := gT_of 1935 (by decide +kernel) (by decide +kernel)
theorem dL_law_1106 : decode cL_law 1106 = .ok (.invokevirtual 148, 3) := by decide +kernel
theorem dL_law_1109 : decode cL_law 1109 = .ok (.if_icmp .eq 418, 3) := by decide +kernel
theorem dL_law_1114 : decode cL_law 1114 = .ok (.aload_n 1, 1) := by decide +kernel
theorem dL_law_1115 : decode cL_law 1115 = .ok (.aload_n 0, 1) := by decide +kernel
theorem dL_law_1116 : decode cL_law 1116 = .ok (.iload_n 3, 1) := by decide +kernel
theorem dL_law_1117 : decode cL_law 1117 = .ok (.iconst 1, 1) := by decide +kernel
theorem dL_law_1118 : decode cL_law 1118 = .ok (.iadd, 1) := by decide +kernel
theorem dL_law_1119 : decode cL_law 1119 = .ok (.iaload, 1) := by decide +kernel
theorem dL_law_1120 : decode cL_law 1120 = .ok (.aload_n 0, 1) := by decide +kernel
theorem dL_law_1121 : decode cL_law 1121 = .ok (.iload_n 3, 1) := by decide +kernel
theorem dL_law_1122 : decode cL_law 1122 = .ok (.iconst 2, 1) := by decide +kernel
theorem dL_law_1123 : decode cL_law 1123 = .ok (.iadd, 1) := by decide +kernel
theorem dL_law_1124 : decode cL_law 1124 = .ok (.iaload, 1) := by decide +kernel
theorem kw1165 : (.methodLink RL 149 yX9_odds : Cond) ∈ gT := gT_of 1165 (by decide +kernel) (by decide +kernel)
theorem kw1168 : (.code yX9_odds cX9_odds 9 (some .int) : Cond) ∈ gT := gT_of 1168 (by decide +kernel) (by decide +kernel)
theorem kw1166 : (.instanceMethod yX9_odds : Cond) ∈ gT := gT_of 1166 (by decide +kernel) (by decide +kernel)
theorem kw1167 : (.selects RX9 yX9_odds yX9_odds : Cond) ∈ gT := gT_of 1167 (by decide +kernel) (by decide +kernel)
theorem dL_law_1125 : decode cL_law 1125 = .ok (.invokevirtual 149, 3) := by decide +kernel
theorem dL_law_1128 : decode cL_law 1128 = .ok (.aload_n 2, 1) := by decide +kernel
theorem dL_law_1129 : decode cL_law 1129 = .ok (.aload_n 0, 1) := by decide +kernel
theorem dL_law_1130 : decode cL_law 1130 = .ok (.iload_n 3, 1) := by decide +kernel
theorem dL_law_1131 : decode cL_law 1131 = .ok (.iconst 1, 1) := by decide +kernel
theorem dL_law_1132 : decode cL_law 1132 = .ok (.iadd, 1) := by decide +kernel
theorem dL_law_1133 : decode cL_law 1133 = .ok (.iaload, 1) := by decide +kernel
theorem dL_law_1134 : decode cL_law 1134 = .ok (.aload_n 0, 1) := by decide +kernel
theorem dL_law_1135 : decode cL_law 1135 = .ok (.iload_n 3, 1) := by decide +kernel
theorem dL_law_1136 : decode cL_law 1136 = .ok (.iconst 2, 1) := by decide +kernel
theorem dL_law_1137 : decode cL_law 1137 = .ok (.iadd, 1) := by decide +kernel
theorem dL_law_1138 : decode cL_law 1138 = .ok (.iaload, 1) := by decide +kernel
theorem kw1937 : (.methodLink RL 152 yX10_odds : Cond) ∈ gT := gT_of 1937 (by decide +kernel) (by decide +kernel)
theorem kw1940 : (.code yX10_odds cX10_odds 6 (some .int) : Cond) ∈ gT := gT_of 1940 (by decide +kernel) (by decide +kernel)
theorem kw1938 : (.instanceMethod yX10_odds : Cond) ∈ gT := gT_of 1938 (by decide +kernel) (by decide +kernel)
theorem kw1939 : (.selects RX10 yX10_odds yX10_odds : Cond) ∈ gT := gT_of 1939 (by decide +kernel) (by decide +kernel)
theorem dL_law_1139 : decode cL_law 1139 = .ok (.invokevirtual 152, 3) := by decide +kernel
theorem dL_law_1142 : decode cL_law 1142 = .ok (.if_icmp .eq 385, 3) := by decide +kernel
theorem dL_law_1147 : decode cL_law 1147 = .ok (.aload_n 1, 1) := by decide +kernel
theorem dL_law_1148 : decode cL_law 1148 = .ok (.aload_n 0, 1) := by decide +kernel
theorem dL_law_1149 : decode cL_law 1149 = .ok (.iload_n 3, 1) := by decide +kernel
theorem dL_law_1150 : decode cL_law 1150 = .ok (.iconst 1, 1) := by decide +kernel
theorem dL_law_1151 : decode cL_law 1151 = .ok (.iadd, 1) := by decide +kernel
theorem dL_law_1152 : decode cL_law 1152 = .ok (.iaload, 1) := by decide +kernel
theorem kw1172 : (.methodLink RL 153 yX9_lies : Cond) ∈ gT := gT_of 1172 (by decide +kernel) (by decide +kernel)
theorem kw1175 : (.code yX9_lies cX9_lies 2 (some .int) : Cond) ∈ gT := gT_of 1175 (by decide +kernel) (by decide +kernel)
theorem kw1173 : (.instanceMethod yX9_lies : Cond) ∈ gT := gT_of 1173 (by decide +kernel) (by decide +kernel)
theorem kw1174 : (.selects RX9 yX9_lies yX9_lies : Cond) ∈ gT := gT_of 1174 (by decide +kernel) (by decide +kernel)
theorem dL_law_1153 : decode cL_law 1153 = .ok (.invokevirtual 153, 3) := by decide +kernel
theorem dL_law_1156 : decode cL_law 1156 = .ok (.aload_n 2, 1) := by decide +kernel
theorem dL_law_1157 : decode cL_law 1157 = .ok (.aload_n 0, 1) := by decide +kernel
theorem dL_law_1158 : decode cL_law 1158 = .ok (.iload_n 3, 1) := by decide +kernel
theorem dL_law_1159 : decode cL_law 1159 = .ok (.iconst 1, 1) := by decide +kernel
theorem dL_law_1160 : decode cL_law 1160 = .ok (.iadd, 1) := by decide +kernel
theorem dL_law_1161 : decode cL_law 1161 = .ok (.iaload, 1) := by decide +kernel
theorem kw1843 : (.methodLink RL 156 yX10_lies : Cond) ∈ gT := gT_of 1843 (by decide +kernel) (by decide +kernel)
theorem kw1846 : (.code yX10_lies cX10_lies 2 (some .int) : Cond) ∈ gT := gT_of 1846 (by decide +kernel) (by decide +kernel)
theorem kw1844 : (.instanceMethod yX10_lies : Cond) ∈ gT := gT_of 1844 (by decide +kernel) (by decide +kernel)
theorem kw1845 : (.selects RX10 yX10_lies yX10_lies : Cond) ∈ gT := gT_of 1845 (by decide +kernel) (by decide +kernel)
theorem dL_law_1162 : decode cL_law 1162 = .ok (.invokevirtual 156, 3) := by decide +kernel
theorem dL_law_1165 : decode cL_law 1165 = .ok (.if_icmp .eq 362, 3) := by decide +kernel
theorem dL_law_1170 : decode cL_law 1170 = .ok (.aload_n 1, 1) := by decide +kernel
theorem dL_law_1171 : decode cL_law 1171 = .ok (.aload_n 0, 1) := by decide +kernel
theorem dL_law_1172 : decode cL_law 1172 = .ok (.iload_n 3, 1) := by decide +kernel
theorem dL_law_1173 : decode cL_law 1173 = .ok (.iconst 1, 1) := by decide +kernel
theorem dL_law_1174 : decode cL_law 1174 = .ok (.iadd, 1) := by decide +kernel
theorem dL_law_1175 : decode cL_law 1175 = .ok (.iaload, 1) := by decide +kernel
theorem dL_law_1176 : decode cL_law 1176 = .ok (.aload_n 0, 1) := by decide +kernel
theorem dL_law_1177 : decode cL_law 1177 = .ok (.iload_n 3, 1) := by decide +kernel
theorem dL_law_1178 : decode cL_law 1178 = .ok (.iconst 2, 1) := by decide +kernel
theorem dL_law_1179 : decode cL_law 1179 = .ok (.iadd, 1) := by decide +kernel
theorem dL_law_1180 : decode cL_law 1180 = .ok (.iaload, 1) := by decide +kernel
theorem dL_law_1181 : decode cL_law 1181 = .ok (.ifCond .eq 7, 3) := by decide +kernel
theorem dL_law_1188 : decode cL_law 1188 = .ok (.iconst 0, 1) := by decide +kernel
theorem kw1176 : (.methodLink RL 157 yX9_yields : Cond) ∈ gT := gT_of 1176 (by decide +kernel) (by decide +kernel)
theorem kw1179 : (.code yX9_yields cX9_yields 3 (some .int) : Cond) ∈ gT := gT_of 1179 (by decide +kernel) (by decide +kernel)
theorem kw1177 : (.instanceMethod yX9_yields : Cond) ∈ gT := gT_of 1177 (by decide +kernel) (by decide +kernel)
theorem kw1178 : (.selects RX9 yX9_yields yX9_yields : Cond) ∈ gT := gT_of 1178 (by decide +kernel) (by decide +kernel)
theorem dL_law_1189 : decode cL_law 1189 = .ok (.invokevirtual 157, 3) := by decide +kernel
theorem dL_law_1192 : decode cL_law 1192 = .ok (.aload_n 2, 1) := by decide +kernel
theorem dL_law_1193 : decode cL_law 1193 = .ok (.aload_n 0, 1) := by decide +kernel
theorem dL_law_1194 : decode cL_law 1194 = .ok (.iload_n 3, 1) := by decide +kernel
theorem dL_law_1195 : decode cL_law 1195 = .ok (.iconst 1, 1) := by decide +kernel
theorem dL_law_1196 : decode cL_law 1196 = .ok (.iadd, 1) := by decide +kernel
theorem dL_law_1197 : decode cL_law 1197 = .ok (.iaload, 1) := by decide +kernel
theorem dL_law_1198 : decode cL_law 1198 = .ok (.aload_n 0, 1) := by decide +kernel
theorem dL_law_1199 : decode cL_law 1199 = .ok (.iload_n 3, 1) := by decide +kernel
theorem dL_law_1200 : decode cL_law 1200 = .ok (.iconst 2, 1) := by decide +kernel
theorem dL_law_1201 : decode cL_law 1201 = .ok (.iadd, 1) := by decide +kernel
theorem dL_law_1202 : decode cL_law 1202 = .ok (.iaload, 1) := by decide +kernel
theorem dL_law_1203 : decode cL_law 1203 = .ok (.ifCond .eq 7, 3) := by decide +kernel
theorem dL_law_1210 : decode cL_law 1210 = .ok (.iconst 0, 1) := by decide +kernel
theorem kw1944 : (.methodLink RL 161 yX10_yields : Cond) ∈ gT := gT_of 1944 (by decide +kernel) (by decide +kernel)
theorem kw1947 : (.code yX10_yields cX10_yields 3 (some .int) : Cond) ∈ gT := gT_of 1947 (by decide +kernel) (by decide +kernel)
theorem kw1945 : (.instanceMethod yX10_yields : Cond) ∈ gT := gT_of 1945 (by decide +kernel) (by decide +kernel)
theorem kw1946 : (.selects RX10 yX10_yields yX10_yields : Cond) ∈ gT := gT_of 1946 (by decide +kernel) (by decide +kernel)
theorem dL_law_1211 : decode cL_law 1211 = .ok (.invokevirtual 161, 3) := by decide +kernel
theorem dL_law_1214 : decode cL_law 1214 = .ok (.if_icmp .eq 313, 3) := by decide +kernel
theorem dL_law_1184 : decode cL_law 1184 = .ok (.iconst 1, 1) := by decide +kernel
theorem dL_law_1185 : decode cL_law 1185 = .ok (.goto 4, 3) := by decide +kernel
theorem dL_law_1206 : decode cL_law 1206 = .ok (.iconst 1, 1) := by decide +kernel
theorem dL_law_1207 : decode cL_law 1207 = .ok (.goto 4, 3) := by decide +kernel
theorem dL_law_1219 : decode cL_law 1219 = .ok (.aload_n 1, 1) := by decide +kernel
theorem dL_law_1220 : decode cL_law 1220 = .ok (.aload_n 0, 1) := by decide +kernel
theorem dL_law_1221 : decode cL_law 1221 = .ok (.iload_n 3, 1) := by decide +kernel
theorem dL_law_1222 : decode cL_law 1222 = .ok (.iconst 1, 1) := by decide +kernel
theorem dL_law_1223 : decode cL_law 1223 = .ok (.iadd, 1) := by decide +kernel
theorem dL_law_1224 : decode cL_law 1224 = .ok (.iaload, 1) := by decide +kernel
theorem dL_law_1225 : decode cL_law 1225 = .ok (.ifCond .eq 7, 3) := by decide +kernel
theorem dL_law_1232 : decode cL_law 1232 = .ok (.iconst 0, 1) := by decide +kernel
theorem kw1184 : (.methodLink RL 162 yX9_harbours : Cond) ∈ gT := gT_of 1184 (by decide +kernel) (by decide +kernel)
theorem kw1187 : (.code yX9_harbours cX9_harbours 2 (some .int) : Cond) ∈ gT := gT_of 1187 (by decide +kernel) (by decide +kernel)
theorem kw1185 : (.instanceMethod yX9_harbours : Cond) ∈ gT := gT_of 1185 (by decide +kernel) (by decide +kernel)
theorem kw1186 : (.selects RX9 yX9_harbours yX9_harbours : Cond) ∈ gT := gT_of 1186 (by decide +kernel) (by decide +kernel)
theorem dL_law_1233 : decode cL_law 1233 = .ok (.invokevirtual 162, 3) := by decide +kernel
theorem dL_law_1236 : decode cL_law 1236 = .ok (.aload_n 2, 1) := by decide +kernel
theorem dL_law_1237 : decode cL_law 1237 = .ok (.aload_n 0, 1) := by decide +kernel
theorem dL_law_1238 : decode cL_law 1238 = .ok (.iload_n 3, 1) := by decide +kernel
theorem dL_law_1239 : decode cL_law 1239 = .ok (.iconst 1, 1) := by decide +kernel
theorem dL_law_1240 : decode cL_law 1240 = .ok (.iadd, 1) := by decide +kernel
theorem dL_law_1241 : decode cL_law 1241 = .ok (.iaload, 1) := by decide +kernel
theorem dL_law_1242 : decode cL_law 1242 = .ok (.ifCond .eq 7, 3) := by decide +kernel
theorem dL_law_1249 : decode cL_law 1249 = .ok (.iconst 0, 1) := by decide +kernel
theorem kw1952 : (.methodLink RL 166 yX10_harbours : Cond) ∈ gT := gT_of 1952 (by decide +kernel) (by decide +kernel)
theorem kw1955 : (.code yX10_harbours cX10_harbours 2 (some .int) : Cond) ∈ gT := gT_of 1955 (by decide +kernel) (by decide +kernel)
theorem kw1953 : (.instanceMethod yX10_harbours : Cond) ∈ gT := gT_of 1953 (by decide +kernel) (by decide +kernel)
theorem kw1954 : (.selects RX10 yX10_harbours yX10_harbours : Cond) ∈ gT := gT_of 1954 (by decide +kernel) (by decide +kernel)
theorem dL_law_1250 : decode cL_law 1250 = .ok (.invokevirtual 166, 3) := by decide +kernel
theorem dL_law_1253 : decode cL_law 1253 = .ok (.if_icmp .eq 274, 3) := by decide +kernel
theorem dL_law_1228 : decode cL_law 1228 = .ok (.iconst 1, 1) := by decide +kernel
theorem dL_law_1229 : decode cL_law 1229 = .ok (.goto 4, 3) := by decide +kernel
theorem dL_law_1245 : decode cL_law 1245 = .ok (.iconst 1, 1) := by decide +kernel
theorem dL_law_1246 : decode cL_law 1246 = .ok (.goto 4, 3) := by decide +kernel
theorem dL_law_1258 : decode cL_law 1258 = .ok (.aload_n 1, 1) := by decide +kernel
theorem dL_law_1259 : decode cL_law 1259 = .ok (.aload_n 0, 1) := by decide +kernel
theorem dL_law_1260 : decode cL_law 1260 = .ok (.iload_n 3, 1) := by decide +kernel
theorem dL_law_1261 : decode cL_law 1261 = .ok (.iconst 1, 1) := by decide +kernel
theorem dL_law_1262 : decode cL_law 1262 = .ok (.iadd, 1) := by decide +kernel
theorem dL_law_1263 : decode cL_law 1263 = .ok (.iaload, 1) := by decide +kernel
theorem dL_law_1264 : decode cL_law 1264 = .ok (.aload_n 0, 1) := by decide +kernel
theorem dL_law_1265 : decode cL_law 1265 = .ok (.iload_n 3, 1) := by decide +kernel
theorem dL_law_1266 : decode cL_law 1266 = .ok (.iconst 2, 1) := by decide +kernel
theorem dL_law_1267 : decode cL_law 1267 = .ok (.iadd, 1) := by decide +kernel
theorem dL_law_1268 : decode cL_law 1268 = .ok (.iaload, 1) := by decide +kernel
theorem dL_law_1269 : decode cL_law 1269 = .ok (.ifCond .eq 7, 3) := by decide +kernel
theorem dL_law_1276 : decode cL_law 1276 = .ok (.iconst 0, 1) := by decide +kernel
theorem kw1188 : (.methodLink RL 167 yX9_holds : Cond) ∈ gT := gT_of 1188 (by decide +kernel) (by decide +kernel)
theorem kw1191 : (.code yX9_holds cX9_holds 3 (some .int) : Cond) ∈ gT := gT_of 1191 (by decide +kernel) (by decide +kernel)
theorem kw1189 : (.instanceMethod yX9_holds : Cond) ∈ gT := gT_of 1189 (by decide +kernel) (by decide +kernel)
theorem kw1190 : (.selects RX9 yX9_holds yX9_holds : Cond) ∈ gT := gT_of 1190 (by decide +kernel) (by decide +kernel)
theorem dL_law_1277 : decode cL_law 1277 = .ok (.invokevirtual 167, 3) := by decide +kernel
theorem dL_law_1280 : decode cL_law 1280 = .ok (.aload_n 2, 1) := by decide +kernel
theorem dL_law_1281 : decode cL_law 1281 = .ok (.aload_n 0, 1) := by decide +kernel
theorem dL_law_1282 : decode cL_law 1282 = .ok (.iload_n 3, 1) := by decide +kernel
theorem dL_law_1283 : decode cL_law 1283 = .ok (.iconst 1, 1) := by decide +kernel
theorem dL_law_1284 : decode cL_law 1284 = .ok (.iadd, 1) := by decide +kernel
theorem dL_law_1285 : decode cL_law 1285 = .ok (.iaload, 1) := by decide +kernel
theorem dL_law_1286 : decode cL_law 1286 = .ok (.aload_n 0, 1) := by decide +kernel
theorem dL_law_1287 : decode cL_law 1287 = .ok (.iload_n 3, 1) := by decide +kernel
theorem dL_law_1288 : decode cL_law 1288 = .ok (.iconst 2, 1) := by decide +kernel
theorem dL_law_1289 : decode cL_law 1289 = .ok (.iadd, 1) := by decide +kernel
theorem dL_law_1290 : decode cL_law 1290 = .ok (.iaload, 1) := by decide +kernel
theorem dL_law_1291 : decode cL_law 1291 = .ok (.ifCond .eq 7, 3) := by decide +kernel
theorem dL_law_1298 : decode cL_law 1298 = .ok (.iconst 0, 1) := by decide +kernel
theorem kw1956 : (.methodLink RL 170 yX10_holds : Cond) ∈ gT := gT_of 1956 (by decide +kernel) (by decide +kernel)
theorem kw1959 : (.code yX10_holds cX10_holds 3 (some .int) : Cond) ∈ gT := gT_of 1959 (by decide +kernel) (by decide +kernel)
theorem kw1957 : (.instanceMethod yX10_holds : Cond) ∈ gT := gT_of 1957 (by decide +kernel) (by decide +kernel)
theorem kw1958 : (.selects RX10 yX10_holds yX10_holds : Cond) ∈ gT := gT_of 1958 (by decide +kernel) (by decide +kernel)
theorem dL_law_1299 : decode cL_law 1299 = .ok (.invokevirtual 170, 3) := by decide +kernel
theorem dL_law_1302 : decode cL_law 1302 = .ok (.if_icmp .eq 225, 3) := by decide +kernel
theorem dL_law_1272 : decode cL_law 1272 = .ok (.iconst 1, 1) := by decide +kernel
theorem dL_law_1273 : decode cL_law 1273 = .ok (.goto 4, 3) := by decide +kernel
theorem dL_law_1294 : decode cL_law 1294 = .ok (.iconst 1, 1) := by decide +kernel
theorem dL_law_1295 : decode cL_law 1295 = .ok (.goto 4, 3) := by decide +kernel
theorem dL_law_1307 : decode cL_law 1307 = .ok (.aload_n 1, 1) := by decide +kernel
theorem dL_law_1308 : decode cL_law 1308 = .ok (.aload_n 0, 1) := by decide +kernel
theorem dL_law_1309 : decode cL_law 1309 = .ok (.iload_n 3, 1) := by decide +kernel
theorem dL_law_1310 : decode cL_law 1310 = .ok (.iconst 1, 1) := by decide +kernel
theorem dL_law_1311 : decode cL_law 1311 = .ok (.iadd, 1) := by decide +kernel
theorem dL_law_1312 : decode cL_law 1312 = .ok (.iaload, 1) := by decide +kernel
theorem dL_law_1313 : decode cL_law 1313 = .ok (.aload_n 0, 1) := by decide +kernel
theorem dL_law_1314 : decode cL_law 1314 = .ok (.iload_n 3, 1) := by decide +kernel
theorem dL_law_1315 : decode cL_law 1315 = .ok (.iconst 2, 1) := by decide +kernel
theorem dL_law_1316 : decode cL_law 1316 = .ok (.iadd, 1) := by decide +kernel
theorem dL_law_1317 : decode cL_law 1317 = .ok (.iaload, 1) := by decide +kernel
theorem dL_law_1318 : decode cL_law 1318 = .ok (.ifCond .eq 7, 3) := by decide +kernel
theorem dL_law_1325 : decode cL_law 1325 = .ok (.iconst 0, 1) := by decide +kernel
theorem kw1192 : (.methodLink RL 171 yX9_grows : Cond) ∈ gT := gT_of 1192 (by decide +kernel) (by decide +kernel)
theorem kw1195 : (.code yX9_grows cX9_grows 3 (some .int) : Cond) ∈ gT := gT_of 1195 (by decide +kernel) (by decide +kernel)
theorem kw1193 : (.instanceMethod yX9_grows : Cond) ∈ gT := gT_of 1193 (by decide +kernel) (by decide +kernel)
theorem kw1194 : (.selects RX9 yX9_grows yX9_grows : Cond) ∈ gT := gT_of 1194 (by decide +kernel) (by decide +kernel)
theorem dL_law_1326 : decode cL_law 1326 = .ok (.invokevirtual 171, 3) := by decide +kernel
theorem dL_law_1329 : decode cL_law 1329 = .ok (.aload_n 2, 1) := by decide +kernel
theorem dL_law_1330 : decode cL_law 1330 = .ok (.aload_n 0, 1) := by decide +kernel
theorem dL_law_1331 : decode cL_law 1331 = .ok (.iload_n 3, 1) := by decide +kernel
theorem dL_law_1332 : decode cL_law 1332 = .ok (.iconst 1, 1) := by decide +kernel
theorem dL_law_1333 : decode cL_law 1333 = .ok (.iadd, 1) := by decide +kernel
theorem dL_law_1334 : decode cL_law 1334 = .ok (.iaload, 1) := by decide +kernel
theorem dL_law_1335 : decode cL_law 1335 = .ok (.aload_n 0, 1) := by decide +kernel
theorem dL_law_1336 : decode cL_law 1336 = .ok (.iload_n 3, 1) := by decide +kernel
theorem dL_law_1337 : decode cL_law 1337 = .ok (.iconst 2, 1) := by decide +kernel
theorem dL_law_1338 : decode cL_law 1338 = .ok (.iadd, 1) := by decide +kernel
theorem dL_law_1339 : decode cL_law 1339 = .ok (.iaload, 1) := by decide +kernel
theorem dL_law_1340 : decode cL_law 1340 = .ok (.ifCond .eq 7, 3) := by decide +kernel
theorem dL_law_1347 : decode cL_law 1347 = .ok (.iconst 0, 1) := by decide +kernel
theorem kw1960 : (.methodLink RL 174 yX10_grows : Cond) ∈ gT := gT_of 1960 (by decide +kernel) (by decide +kernel)
theorem kw1963 : (.code yX10_grows cX10_grows 3 (some .int) : Cond) ∈ gT := gT_of 1963 (by decide +kernel) (by decide +kernel)
theorem kw1961 : (.instanceMethod yX10_grows : Cond) ∈ gT := gT_of 1961 (by decide +kernel) (by decide +kernel)
theorem kw1962 : (.selects RX10 yX10_grows yX10_grows : Cond) ∈ gT := gT_of 1962 (by decide +kernel) (by decide +kernel)
theorem dL_law_1348 : decode cL_law 1348 = .ok (.invokevirtual 174, 3) := by decide +kernel
theorem dL_law_1351 : decode cL_law 1351 = .ok (.if_icmp .eq 176, 3) := by decide +kernel
theorem dL_law_1321 : decode cL_law 1321 = .ok (.iconst 1, 1) := by decide +kernel
theorem dL_law_1322 : decode cL_law 1322 = .ok (.goto 4, 3) := by decide +kernel
theorem dL_law_1343 : decode cL_law 1343 = .ok (.iconst 1, 1) := by decide +kernel
theorem dL_law_1344 : decode cL_law 1344 = .ok (.goto 4, 3) := by decide +kernel
theorem dL_law_1356 : decode cL_law 1356 = .ok (.aload_n 1, 1) := by decide +kernel
theorem dL_law_1357 : decode cL_law 1357 = .ok (.aload_n 0, 1) := by decide +kernel
theorem dL_law_1358 : decode cL_law 1358 = .ok (.iload_n 3, 1) := by decide +kernel
theorem dL_law_1359 : decode cL_law 1359 = .ok (.iconst 1, 1) := by decide +kernel
theorem dL_law_1360 : decode cL_law 1360 = .ok (.iadd, 1) := by decide +kernel
theorem dL_law_1361 : decode cL_law 1361 = .ok (.iaload, 1) := by decide +kernel
theorem kw1196 : (.methodLink RL 175 yX9_untell : Cond) ∈ gT := gT_of 1196 (by decide +kernel) (by decide +kernel)
theorem kw1199 : (.code yX9_untell cX9_untell 2 (some .boolean) : Cond) ∈ gT := gT_of 1199 (by decide +kernel) (by decide +kernel)
theorem kw1197 : (.instanceMethod yX9_untell : Cond) ∈ gT := gT_of 1197 (by decide +kernel) (by decide +kernel)
theorem kw1198 : (.selects RX9 yX9_untell yX9_untell : Cond) ∈ gT := gT_of 1198 (by decide +kernel) (by decide +kernel)
theorem dL_law_1362 : decode cL_law 1362 = .ok (.invokevirtual 175, 3) := by decide +kernel
theorem dL_law_1365 : decode cL_law 1365 = .ok (.aload_n 2, 1) := by decide +kernel
theorem dL_law_1366 : decode cL_law 1366 = .ok (.aload_n 0, 1) := by decide +kernel
theorem dL_law_1367 : decode cL_law 1367 = .ok (.iload_n 3, 1) := by decide +kernel
theorem dL_law_1368 : decode cL_law 1368 = .ok (.iconst 1, 1) := by decide +kernel
theorem dL_law_1369 : decode cL_law 1369 = .ok (.iadd, 1) := by decide +kernel
theorem dL_law_1370 : decode cL_law 1370 = .ok (.iaload, 1) := by decide +kernel
theorem kw1964 : (.methodLink RL 179 yX10_untell : Cond) ∈ gT := gT_of 1964 (by decide +kernel) (by decide +kernel)
theorem kw1967 : (.code yX10_untell cX10_untell 2 (some .boolean) : Cond) ∈ gT := gT_of 1967 (by decide +kernel) (by decide +kernel)
theorem kw1965 : (.instanceMethod yX10_untell : Cond) ∈ gT := gT_of 1965 (by decide +kernel) (by decide +kernel)
theorem kw1966 : (.selects RX10 yX10_untell yX10_untell : Cond) ∈ gT := gT_of 1966 (by decide +kernel) (by decide +kernel)
theorem dL_law_1371 : decode cL_law 1371 = .ok (.invokevirtual 179, 3) := by decide +kernel
theorem dL_law_1374 : decode cL_law 1374 = .ok (.if_icmp .eq 153, 3) := by decide +kernel
theorem dL_law_1379 : decode cL_law 1379 = .ok (.aload_n 1, 1) := by decide +kernel
theorem dL_law_1380 : decode cL_law 1380 = .ok (.aload_n 0, 1) := by decide +kernel
theorem dL_law_1381 : decode cL_law 1381 = .ok (.iload_n 3, 1) := by decide +kernel
theorem dL_law_1382 : decode cL_law 1382 = .ok (.iconst 1, 1) := by decide +kernel
theorem dL_law_1383 : decode cL_law 1383 = .ok (.iadd, 1) := by decide +kernel
theorem dL_law_1384 : decode cL_law 1384 = .ok (.iaload, 1) := by decide +kernel
theorem kw1204 : (.methodLink RL 180 yX9_later : Cond) ∈ gT := gT_of 1204 (by decide +kernel) (by decide +kernel)
theorem kw1207 : (.code yX9_later cX9_later 2 (some .int) : Cond) ∈ gT := gT_of 1207 (by decide +kernel) (by decide +kernel)
theorem kw1205 : (.instanceMethod yX9_later : Cond) ∈ gT := gT_of 1205 (by decide +kernel) (by decide +kernel)
theorem kw1206 : (.selects RX9 yX9_later yX9_later : Cond) ∈ gT := gT_of 1206 (by decide +kernel) (by decide +kernel)
theorem dL_law_1385 : decode cL_law 1385 = .ok (.invokevirtual 180, 3) := by decide +kernel
theorem dL_law_1388 : decode cL_law 1388 = .ok (.aload_n 2, 1) := by decide +kernel
theorem dL_law_1389 : decode cL_law 1389 = .ok (.aload_n 0, 1) := by decide +kernel
theorem dL_law_1390 : decode cL_law 1390 = .ok (.iload_n 3, 1) := by decide +kernel
theorem dL_law_1391 : decode cL_law 1391 = .ok (.iconst 1, 1) := by decide +kernel
theorem dL_law_1392 : decode cL_law 1392 = .ok (.iadd, 1) := by decide +kernel
theorem dL_law_1393 : decode cL_law 1393 = .ok (.iaload, 1) := by decide +kernel
theorem kw1968 : (.methodLink RL 183 yX10_later : Cond) ∈ gT := gT_of 1968 (by decide +kernel) (by decide +kernel)
theorem kw1971 : (.code yX10_later cX10_later 2 (some .int) : Cond) ∈ gT := gT_of 1971 (by decide +kernel) (by decide +kernel)
theorem kw1969 : (.instanceMethod yX10_later : Cond) ∈ gT := gT_of 1969 (by decide +kernel) (by decide +kernel)
theorem kw1970 : (.selects RX10 yX10_later yX10_later : Cond) ∈ gT := gT_of 1970 (by decide +kernel) (by decide +kernel)
theorem dL_law_1394 : decode cL_law 1394 = .ok (.invokevirtual 183, 3) := by decide +kernel
theorem dL_law_1397 : decode cL_law 1397 = .ok (.if_icmp .eq 130, 3) := by decide +kernel
theorem dL_law_1402 : decode cL_law 1402 = .ok (.aload_n 1, 1) := by decide +kernel
theorem dL_law_1403 : decode cL_law 1403 = .ok (.aload_n 0, 1) := by decide +kernel
theorem dL_law_1404 : decode cL_law 1404 = .ok (.iload_n 3, 1) := by decide +kernel
theorem dL_law_1405 : decode cL_law 1405 = .ok (.iconst 1, 1) := by decide +kernel
theorem dL_law_1406 : decode cL_law 1406 = .ok (.iadd, 1) := by decide +kernel
theorem dL_law_1407 : decode cL_law 1407 = .ok (.iaload, 1) := by decide +kernel
theorem kw1209 : (.methodLink RL 184 yX9_fits : Cond) ∈ gT := gT_of 1209 (by decide +kernel) (by decide +kernel)
theorem kw1212 : (.code yX9_fits cX9_fits 2 (some .int) : Cond) ∈ gT := gT_of 1212 (by decide +kernel) (by decide +kernel)
theorem kw1210 : (.instanceMethod yX9_fits : Cond) ∈ gT := gT_of 1210 (by decide +kernel) (by decide +kernel)
theorem kw1211 : (.selects RX9 yX9_fits yX9_fits : Cond) ∈ gT := gT_of 1211 (by decide +kernel) (by decide +kernel)
theorem dL_law_1408 : decode cL_law 1408 = .ok (.invokevirtual 184, 3) := by decide +kernel
theorem dL_law_1411 : decode cL_law 1411 = .ok (.aload_n 2, 1) := by decide +kernel
theorem dL_law_1412 : decode cL_law 1412 = .ok (.aload_n 0, 1) := by decide +kernel
theorem dL_law_1413 : decode cL_law 1413 = .ok (.iload_n 3, 1) := by decide +kernel
theorem dL_law_1414 : decode cL_law 1414 = .ok (.iconst 1, 1) := by decide +kernel
theorem dL_law_1415 : decode cL_law 1415 = .ok (.iadd, 1) := by decide +kernel
theorem dL_law_1416 : decode cL_law 1416 = .ok (.iaload, 1) := by decide +kernel
theorem kw1973 : (.methodLink RL 187 yX10_fits : Cond) ∈ gT := gT_of 1973 (by decide +kernel) (by decide +kernel)
theorem dL_law_1417 : decode cL_law 1417 = .ok (.invokevirtual 187, 3) := by decide +kernel
theorem dL_law_1420 : decode cL_law 1420 = .ok (.if_icmp .eq 107, 3) := by decide +kernel
theorem dL_law_1425 : decode cL_law 1425 = .ok (.aload_n 1, 1) := by decide +kernel
theorem dL_law_1426 : decode cL_law 1426 = .ok (.aload_n 0, 1) := by decide +kernel
theorem dL_law_1427 : decode cL_law 1427 = .ok (.iload_n 3, 1) := by decide +kernel
theorem dL_law_1428 : decode cL_law 1428 = .ok (.iconst 1, 1) := by decide +kernel
theorem dL_law_1429 : decode cL_law 1429 = .ok (.iadd, 1) := by decide +kernel
theorem dL_law_1430 : decode cL_law 1430 = .ok (.iaload, 1) := by decide +kernel
theorem dL_law_1431 : decode cL_law 1431 = .ok (.aload_n 0, 1) := by decide +kernel
theorem dL_law_1432 : decode cL_law 1432 = .ok (.iload_n 3, 1) := by decide +kernel
theorem dL_law_1433 : decode cL_law 1433 = .ok (.iconst 2, 1) := by decide +kernel
theorem dL_law_1434 : decode cL_law 1434 = .ok (.iadd, 1) := by decide +kernel
theorem dL_law_1435 : decode cL_law 1435 = .ok (.iaload, 1) := by decide +kernel
theorem kw1232 : (.methodLink RL 188 yX9_ask : Cond) ∈ gT := gT_of 1232 (by decide +kernel) (by decide +kernel)
theorem kw1235 : (.code yX9_ask cX9_ask 8 (some .int) : Cond) ∈ gT := gT_of 1235 (by decide +kernel) (by decide +kernel)
theorem kw1233 : (.instanceMethod yX9_ask : Cond) ∈ gT := gT_of 1233 (by decide +kernel) (by decide +kernel)
theorem kw1234 : (.selects RX9 yX9_ask yX9_ask : Cond) ∈ gT := gT_of 1234 (by decide +kernel) (by decide +kernel)
theorem dL_law_1436 : decode cL_law 1436 = .ok (.invokevirtual 188, 3) := by decide +kernel
theorem dL_law_1439 : decode cL_law 1439 = .ok (.aload_n 2, 1) := by decide +kernel
theorem dL_law_1440 : decode cL_law 1440 = .ok (.aload_n 0, 1) := by decide +kernel
theorem dL_law_1441 : decode cL_law 1441 = .ok (.iload_n 3, 1) := by decide +kernel
theorem dL_law_1442 : decode cL_law 1442 = .ok (.iconst 1, 1) := by decide +kernel
theorem dL_law_1443 : decode cL_law 1443 = .ok (.iadd, 1) := by decide +kernel
theorem dL_law_1444 : decode cL_law 1444 = .ok (.iaload, 1) := by decide +kernel
theorem dL_law_1445 : decode cL_law 1445 = .ok (.aload_n 0, 1) := by decide +kernel
theorem dL_law_1446 : decode cL_law 1446 = .ok (.iload_n 3, 1) := by decide +kernel
theorem dL_law_1447 : decode cL_law 1447 = .ok (.iconst 2, 1) := by decide +kernel
theorem dL_law_1448 : decode cL_law 1448 = .ok (.iadd, 1) := by decide +kernel
theorem dL_law_1449 : decode cL_law 1449 = .ok (.iaload, 1) := by decide +kernel
theorem kw1985 : (.methodLink RL 191 yX10_ask : Cond) ∈ gT := gT_of 1985 (by decide +kernel) (by decide +kernel)
theorem kw1988 : (.code yX10_ask cX10_ask 6 (some .int) : Cond) ∈ gT := gT_of 1988 (by decide +kernel) (by decide +kernel)
theorem kw1986 : (.instanceMethod yX10_ask : Cond) ∈ gT := gT_of 1986 (by decide +kernel) (by decide +kernel)
theorem kw1987 : (.selects RX10 yX10_ask yX10_ask : Cond) ∈ gT := gT_of 1987 (by decide +kernel) (by decide +kernel)
theorem dL_law_1450 : decode cL_law 1450 = .ok (.invokevirtual 191, 3) := by decide +kernel
theorem dL_law_1453 : decode cL_law 1453 = .ok (.if_icmp .eq 74, 3) := by decide +kernel
theorem dL_law_1458 : decode cL_law 1458 = .ok (.aload_n 1, 1) := by decide +kernel
theorem dL_law_1459 : decode cL_law 1459 = .ok (.aload_n 0, 1) := by decide +kernel
theorem dL_law_1460 : decode cL_law 1460 = .ok (.iload_n 3, 1) := by decide +kernel
theorem dL_law_1461 : decode cL_law 1461 = .ok (.iconst 1, 1) := by decide +kernel
theorem dL_law_1462 : decode cL_law 1462 = .ok (.iadd, 1) := by decide +kernel
theorem dL_law_1463 : decode cL_law 1463 = .ok (.iaload, 1) := by decide +kernel
theorem kw1243 : (.methodLink RL 192 yX9_image : Cond) ∈ gT := gT_of 1243 (by decide +kernel) (by decide +kernel)
theorem kw1246 : (.code yX9_image cX9_image 2 (some .int) : Cond) ∈ gT := gT_of 1246 (by decide +kernel) (by decide +kernel)
theorem kw1244 : (.instanceMethod yX9_image : Cond) ∈ gT := gT_of 1244 (by decide +kernel) (by decide +kernel)
theorem kw1245 : (.selects RX9 yX9_image yX9_image : Cond) ∈ gT := gT_of 1245 (by decide +kernel) (by decide +kernel)
theorem dL_law_1464 : decode cL_law 1464 = .ok (.invokevirtual 192, 3) := by decide +kernel
theorem dL_law_1467 : decode cL_law 1467 = .ok (.aload_n 2, 1) := by decide +kernel
theorem dL_law_1468 : decode cL_law 1468 = .ok (.aload_n 0, 1) := by decide +kernel
theorem dL_law_1469 : decode cL_law 1469 = .ok (.iload_n 3, 1) := by decide +kernel
theorem dL_law_1470 : decode cL_law 1470 = .ok (.iconst 1, 1) := by decide +kernel
theorem dL_law_1471 : decode cL_law 1471 = .ok (.iadd, 1) := by decide +kernel
theorem dL_law_1472 : decode cL_law 1472 = .ok (.iaload, 1) := by decide +kernel
theorem kw1994 : (.methodLink RL 195 yX10_image : Cond) ∈ gT := gT_of 1994 (by decide +kernel) (by decide +kernel)
theorem kw1997 : (.code yX10_image cX10_image 3 (some .int) : Cond) ∈ gT := gT_of 1997 (by decide +kernel) (by decide +kernel)
theorem kw1995 : (.instanceMethod yX10_image : Cond) ∈ gT := gT_of 1995 (by decide +kernel) (by decide +kernel)
theorem kw1996 : (.selects RX10 yX10_image yX10_image : Cond) ∈ gT := gT_of 1996 (by decide +kernel) (by decide +kernel)
theorem dL_law_1473 : decode cL_law 1473 = .ok (.invokevirtual 195, 3) := by decide +kernel
theorem dL_law_1476 : decode cL_law 1476 = .ok (.if_icmp .eq 51, 3) := by decide +kernel
theorem dL_law_1481 : decode cL_law 1481 = .ok (.aload_n 1, 1) := by decide +kernel
theorem dL_law_1482 : decode cL_law 1482 = .ok (.aload_n 0, 1) := by decide +kernel
theorem dL_law_1483 : decode cL_law 1483 = .ok (.iload_n 3, 1) := by decide +kernel
theorem dL_law_1484 : decode cL_law 1484 = .ok (.iconst 1, 1) := by decide +kernel
theorem dL_law_1485 : decode cL_law 1485 = .ok (.iadd, 1) := by decide +kernel
theorem dL_law_1486 : decode cL_law 1486 = .ok (.iaload, 1) := by decide +kernel
theorem kw1248 : (.methodLink RL 196 yX9_back : Cond) ∈ gT := gT_of 1248 (by decide +kernel) (by decide +kernel)
theorem kw1251 : (.code yX9_back cX9_back 2 (some .int) : Cond) ∈ gT := gT_of 1251 (by decide +kernel) (by decide +kernel)
theorem kw1249 : (.instanceMethod yX9_back : Cond) ∈ gT := gT_of 1249 (by decide +kernel) (by decide +kernel)
theorem kw1250 : (.selects RX9 yX9_back yX9_back : Cond) ∈ gT := gT_of 1250 (by decide +kernel) (by decide +kernel)
theorem dL_law_1487 : decode cL_law 1487 = .ok (.invokevirtual 196, 3) := by decide +kernel
theorem dL_law_1490 : decode cL_law 1490 = .ok (.aload_n 2, 1) := by decide +kernel
theorem dL_law_1491 : decode cL_law 1491 = .ok (.aload_n 0, 1) := by decide +kernel
theorem dL_law_1492 : decode cL_law 1492 = .ok (.iload_n 3, 1) := by decide +kernel
theorem dL_law_1493 : decode cL_law 1493 = .ok (.iconst 1, 1) := by decide +kernel
theorem dL_law_1494 : decode cL_law 1494 = .ok (.iadd, 1) := by decide +kernel
theorem dL_law_1495 : decode cL_law 1495 = .ok (.iaload, 1) := by decide +kernel
theorem kw1998 : (.methodLink RL 199 yX10_back : Cond) ∈ gT := gT_of 1998 (by decide +kernel) (by decide +kernel)
theorem kw2001 : (.code yX10_back cX10_back 3 (some .int) : Cond) ∈ gT := gT_of 2001 (by decide +kernel) (by decide +kernel)
theorem kw1999 : (.instanceMethod yX10_back : Cond) ∈ gT := gT_of 1999 (by decide +kernel) (by decide +kernel)
theorem kw2000 : (.selects RX10 yX10_back yX10_back : Cond) ∈ gT := gT_of 2000 (by decide +kernel) (by decide +kernel)
theorem dL_law_1496 : decode cL_law 1496 = .ok (.invokevirtual 199, 3) := by decide +kernel
theorem dL_law_1499 : decode cL_law 1499 = .ok (.if_icmp .eq 28, 3) := by decide +kernel
theorem dL_law_1504 : decode cL_law 1504 = .ok (.aload_n 1, 1) := by decide +kernel
theorem dL_law_1505 : decode cL_law 1505 = .ok (.aload_n 0, 1) := by decide +kernel
theorem dL_law_1506 : decode cL_law 1506 = .ok (.iload_n 3, 1) := by decide +kernel
theorem dL_law_1507 : decode cL_law 1507 = .ok (.iconst 1, 1) := by decide +kernel
theorem dL_law_1508 : decode cL_law 1508 = .ok (.iadd, 1) := by decide +kernel
theorem dL_law_1509 : decode cL_law 1509 = .ok (.iaload, 1) := by decide +kernel
theorem kw1253 : (.methodLink RL 200 yX9_about : Cond) ∈ gT := gT_of 1253 (by decide +kernel) (by decide +kernel)
theorem kw1256 : (.code yX9_about cX9_about 2 (some .int) : Cond) ∈ gT := gT_of 1256 (by decide +kernel) (by decide +kernel)
theorem kw1254 : (.instanceMethod yX9_about : Cond) ∈ gT := gT_of 1254 (by decide +kernel) (by decide +kernel)
theorem kw1255 : (.selects RX9 yX9_about yX9_about : Cond) ∈ gT := gT_of 1255 (by decide +kernel) (by decide +kernel)
theorem dL_law_1510 : decode cL_law 1510 = .ok (.invokevirtual 200, 3) := by decide +kernel
theorem dL_law_1513 : decode cL_law 1513 = .ok (.aload_n 2, 1) := by decide +kernel
theorem dL_law_1514 : decode cL_law 1514 = .ok (.aload_n 0, 1) := by decide +kernel
theorem dL_law_1515 : decode cL_law 1515 = .ok (.iload_n 3, 1) := by decide +kernel
theorem dL_law_1516 : decode cL_law 1516 = .ok (.iconst 1, 1) := by decide +kernel
theorem dL_law_1517 : decode cL_law 1517 = .ok (.iadd, 1) := by decide +kernel
theorem dL_law_1518 : decode cL_law 1518 = .ok (.iaload, 1) := by decide +kernel
theorem kw2002 : (.methodLink RL 203 yX10_about : Cond) ∈ gT := gT_of 2002 (by decide +kernel) (by decide +kernel)
theorem kw2005 : (.code yX10_about cX10_about 2 (some .int) : Cond) ∈ gT := gT_of 2005 (by decide +kernel) (by decide +kernel)
theorem kw2003 : (.instanceMethod yX10_about : Cond) ∈ gT := gT_of 2003 (by decide +kernel) (by decide +kernel)
theorem kw2004 : (.selects RX10 yX10_about yX10_about : Cond) ∈ gT := gT_of 2004 (by decide +kernel) (by decide +kernel)
theorem dL_law_1519 : decode cL_law 1519 = .ok (.invokevirtual 203, 3) := by decide +kernel
theorem dL_law_1522 : decode cL_law 1522 = .ok (.if_icmp .eq 5, 3) := by decide +kernel
set_option maxHeartbeats 40000000 in
set_option maxRecDepth 100000 in
theorem whole_start {p : Program} {e : Env} {s : State} {m : MethodId} {below : List Frame} {meth : Method} {c : Code} (l : Launch) {b L : Nat} {xs : Nat → Int32} (hL : L ≤ 6) (C0 : lw_At p s m meth c b L xs) : W p l e room_1 s m #[Value.ref b] below meth c s.heap [] 0 0 (lw_Z below #[Value.ref b] s) (entryFrame m ([Value.ref b] : List Value).toArray 4) := by
  obtain ⟨hx, hb, hr, hml, hown, hts0, hX, hbl, hlocks, hgv⟩ := id C0
  obtain ⟨D, cB, cI, cJ, cZ, aK, aV, hG, hE⟩ := env_start C0
  have hts : ∀ w ∈ gT, w.before #[Value.ref b] s = true := fun w h => hts0 w (gT_in h)
  obtain ⟨A, hAe⟩ : ∃ A : Nat → Prop, A = fun q => s.heap.size ≤ q := ⟨_, rfl⟩
  rw [← hAe] at hE
  have hA : ∀ q : Nat, s.heap.size ≤ q → A q := fun q h => by rw [hAe]; exact h
  have hbA : ¬ A b := by rw [hAe]; exact Nat.not_le.mpr hbl
  have hS : va_S A s.heap s.heap [] := va_S.rf
  have hP : va_P D vwCl [] s.heap := fun k q h => by simp at h
  have hD : va_D A [] := ⟨fun i j p q h => by simp at h, fun k q h => by simp at h⟩
  have hl := lv_entry ([.ref b]) (n := 4) (Nat.le_of_ble_eq_true rfl)
  rw [lg_entry_eq]
  generalize (lg_sl ([.ref b]) ++ List.replicate (4 - (lg_sl ([.ref b])).length) Slot.unset).toArray = ls at hl ⊢
  have hl : lv_has ls 4 [(0, .ref b)] := hl
  refine xn_new (D := D) (ci := 9) (C := RX9) (T := TX9) (N := 13) (fs := [.null, .null, .null, .null, .null, .null, .null, .null, .null, .null, .null, .null, .int 0]) (k1 := 1) (n1 := 13) hx hb hts inX9 tyX9 tyX9_ok hown kw131 kw132 kw112 hG hP hD hS hA rfl (by decide +kernel) (Nat.le_of_ble_eq_true rfl) (Nat.le_of_ble_eq_true rfl) (Nat.le_of_ble_eq_true rfl) (Nat.le_of_ble_eq_true rfl) dL_law_0 (fun q_1 H hP hD hS => ?_)
  have hP : va_P D vwCl [(q_1, .inr (9, [.null, .null, .null, .null, .null, .null, .null, .null, .null, .null, .null, .null, .int 0]))] H := hP
  have hD : va_D A [(q_1, .inr (9, [.null, .null, .null, .null, .null, .null, .null, .null, .null, .null, .null, .null, .int 0]))] := hD
  refine lv_dup hx hb dL_law_3 rfl ?_
  refine xc_core (wr := []) (k := 67) (n := 4567) (xc_runI (As := []) (rest := [.ref q_1]) hx hb hml hown hts hG hE hP hD hS hA [0] (by decide) rfl (cX9_init_1 l D cB cI cJ cZ aK aV q_1) kw135 kw133 kw134 kw112 rfl (show XD yX9_init 0 from by decide +kernel) (by decide) hl.1 rfl (Nat.le_of_ble_eq_true rfl) dL_law_4 (by decide)) hP hD hS hA [0] [] rfl rfl (by decide) (by decide) (Nat.le_of_ble_eq_true rfl) (Nat.le_of_ble_eq_true rfl) (fun r w1 H locs hpost hP hD hS => ?_)
  obtain ⟨q_2, q_3, q_4, q_5, q_6, q_7, q_8, q_9, q_10, q_11, q_12, q_13, q_14, f_15, q_16, q_17, q_18, q_19, q_20, q_21, q_22, q_23, q_24, q_25, f_26, f_27, f_28, f_29, f_30, f_31, f_32, f_33, q_34, q_35, f_36, f_37, q_38, q_39, f_40, f_41, q_42, q_43, q_44, q_45, q_46, q_47, q_48, q_49, q_50, q_51, f_52, f_53, f_54, f_55, f_56, f_57, f_58, f_59, q_60, q_61, f_62, f_63, q_64, q_65, f_66, f_67, q_68, q_69, q_70, q_71, f_72, q_73, q_74, q_75, q_76, q_77, f_78, f_79, f_80, f_81, q_82, q_83, q_84, q_85, q_86, f_87, f_88, f_89, f_90, q_91, q_92, q_93, q_94, q_95, q_96, q_97, q_98, q_99, q_100, q_101, rfl, rfl⟩ := hpost
  have hP : va_P D vwCl ((q_1, .inr (9, [.ref q_2, .ref q_3, .ref q_4, .ref q_5, .ref q_6, .ref q_7, .ref q_8, .ref q_9, .ref q_10, .ref q_11, .ref q_12, .ref q_13, .int 0])) :: (q_2, .inr (7, [.ref q_14, .int 0])) :: (q_14, .inl (cB, 1600, .inl f_15)) :: (q_4, .inr (8, [.int 0, .int 0, .int 0, .ref q_16, .ref q_17, .ref q_18, .ref q_19, .ref q_20, .ref q_21, .ref q_22, .ref q_23, .ref q_24, .ref q_25, .int 0, .int 1, .int 0, .int 0, .int 0])) :: (q_16, .inl (cI, 4, .inl f_26)) :: (q_17, .inl (cI, 3, .inl f_27)) :: (q_18, .inl (cI, 7, .inl f_28)) :: (q_19, .inl (cI, 7, .inl f_29)) :: (q_20, .inl (cI, 7, .inl f_30)) :: (q_21, .inl (cI, 7, .inl f_31)) :: (q_22, .inl (cI, 7, .inl f_32)) :: (q_23, .inl (cI, 28, .inl f_33)) :: (q_24, .inr (1, [.ref q_34, .ref q_35, .int 0, .int 0, .int 0])) :: (q_34, .inl (cI, 272, .inl f_36)) :: (q_35, .inl (cI, 30, .inl f_37)) :: (q_25, .inr (1, [.ref q_38, .ref q_39, .int 0, .int 0, .int 0])) :: (q_38, .inl (cI, 272, .inl f_40)) :: (q_39, .inl (cI, 30, .inl f_41)) :: (q_5, .inr (8, [.int 0, .int 0, .int 0, .ref q_42, .ref q_43, .ref q_44, .ref q_45, .ref q_46, .ref q_47, .ref q_48, .ref q_49, .ref q_50, .ref q_51, .int 0, .int 1, .int 0, .int 0, .int 0])) :: (q_42, .inl (cI, 4, .inl f_52)) :: (q_43, .inl (cI, 3, .inl f_53)) :: (q_44, .inl (cI, 7, .inl f_54)) :: (q_45, .inl (cI, 7, .inl f_55)) :: (q_46, .inl (cI, 7, .inl f_56)) :: (q_47, .inl (cI, 7, .inl f_57)) :: (q_48, .inl (cI, 7, .inl f_58)) :: (q_49, .inl (cI, 28, .inl f_59)) :: (q_50, .inr (1, [.ref q_60, .ref q_61, .int 0, .int 0, .int 0])) :: (q_60, .inl (cI, 272, .inl f_62)) :: (q_61, .inl (cI, 30, .inl f_63)) :: (q_51, .inr (1, [.ref q_64, .ref q_65, .int 0, .int 0, .int 0])) :: (q_64, .inl (cI, 272, .inl f_66)) :: (q_65, .inl (cI, 30, .inl f_67)) :: (q_3, .inr (4, [.ref q_68, .ref q_69, .ref q_70, .ref q_71, .ref q_2, .ref q_14, .int 0, .ref q_5, .ref q_50, .int 0, .int 0, .int 0, .long 0, .int 0, .int 0, .int (-1)])) :: (q_68, .inl (cJ, 21, .inr (.inl f_72))) :: (q_69, .inl (cJ, 4, .inr (.inl (fun _ => 0)))) :: (q_70, .inl (cJ, 3, .inr (.inl (fun _ => 0)))) :: (q_71, .inl (cJ, 7, .inr (.inl (fun _ => 0)))) :: (q_6, .inr (3, [.ref q_4, .ref q_73, .ref q_74, .ref q_75, .ref q_76, .ref q_77, .int 0, .int 0])) :: (q_73, .inl (cI, 7, .inl f_78)) :: (q_74, .inl (cI, 7, .inl f_79)) :: (q_75, .inl (cI, 7, .inl f_80)) :: (q_76, .inl (cI, 4, .inl f_81)) :: (q_77, .inl (cI, 7, .inl (fun _ => 0))) :: (q_7, .inr (3, [.ref q_4, .ref q_82, .ref q_83, .ref q_84, .ref q_85, .ref q_86, .int 0, .int 0])) :: (q_82, .inl (cI, 7, .inl f_87)) :: (q_83, .inl (cI, 7, .inl f_88)) :: (q_84, .inl (cI, 7, .inl f_89)) :: (q_85, .inl (cI, 4, .inl f_90)) :: (q_86, .inl (cI, 7, .inl (fun _ => 0))) :: (q_8, .inr (2, [.ref q_91, .int 0, .int 0, .int 0])) :: (q_91, .inl (cI, 1107, .inl (fun _ => 0))) :: (q_9, .inr (0, [.int 0, .int 0, .ref q_92, .ref q_93, .int 0, .int 0, .int 0, .ref q_94, .ref q_95, .int 0, .int 0, .int 0, .int 0, .int 0])) :: (q_92, .inl (cI, 28, .inl (fun _ => 0))) :: (q_93, .inl (cI, 7, .inl (fun _ => 0))) :: (q_94, .inl (cI, 4, .inl (fun _ => 0))) :: (q_95, .inl (cI, 4, .inl (fun _ => 0))) :: (q_10, .inr (6, [.ref q_96, .ref q_97, .ref q_98, .ref q_99, .ref q_100, .int 0])) :: (q_96, .inl (cI, 30, .inl (fun _ => 0))) :: (q_97, .inl (cI, 30, .inl (fun _ => 0))) :: (q_98, .inl (cZ, 30, .inl (fun _ => 0))) :: (q_99, .inl (cI, 30, .inl (fun _ => 0))) :: (q_100, .inl (cI, 30, .inl (fun _ => 0))) :: (q_11, .inr (5, [.ref q_101, .int 0])) :: (q_101, .inl (cI, 7, .inl (fun _ => 0))) :: (q_12, .inl (cI, 81, .inl (fun _ => 0))) :: (q_13, .inl (cZ, 3, .inl (lst [0, 0, 0]))) :: []) H := hP
  have hD : va_D A ((q_1, .inr (9, [.ref q_2, .ref q_3, .ref q_4, .ref q_5, .ref q_6, .ref q_7, .ref q_8, .ref q_9, .ref q_10, .ref q_11, .ref q_12, .ref q_13, .int 0])) :: (q_2, .inr (7, [.ref q_14, .int 0])) :: (q_14, .inl (cB, 1600, .inl f_15)) :: (q_4, .inr (8, [.int 0, .int 0, .int 0, .ref q_16, .ref q_17, .ref q_18, .ref q_19, .ref q_20, .ref q_21, .ref q_22, .ref q_23, .ref q_24, .ref q_25, .int 0, .int 1, .int 0, .int 0, .int 0])) :: (q_16, .inl (cI, 4, .inl f_26)) :: (q_17, .inl (cI, 3, .inl f_27)) :: (q_18, .inl (cI, 7, .inl f_28)) :: (q_19, .inl (cI, 7, .inl f_29)) :: (q_20, .inl (cI, 7, .inl f_30)) :: (q_21, .inl (cI, 7, .inl f_31)) :: (q_22, .inl (cI, 7, .inl f_32)) :: (q_23, .inl (cI, 28, .inl f_33)) :: (q_24, .inr (1, [.ref q_34, .ref q_35, .int 0, .int 0, .int 0])) :: (q_34, .inl (cI, 272, .inl f_36)) :: (q_35, .inl (cI, 30, .inl f_37)) :: (q_25, .inr (1, [.ref q_38, .ref q_39, .int 0, .int 0, .int 0])) :: (q_38, .inl (cI, 272, .inl f_40)) :: (q_39, .inl (cI, 30, .inl f_41)) :: (q_5, .inr (8, [.int 0, .int 0, .int 0, .ref q_42, .ref q_43, .ref q_44, .ref q_45, .ref q_46, .ref q_47, .ref q_48, .ref q_49, .ref q_50, .ref q_51, .int 0, .int 1, .int 0, .int 0, .int 0])) :: (q_42, .inl (cI, 4, .inl f_52)) :: (q_43, .inl (cI, 3, .inl f_53)) :: (q_44, .inl (cI, 7, .inl f_54)) :: (q_45, .inl (cI, 7, .inl f_55)) :: (q_46, .inl (cI, 7, .inl f_56)) :: (q_47, .inl (cI, 7, .inl f_57)) :: (q_48, .inl (cI, 7, .inl f_58)) :: (q_49, .inl (cI, 28, .inl f_59)) :: (q_50, .inr (1, [.ref q_60, .ref q_61, .int 0, .int 0, .int 0])) :: (q_60, .inl (cI, 272, .inl f_62)) :: (q_61, .inl (cI, 30, .inl f_63)) :: (q_51, .inr (1, [.ref q_64, .ref q_65, .int 0, .int 0, .int 0])) :: (q_64, .inl (cI, 272, .inl f_66)) :: (q_65, .inl (cI, 30, .inl f_67)) :: (q_3, .inr (4, [.ref q_68, .ref q_69, .ref q_70, .ref q_71, .ref q_2, .ref q_14, .int 0, .ref q_5, .ref q_50, .int 0, .int 0, .int 0, .long 0, .int 0, .int 0, .int (-1)])) :: (q_68, .inl (cJ, 21, .inr (.inl f_72))) :: (q_69, .inl (cJ, 4, .inr (.inl (fun _ => 0)))) :: (q_70, .inl (cJ, 3, .inr (.inl (fun _ => 0)))) :: (q_71, .inl (cJ, 7, .inr (.inl (fun _ => 0)))) :: (q_6, .inr (3, [.ref q_4, .ref q_73, .ref q_74, .ref q_75, .ref q_76, .ref q_77, .int 0, .int 0])) :: (q_73, .inl (cI, 7, .inl f_78)) :: (q_74, .inl (cI, 7, .inl f_79)) :: (q_75, .inl (cI, 7, .inl f_80)) :: (q_76, .inl (cI, 4, .inl f_81)) :: (q_77, .inl (cI, 7, .inl (fun _ => 0))) :: (q_7, .inr (3, [.ref q_4, .ref q_82, .ref q_83, .ref q_84, .ref q_85, .ref q_86, .int 0, .int 0])) :: (q_82, .inl (cI, 7, .inl f_87)) :: (q_83, .inl (cI, 7, .inl f_88)) :: (q_84, .inl (cI, 7, .inl f_89)) :: (q_85, .inl (cI, 4, .inl f_90)) :: (q_86, .inl (cI, 7, .inl (fun _ => 0))) :: (q_8, .inr (2, [.ref q_91, .int 0, .int 0, .int 0])) :: (q_91, .inl (cI, 1107, .inl (fun _ => 0))) :: (q_9, .inr (0, [.int 0, .int 0, .ref q_92, .ref q_93, .int 0, .int 0, .int 0, .ref q_94, .ref q_95, .int 0, .int 0, .int 0, .int 0, .int 0])) :: (q_92, .inl (cI, 28, .inl (fun _ => 0))) :: (q_93, .inl (cI, 7, .inl (fun _ => 0))) :: (q_94, .inl (cI, 4, .inl (fun _ => 0))) :: (q_95, .inl (cI, 4, .inl (fun _ => 0))) :: (q_10, .inr (6, [.ref q_96, .ref q_97, .ref q_98, .ref q_99, .ref q_100, .int 0])) :: (q_96, .inl (cI, 30, .inl (fun _ => 0))) :: (q_97, .inl (cI, 30, .inl (fun _ => 0))) :: (q_98, .inl (cZ, 30, .inl (fun _ => 0))) :: (q_99, .inl (cI, 30, .inl (fun _ => 0))) :: (q_100, .inl (cI, 30, .inl (fun _ => 0))) :: (q_11, .inr (5, [.ref q_101, .int 0])) :: (q_101, .inl (cI, 7, .inl (fun _ => 0))) :: (q_12, .inl (cI, 81, .inl (fun _ => 0))) :: (q_13, .inl (cZ, 3, .inl (lst [0, 0, 0]))) :: []) := hD
  refine lv_astore_n (lv' := [(1, .ref q_1), (0, .ref b)]) hx hb dL_law_7 rfl hl (by decide) rfl (fun ls hl => ?_)
  refine xn_new (D := D) (ci := 10) (C := RX10) (T := TX10) (N := 76) (fs := ((.null) :: (.null) :: (.int 0) :: (.int 0) :: (.int 0) :: (.int 0) :: (.int 0) :: (.int 0) :: (.int 0) :: (.int 0) :: (.long 0) :: (.null) :: (.null) :: (.null) :: (.null) :: (.null) :: (.null) :: (.null) :: (.null) :: (.null) :: (.null) :: (.null) :: (.null) :: (.null) :: (.null) :: (.null) :: (.null) :: (.null) :: (.null) :: (.null) :: (.null) :: (.null) :: (.null) :: (.null) :: (.null) :: (.null) :: (.null) :: (.null) :: (.null) :: (.null) :: (.null) :: (.int 0) :: (.int 0) :: (.int 0) :: (.int 0) :: (.int 0) :: (.int 0) :: (.int 0) :: (.int 0) :: (.int 0) :: (.null) :: (.null) :: (.int 0) :: (.null) :: (.int 0) :: (.int 0) :: (.int 0) :: (.int 0) :: (.int 0) :: (.int 0) :: (.null) :: (.int 0) :: (.null) :: (.null) :: (.null) :: (.null) :: (.null) :: (.null) :: (.null) :: (.null) :: (.null) :: (.null) :: (.int 0) :: (.int 0) :: (.null) :: (.null) :: [])) (k1 := 68) (n1 := 4643) hx hb hts inX10 tyX10 tyX10_ok hown kw1261 kw1262 kw127 hG hP hD hS hA rfl (by decide +kernel) (Nat.le_of_ble_eq_true rfl) (Nat.le_of_ble_eq_true rfl) (Nat.le_of_ble_eq_true rfl) (Nat.le_of_ble_eq_true rfl) dL_law_8 (fun q_102 H hP hD hS => ?_)
  have hP : va_P D vwCl ((q_1, .inr (9, [.ref q_2, .ref q_3, .ref q_4, .ref q_5, .ref q_6, .ref q_7, .ref q_8, .ref q_9, .ref q_10, .ref q_11, .ref q_12, .ref q_13, .int 0])) :: (q_2, .inr (7, [.ref q_14, .int 0])) :: (q_14, .inl (cB, 1600, .inl f_15)) :: (q_4, .inr (8, [.int 0, .int 0, .int 0, .ref q_16, .ref q_17, .ref q_18, .ref q_19, .ref q_20, .ref q_21, .ref q_22, .ref q_23, .ref q_24, .ref q_25, .int 0, .int 1, .int 0, .int 0, .int 0])) :: (q_16, .inl (cI, 4, .inl f_26)) :: (q_17, .inl (cI, 3, .inl f_27)) :: (q_18, .inl (cI, 7, .inl f_28)) :: (q_19, .inl (cI, 7, .inl f_29)) :: (q_20, .inl (cI, 7, .inl f_30)) :: (q_21, .inl (cI, 7, .inl f_31)) :: (q_22, .inl (cI, 7, .inl f_32)) :: (q_23, .inl (cI, 28, .inl f_33)) :: (q_24, .inr (1, [.ref q_34, .ref q_35, .int 0, .int 0, .int 0])) :: (q_34, .inl (cI, 272, .inl f_36)) :: (q_35, .inl (cI, 30, .inl f_37)) :: (q_25, .inr (1, [.ref q_38, .ref q_39, .int 0, .int 0, .int 0])) :: (q_38, .inl (cI, 272, .inl f_40)) :: (q_39, .inl (cI, 30, .inl f_41)) :: (q_5, .inr (8, [.int 0, .int 0, .int 0, .ref q_42, .ref q_43, .ref q_44, .ref q_45, .ref q_46, .ref q_47, .ref q_48, .ref q_49, .ref q_50, .ref q_51, .int 0, .int 1, .int 0, .int 0, .int 0])) :: (q_42, .inl (cI, 4, .inl f_52)) :: (q_43, .inl (cI, 3, .inl f_53)) :: (q_44, .inl (cI, 7, .inl f_54)) :: (q_45, .inl (cI, 7, .inl f_55)) :: (q_46, .inl (cI, 7, .inl f_56)) :: (q_47, .inl (cI, 7, .inl f_57)) :: (q_48, .inl (cI, 7, .inl f_58)) :: (q_49, .inl (cI, 28, .inl f_59)) :: (q_50, .inr (1, [.ref q_60, .ref q_61, .int 0, .int 0, .int 0])) :: (q_60, .inl (cI, 272, .inl f_62)) :: (q_61, .inl (cI, 30, .inl f_63)) :: (q_51, .inr (1, [.ref q_64, .ref q_65, .int 0, .int 0, .int 0])) :: (q_64, .inl (cI, 272, .inl f_66)) :: (q_65, .inl (cI, 30, .inl f_67)) :: (q_3, .inr (4, [.ref q_68, .ref q_69, .ref q_70, .ref q_71, .ref q_2, .ref q_14, .int 0, .ref q_5, .ref q_50, .int 0, .int 0, .int 0, .long 0, .int 0, .int 0, .int (-1)])) :: (q_68, .inl (cJ, 21, .inr (.inl f_72))) :: (q_69, .inl (cJ, 4, .inr (.inl (fun _ => 0)))) :: (q_70, .inl (cJ, 3, .inr (.inl (fun _ => 0)))) :: (q_71, .inl (cJ, 7, .inr (.inl (fun _ => 0)))) :: (q_6, .inr (3, [.ref q_4, .ref q_73, .ref q_74, .ref q_75, .ref q_76, .ref q_77, .int 0, .int 0])) :: (q_73, .inl (cI, 7, .inl f_78)) :: (q_74, .inl (cI, 7, .inl f_79)) :: (q_75, .inl (cI, 7, .inl f_80)) :: (q_76, .inl (cI, 4, .inl f_81)) :: (q_77, .inl (cI, 7, .inl (fun _ => 0))) :: (q_7, .inr (3, [.ref q_4, .ref q_82, .ref q_83, .ref q_84, .ref q_85, .ref q_86, .int 0, .int 0])) :: (q_82, .inl (cI, 7, .inl f_87)) :: (q_83, .inl (cI, 7, .inl f_88)) :: (q_84, .inl (cI, 7, .inl f_89)) :: (q_85, .inl (cI, 4, .inl f_90)) :: (q_86, .inl (cI, 7, .inl (fun _ => 0))) :: (q_8, .inr (2, [.ref q_91, .int 0, .int 0, .int 0])) :: (q_91, .inl (cI, 1107, .inl (fun _ => 0))) :: (q_9, .inr (0, [.int 0, .int 0, .ref q_92, .ref q_93, .int 0, .int 0, .int 0, .ref q_94, .ref q_95, .int 0, .int 0, .int 0, .int 0, .int 0])) :: (q_92, .inl (cI, 28, .inl (fun _ => 0))) :: (q_93, .inl (cI, 7, .inl (fun _ => 0))) :: (q_94, .inl (cI, 4, .inl (fun _ => 0))) :: (q_95, .inl (cI, 4, .inl (fun _ => 0))) :: (q_10, .inr (6, [.ref q_96, .ref q_97, .ref q_98, .ref q_99, .ref q_100, .int 0])) :: (q_96, .inl (cI, 30, .inl (fun _ => 0))) :: (q_97, .inl (cI, 30, .inl (fun _ => 0))) :: (q_98, .inl (cZ, 30, .inl (fun _ => 0))) :: (q_99, .inl (cI, 30, .inl (fun _ => 0))) :: (q_100, .inl (cI, 30, .inl (fun _ => 0))) :: (q_11, .inr (5, [.ref q_101, .int 0])) :: (q_101, .inl (cI, 7, .inl (fun _ => 0))) :: (q_12, .inl (cI, 81, .inl (fun _ => 0))) :: (q_13, .inl (cZ, 3, .inl (lst [0, 0, 0]))) :: (q_102, .inr (10, ((.null) :: (.null) :: (.int 0) :: (.int 0) :: (.int 0) :: (.int 0) :: (.int 0) :: (.int 0) :: (.int 0) :: (.int 0) :: (.long 0) :: (.null) :: (.null) :: (.null) :: (.null) :: (.null) :: (.null) :: (.null) :: (.null) :: (.null) :: (.null) :: (.null) :: (.null) :: (.null) :: (.null) :: (.null) :: (.null) :: (.null) :: (.null) :: (.null) :: (.null) :: (.null) :: (.null) :: (.null) :: (.null) :: (.null) :: (.null) :: (.null) :: (.null) :: (.null) :: (.null) :: (.int 0) :: (.int 0) :: (.int 0) :: (.int 0) :: (.int 0) :: (.int 0) :: (.int 0) :: (.int 0) :: (.int 0) :: (.null) :: (.null) :: (.int 0) :: (.null) :: (.int 0) :: (.int 0) :: (.int 0) :: (.int 0) :: (.int 0) :: (.int 0) :: (.null) :: (.int 0) :: (.null) :: (.null) :: (.null) :: (.null) :: (.null) :: (.null) :: (.null) :: (.null) :: (.null) :: (.null) :: (.int 0) :: (.int 0) :: (.null) :: (.null) :: []))) :: []) H := hP
  have hD : va_D A ((q_1, .inr (9, [.ref q_2, .ref q_3, .ref q_4, .ref q_5, .ref q_6, .ref q_7, .ref q_8, .ref q_9, .ref q_10, .ref q_11, .ref q_12, .ref q_13, .int 0])) :: (q_2, .inr (7, [.ref q_14, .int 0])) :: (q_14, .inl (cB, 1600, .inl f_15)) :: (q_4, .inr (8, [.int 0, .int 0, .int 0, .ref q_16, .ref q_17, .ref q_18, .ref q_19, .ref q_20, .ref q_21, .ref q_22, .ref q_23, .ref q_24, .ref q_25, .int 0, .int 1, .int 0, .int 0, .int 0])) :: (q_16, .inl (cI, 4, .inl f_26)) :: (q_17, .inl (cI, 3, .inl f_27)) :: (q_18, .inl (cI, 7, .inl f_28)) :: (q_19, .inl (cI, 7, .inl f_29)) :: (q_20, .inl (cI, 7, .inl f_30)) :: (q_21, .inl (cI, 7, .inl f_31)) :: (q_22, .inl (cI, 7, .inl f_32)) :: (q_23, .inl (cI, 28, .inl f_33)) :: (q_24, .inr (1, [.ref q_34, .ref q_35, .int 0, .int 0, .int 0])) :: (q_34, .inl (cI, 272, .inl f_36)) :: (q_35, .inl (cI, 30, .inl f_37)) :: (q_25, .inr (1, [.ref q_38, .ref q_39, .int 0, .int 0, .int 0])) :: (q_38, .inl (cI, 272, .inl f_40)) :: (q_39, .inl (cI, 30, .inl f_41)) :: (q_5, .inr (8, [.int 0, .int 0, .int 0, .ref q_42, .ref q_43, .ref q_44, .ref q_45, .ref q_46, .ref q_47, .ref q_48, .ref q_49, .ref q_50, .ref q_51, .int 0, .int 1, .int 0, .int 0, .int 0])) :: (q_42, .inl (cI, 4, .inl f_52)) :: (q_43, .inl (cI, 3, .inl f_53)) :: (q_44, .inl (cI, 7, .inl f_54)) :: (q_45, .inl (cI, 7, .inl f_55)) :: (q_46, .inl (cI, 7, .inl f_56)) :: (q_47, .inl (cI, 7, .inl f_57)) :: (q_48, .inl (cI, 7, .inl f_58)) :: (q_49, .inl (cI, 28, .inl f_59)) :: (q_50, .inr (1, [.ref q_60, .ref q_61, .int 0, .int 0, .int 0])) :: (q_60, .inl (cI, 272, .inl f_62)) :: (q_61, .inl (cI, 30, .inl f_63)) :: (q_51, .inr (1, [.ref q_64, .ref q_65, .int 0, .int 0, .int 0])) :: (q_64, .inl (cI, 272, .inl f_66)) :: (q_65, .inl (cI, 30, .inl f_67)) :: (q_3, .inr (4, [.ref q_68, .ref q_69, .ref q_70, .ref q_71, .ref q_2, .ref q_14, .int 0, .ref q_5, .ref q_50, .int 0, .int 0, .int 0, .long 0, .int 0, .int 0, .int (-1)])) :: (q_68, .inl (cJ, 21, .inr (.inl f_72))) :: (q_69, .inl (cJ, 4, .inr (.inl (fun _ => 0)))) :: (q_70, .inl (cJ, 3, .inr (.inl (fun _ => 0)))) :: (q_71, .inl (cJ, 7, .inr (.inl (fun _ => 0)))) :: (q_6, .inr (3, [.ref q_4, .ref q_73, .ref q_74, .ref q_75, .ref q_76, .ref q_77, .int 0, .int 0])) :: (q_73, .inl (cI, 7, .inl f_78)) :: (q_74, .inl (cI, 7, .inl f_79)) :: (q_75, .inl (cI, 7, .inl f_80)) :: (q_76, .inl (cI, 4, .inl f_81)) :: (q_77, .inl (cI, 7, .inl (fun _ => 0))) :: (q_7, .inr (3, [.ref q_4, .ref q_82, .ref q_83, .ref q_84, .ref q_85, .ref q_86, .int 0, .int 0])) :: (q_82, .inl (cI, 7, .inl f_87)) :: (q_83, .inl (cI, 7, .inl f_88)) :: (q_84, .inl (cI, 7, .inl f_89)) :: (q_85, .inl (cI, 4, .inl f_90)) :: (q_86, .inl (cI, 7, .inl (fun _ => 0))) :: (q_8, .inr (2, [.ref q_91, .int 0, .int 0, .int 0])) :: (q_91, .inl (cI, 1107, .inl (fun _ => 0))) :: (q_9, .inr (0, [.int 0, .int 0, .ref q_92, .ref q_93, .int 0, .int 0, .int 0, .ref q_94, .ref q_95, .int 0, .int 0, .int 0, .int 0, .int 0])) :: (q_92, .inl (cI, 28, .inl (fun _ => 0))) :: (q_93, .inl (cI, 7, .inl (fun _ => 0))) :: (q_94, .inl (cI, 4, .inl (fun _ => 0))) :: (q_95, .inl (cI, 4, .inl (fun _ => 0))) :: (q_10, .inr (6, [.ref q_96, .ref q_97, .ref q_98, .ref q_99, .ref q_100, .int 0])) :: (q_96, .inl (cI, 30, .inl (fun _ => 0))) :: (q_97, .inl (cI, 30, .inl (fun _ => 0))) :: (q_98, .inl (cZ, 30, .inl (fun _ => 0))) :: (q_99, .inl (cI, 30, .inl (fun _ => 0))) :: (q_100, .inl (cI, 30, .inl (fun _ => 0))) :: (q_11, .inr (5, [.ref q_101, .int 0])) :: (q_101, .inl (cI, 7, .inl (fun _ => 0))) :: (q_12, .inl (cI, 81, .inl (fun _ => 0))) :: (q_13, .inl (cZ, 3, .inl (lst [0, 0, 0]))) :: (q_102, .inr (10, ((.null) :: (.null) :: (.int 0) :: (.int 0) :: (.int 0) :: (.int 0) :: (.int 0) :: (.int 0) :: (.int 0) :: (.int 0) :: (.long 0) :: (.null) :: (.null) :: (.null) :: (.null) :: (.null) :: (.null) :: (.null) :: (.null) :: (.null) :: (.null) :: (.null) :: (.null) :: (.null) :: (.null) :: (.null) :: (.null) :: (.null) :: (.null) :: (.null) :: (.null) :: (.null) :: (.null) :: (.null) :: (.null) :: (.null) :: (.null) :: (.null) :: (.null) :: (.null) :: (.null) :: (.int 0) :: (.int 0) :: (.int 0) :: (.int 0) :: (.int 0) :: (.int 0) :: (.int 0) :: (.int 0) :: (.int 0) :: (.null) :: (.null) :: (.int 0) :: (.null) :: (.int 0) :: (.int 0) :: (.int 0) :: (.int 0) :: (.int 0) :: (.int 0) :: (.null) :: (.int 0) :: (.null) :: (.null) :: (.null) :: (.null) :: (.null) :: (.null) :: (.null) :: (.null) :: (.null) :: (.null) :: (.int 0) :: (.int 0) :: (.null) :: (.null) :: []))) :: []) := hD
  refine lv_dup hx hb dL_law_11 rfl ?_
  refine xc_core (wr := ((q_1, .inr (9, [.ref q_2, .ref q_3, .ref q_4, .ref q_5, .ref q_6, .ref q_7, .ref q_8, .ref q_9, .ref q_10, .ref q_11, .ref q_12, .ref q_13, .int 0])) :: (q_2, .inr (7, [.ref q_14, .int 0])) :: (q_14, .inl (cB, 1600, .inl f_15)) :: (q_4, .inr (8, [.int 0, .int 0, .int 0, .ref q_16, .ref q_17, .ref q_18, .ref q_19, .ref q_20, .ref q_21, .ref q_22, .ref q_23, .ref q_24, .ref q_25, .int 0, .int 1, .int 0, .int 0, .int 0])) :: (q_16, .inl (cI, 4, .inl f_26)) :: (q_17, .inl (cI, 3, .inl f_27)) :: (q_18, .inl (cI, 7, .inl f_28)) :: (q_19, .inl (cI, 7, .inl f_29)) :: (q_20, .inl (cI, 7, .inl f_30)) :: (q_21, .inl (cI, 7, .inl f_31)) :: (q_22, .inl (cI, 7, .inl f_32)) :: (q_23, .inl (cI, 28, .inl f_33)) :: (q_24, .inr (1, [.ref q_34, .ref q_35, .int 0, .int 0, .int 0])) :: (q_34, .inl (cI, 272, .inl f_36)) :: (q_35, .inl (cI, 30, .inl f_37)) :: (q_25, .inr (1, [.ref q_38, .ref q_39, .int 0, .int 0, .int 0])) :: (q_38, .inl (cI, 272, .inl f_40)) :: (q_39, .inl (cI, 30, .inl f_41)) :: (q_5, .inr (8, [.int 0, .int 0, .int 0, .ref q_42, .ref q_43, .ref q_44, .ref q_45, .ref q_46, .ref q_47, .ref q_48, .ref q_49, .ref q_50, .ref q_51, .int 0, .int 1, .int 0, .int 0, .int 0])) :: (q_42, .inl (cI, 4, .inl f_52)) :: (q_43, .inl (cI, 3, .inl f_53)) :: (q_44, .inl (cI, 7, .inl f_54)) :: (q_45, .inl (cI, 7, .inl f_55)) :: (q_46, .inl (cI, 7, .inl f_56)) :: (q_47, .inl (cI, 7, .inl f_57)) :: (q_48, .inl (cI, 7, .inl f_58)) :: (q_49, .inl (cI, 28, .inl f_59)) :: (q_50, .inr (1, [.ref q_60, .ref q_61, .int 0, .int 0, .int 0])) :: (q_60, .inl (cI, 272, .inl f_62)) :: (q_61, .inl (cI, 30, .inl f_63)) :: (q_51, .inr (1, [.ref q_64, .ref q_65, .int 0, .int 0, .int 0])) :: (q_64, .inl (cI, 272, .inl f_66)) :: (q_65, .inl (cI, 30, .inl f_67)) :: (q_3, .inr (4, [.ref q_68, .ref q_69, .ref q_70, .ref q_71, .ref q_2, .ref q_14, .int 0, .ref q_5, .ref q_50, .int 0, .int 0, .int 0, .long 0, .int 0, .int 0, .int (-1)])) :: (q_68, .inl (cJ, 21, .inr (.inl f_72))) :: (q_69, .inl (cJ, 4, .inr (.inl (fun _ => 0)))) :: (q_70, .inl (cJ, 3, .inr (.inl (fun _ => 0)))) :: (q_71, .inl (cJ, 7, .inr (.inl (fun _ => 0)))) :: (q_6, .inr (3, [.ref q_4, .ref q_73, .ref q_74, .ref q_75, .ref q_76, .ref q_77, .int 0, .int 0])) :: (q_73, .inl (cI, 7, .inl f_78)) :: (q_74, .inl (cI, 7, .inl f_79)) :: (q_75, .inl (cI, 7, .inl f_80)) :: (q_76, .inl (cI, 4, .inl f_81)) :: (q_77, .inl (cI, 7, .inl (fun _ => 0))) :: (q_7, .inr (3, [.ref q_4, .ref q_82, .ref q_83, .ref q_84, .ref q_85, .ref q_86, .int 0, .int 0])) :: (q_82, .inl (cI, 7, .inl f_87)) :: (q_83, .inl (cI, 7, .inl f_88)) :: (q_84, .inl (cI, 7, .inl f_89)) :: (q_85, .inl (cI, 4, .inl f_90)) :: (q_86, .inl (cI, 7, .inl (fun _ => 0))) :: (q_8, .inr (2, [.ref q_91, .int 0, .int 0, .int 0])) :: (q_91, .inl (cI, 1107, .inl (fun _ => 0))) :: (q_9, .inr (0, [.int 0, .int 0, .ref q_92, .ref q_93, .int 0, .int 0, .int 0, .ref q_94, .ref q_95, .int 0, .int 0, .int 0, .int 0, .int 0])) :: (q_92, .inl (cI, 28, .inl (fun _ => 0))) :: (q_93, .inl (cI, 7, .inl (fun _ => 0))) :: (q_94, .inl (cI, 4, .inl (fun _ => 0))) :: (q_95, .inl (cI, 4, .inl (fun _ => 0))) :: (q_10, .inr (6, [.ref q_96, .ref q_97, .ref q_98, .ref q_99, .ref q_100, .int 0])) :: (q_96, .inl (cI, 30, .inl (fun _ => 0))) :: (q_97, .inl (cI, 30, .inl (fun _ => 0))) :: (q_98, .inl (cZ, 30, .inl (fun _ => 0))) :: (q_99, .inl (cI, 30, .inl (fun _ => 0))) :: (q_100, .inl (cI, 30, .inl (fun _ => 0))) :: (q_11, .inr (5, [.ref q_101, .int 0])) :: (q_101, .inl (cI, 7, .inl (fun _ => 0))) :: (q_12, .inl (cI, 81, .inl (fun _ => 0))) :: (q_13, .inl (cZ, 3, .inl (lst [0, 0, 0]))) :: [])) (k := 116) (n := 11963) (xc_runI (As := []) (rest := [.ref q_102]) hx hb hml hown hts hG hE hP hD hS hA [67] (by decide) rfl (cX10_init_1 l D cB cI cJ cZ aK aV q_102) kw1265 kw1263 kw1264 kw127 rfl (show XD yX10_init 0 from by decide +kernel) (by decide) hl.1 rfl (Nat.le_of_ble_eq_true rfl) dL_law_12 (by decide)) hP hD hS hA [67] [0, 1, 2, 3, 4, 5, 6, 7, 8, 9, 10, 11, 12, 13, 14, 15, 16, 17, 18, 19, 20, 21, 22, 23, 24, 25, 26, 27, 28, 29, 30, 31, 32, 33, 34, 35, 36, 37, 38, 39, 40, 41, 42, 43, 44, 45, 46, 47, 48, 49, 50, 51, 52, 53, 54, 55, 56, 57, 58, 59, 60, 61, 62, 63, 64, 65, 66] rfl rfl (by decide) (by decide) (Nat.le_of_ble_eq_true rfl) (Nat.le_of_ble_eq_true rfl) (fun r w1 H locs hpost hP hD hS => ?_)
  obtain ⟨q_103, q_104, q_105, q_106, q_107, q_108, q_109, q_110, q_111, q_112, q_113, q_114, q_115, q_116, q_117, q_118, q_119, q_120, q_121, q_122, q_123, q_124, q_125, q_126, q_127, q_128, q_129, q_130, q_131, q_132, q_133, q_134, q_135, q_136, q_137, q_138, q_139, q_140, q_141, q_142, q_143, q_144, q_145, q_146, q_147, q_148, q_149, q_150, f_151, f_152, f_153, f_154, f_155, f_156, rfl, rfl⟩ := hpost
  have hP : va_P D vwCl ((q_1, .inr (9, [.ref q_2, .ref q_3, .ref q_4, .ref q_5, .ref q_6, .ref q_7, .ref q_8, .ref q_9, .ref q_10, .ref q_11, .ref q_12, .ref q_13, .int 0])) :: (q_2, .inr (7, [.ref q_14, .int 0])) :: (q_14, .inl (cB, 1600, .inl f_15)) :: (q_4, .inr (8, [.int 0, .int 0, .int 0, .ref q_16, .ref q_17, .ref q_18, .ref q_19, .ref q_20, .ref q_21, .ref q_22, .ref q_23, .ref q_24, .ref q_25, .int 0, .int 1, .int 0, .int 0, .int 0])) :: (q_16, .inl (cI, 4, .inl f_26)) :: (q_17, .inl (cI, 3, .inl f_27)) :: (q_18, .inl (cI, 7, .inl f_28)) :: (q_19, .inl (cI, 7, .inl f_29)) :: (q_20, .inl (cI, 7, .inl f_30)) :: (q_21, .inl (cI, 7, .inl f_31)) :: (q_22, .inl (cI, 7, .inl f_32)) :: (q_23, .inl (cI, 28, .inl f_33)) :: (q_24, .inr (1, [.ref q_34, .ref q_35, .int 0, .int 0, .int 0])) :: (q_34, .inl (cI, 272, .inl f_36)) :: (q_35, .inl (cI, 30, .inl f_37)) :: (q_25, .inr (1, [.ref q_38, .ref q_39, .int 0, .int 0, .int 0])) :: (q_38, .inl (cI, 272, .inl f_40)) :: (q_39, .inl (cI, 30, .inl f_41)) :: (q_5, .inr (8, [.int 0, .int 0, .int 0, .ref q_42, .ref q_43, .ref q_44, .ref q_45, .ref q_46, .ref q_47, .ref q_48, .ref q_49, .ref q_50, .ref q_51, .int 0, .int 1, .int 0, .int 0, .int 0])) :: (q_42, .inl (cI, 4, .inl f_52)) :: (q_43, .inl (cI, 3, .inl f_53)) :: (q_44, .inl (cI, 7, .inl f_54)) :: (q_45, .inl (cI, 7, .inl f_55)) :: (q_46, .inl (cI, 7, .inl f_56)) :: (q_47, .inl (cI, 7, .inl f_57)) :: (q_48, .inl (cI, 7, .inl f_58)) :: (q_49, .inl (cI, 28, .inl f_59)) :: (q_50, .inr (1, [.ref q_60, .ref q_61, .int 0, .int 0, .int 0])) :: (q_60, .inl (cI, 272, .inl f_62)) :: (q_61, .inl (cI, 30, .inl f_63)) :: (q_51, .inr (1, [.ref q_64, .ref q_65, .int 0, .int 0, .int 0])) :: (q_64, .inl (cI, 272, .inl f_66)) :: (q_65, .inl (cI, 30, .inl f_67)) :: (q_3, .inr (4, [.ref q_68, .ref q_69, .ref q_70, .ref q_71, .ref q_2, .ref q_14, .int 0, .ref q_5, .ref q_50, .int 0, .int 0, .int 0, .long 0, .int 0, .int 0, .int (-1)])) :: (q_68, .inl (cJ, 21, .inr (.inl f_72))) :: (q_69, .inl (cJ, 4, .inr (.inl (fun _ => 0)))) :: (q_70, .inl (cJ, 3, .inr (.inl (fun _ => 0)))) :: (q_71, .inl (cJ, 7, .inr (.inl (fun _ => 0)))) :: (q_6, .inr (3, [.ref q_4, .ref q_73, .ref q_74, .ref q_75, .ref q_76, .ref q_77, .int 0, .int 0])) :: (q_73, .inl (cI, 7, .inl f_78)) :: (q_74, .inl (cI, 7, .inl f_79)) :: (q_75, .inl (cI, 7, .inl f_80)) :: (q_76, .inl (cI, 4, .inl f_81)) :: (q_77, .inl (cI, 7, .inl (fun _ => 0))) :: (q_7, .inr (3, [.ref q_4, .ref q_82, .ref q_83, .ref q_84, .ref q_85, .ref q_86, .int 0, .int 0])) :: (q_82, .inl (cI, 7, .inl f_87)) :: (q_83, .inl (cI, 7, .inl f_88)) :: (q_84, .inl (cI, 7, .inl f_89)) :: (q_85, .inl (cI, 4, .inl f_90)) :: (q_86, .inl (cI, 7, .inl (fun _ => 0))) :: (q_8, .inr (2, [.ref q_91, .int 0, .int 0, .int 0])) :: (q_91, .inl (cI, 1107, .inl (fun _ => 0))) :: (q_9, .inr (0, [.int 0, .int 0, .ref q_92, .ref q_93, .int 0, .int 0, .int 0, .ref q_94, .ref q_95, .int 0, .int 0, .int 0, .int 0, .int 0])) :: (q_92, .inl (cI, 28, .inl (fun _ => 0))) :: (q_93, .inl (cI, 7, .inl (fun _ => 0))) :: (q_94, .inl (cI, 4, .inl (fun _ => 0))) :: (q_95, .inl (cI, 4, .inl (fun _ => 0))) :: (q_10, .inr (6, [.ref q_96, .ref q_97, .ref q_98, .ref q_99, .ref q_100, .int 0])) :: (q_96, .inl (cI, 30, .inl (fun _ => 0))) :: (q_97, .inl (cI, 30, .inl (fun _ => 0))) :: (q_98, .inl (cZ, 30, .inl (fun _ => 0))) :: (q_99, .inl (cI, 30, .inl (fun _ => 0))) :: (q_100, .inl (cI, 30, .inl (fun _ => 0))) :: (q_11, .inr (5, [.ref q_101, .int 0])) :: (q_101, .inl (cI, 7, .inl (fun _ => 0))) :: (q_12, .inl (cI, 81, .inl (fun _ => 0))) :: (q_13, .inl (cZ, 3, .inl (lst [0, 0, 0]))) :: (q_102, .inr (10, ((.ref q_103) :: (.ref q_104) :: (.int 0) :: (.int 0) :: (.int 0) :: (.int (-1)) :: (.int 0) :: (.int 0) :: (.int 0) :: (.int 0) :: (.long 0) :: (.ref q_105) :: (.ref q_106) :: (.ref q_107) :: (.ref q_108) :: (.ref q_109) :: (.ref q_110) :: (.ref q_111) :: (.ref q_112) :: (.ref q_113) :: (.ref q_114) :: (.ref q_115) :: (.ref q_116) :: (.ref q_117) :: (.ref q_118) :: (.ref q_119) :: (.ref q_120) :: (.ref q_121) :: (.ref q_122) :: (.ref q_123) :: (.ref q_124) :: (.ref q_125) :: (.ref q_126) :: (.ref q_127) :: (.ref q_128) :: (.ref q_129) :: (.ref q_130) :: (.ref q_131) :: (.ref q_132) :: (.ref q_133) :: (.ref q_134) :: (.int 0) :: (.int 0) :: (.int 0) :: (.int 0) :: (.int 0) :: (.int 0) :: (.int 0) :: (.int 0) :: (.int 0) :: (.ref q_135) :: (.ref q_136) :: (.int 0) :: (.ref q_137) :: (.int 0) :: (.int 0) :: (.int 0) :: (.int 0) :: (.int 0) :: (.int 0) :: (.ref q_138) :: (.int 0) :: (.ref q_139) :: (.ref q_140) :: (.ref q_141) :: (.ref q_142) :: (.ref q_143) :: (.ref q_144) :: (.ref q_145) :: (.ref q_146) :: (.ref q_147) :: (.ref q_148) :: (.int 0) :: (.int 0) :: (.ref q_149) :: (.ref q_150) :: []))) :: (q_103, .inl (cB, 1620, .inl (fun _ => 0))) :: (q_104, .inl (cB, 1600, .inl (fun _ => 0))) :: (q_105, .inl (cI, 2, .inl (lst [0, 0]))) :: (q_106, .inl (cI, 2, .inl (lst [0, 0]))) :: (q_107, .inl (cI, 2, .inl (lst [0, 0]))) :: (q_108, .inl (cI, 2, .inl (lst [0, 0]))) :: (q_109, .inl (cI, 2, .inl (lst [0, 0]))) :: (q_110, .inl (cI, 2, .inl f_151)) :: (q_111, .inl (cI, 2, .inl (lst [0, 0]))) :: (q_112, .inl (cI, 2, .inl f_152)) :: (q_113, .inl (cI, 8, .inl (fun _ => 0))) :: (q_114, .inl (cI, 6, .inl (fun _ => 0))) :: (q_115, .inl (cI, 14, .inl (fun _ => 0))) :: (q_116, .inl (cI, 14, .inl (fun _ => 0))) :: (q_117, .inl (cI, 14, .inl (fun _ => 0))) :: (q_118, .inl (cI, 14, .inl (fun _ => 0))) :: (q_119, .inl (cI, 56, .inl (fun _ => 0))) :: (q_120, .inl (cI, 8, .inl (fun _ => 0))) :: (q_121, .inl (cI, 4, .inl (fun _ => 0))) :: (q_122, .inl (cI, 4, .inl (fun _ => 0))) :: (q_123, .inl (cZ, 2, .inl f_153)) :: (q_124, .inl (cZ, 2, .inl f_154)) :: (q_125, .inl (cZ, 2, .inl f_155)) :: (q_126, .inl (cZ, 2, .inl f_156)) :: (q_127, .inl (cJ, 8, .inr (.inl (fun _ => 0)))) :: (q_128, .inl (cJ, 6, .inr (.inl (fun _ => 0)))) :: (q_129, .inl (cJ, 14, .inr (.inl (fun _ => 0)))) :: (q_130, .inl (cI, 1120, .inl (fun _ => 0))) :: (q_131, .inl (cI, 1120, .inl (fun _ => 0))) :: (q_132, .inl (cI, 90, .inl (fun _ => 0))) :: (q_133, .inl (cI, 90, .inl (fun _ => 0))) :: (q_134, .inl (cI, 60, .inl (fun _ => 0))) :: (q_135, .inl (cI, 27, .inl (lst [(-1), (-1), (-1), (-1), (-1), (-1), (-1), 0, 0, 0, 0, 0, 0, 0, (-1), (-1), (-1), (-1), (-1), (-1), (-1), 0, 0, 0, 0, 0, 0]))) :: (q_136, .inl (cI, 7, .inl (fun _ => 0))) :: (q_137, .inl (cI, 1107, .inl (fun _ => 0))) :: (q_138, .inl (cI, 7, .inl (fun _ => 0))) :: (q_139, .inl (cI, 27, .inl (fun _ => 0))) :: (q_140, .inl (cI, 4, .inl (fun _ => 0))) :: (q_141, .inl (cI, 4, .inl (fun _ => 0))) :: (q_142, .inl (cI, 4, .inl (fun _ => 0))) :: (q_143, .inl (cI, 30, .inl (fun _ => 0))) :: (q_144, .inl (cI, 30, .inl (fun _ => 0))) :: (q_145, .inl (cI, 30, .inl (fun _ => 0))) :: (q_146, .inl (cI, 30, .inl (fun _ => 0))) :: (q_147, .inl (cI, 30, .inl (fun _ => 0))) :: (q_148, .inl (cI, 5, .inl (fun _ => 0))) :: (q_149, .inl (cI, 81, .inl (fun _ => 0))) :: (q_150, .inl (cZ, 3, .inl (lst [0, 0, 0]))) :: []) H := hP
  have hD : va_D A ((q_1, .inr (9, [.ref q_2, .ref q_3, .ref q_4, .ref q_5, .ref q_6, .ref q_7, .ref q_8, .ref q_9, .ref q_10, .ref q_11, .ref q_12, .ref q_13, .int 0])) :: (q_2, .inr (7, [.ref q_14, .int 0])) :: (q_14, .inl (cB, 1600, .inl f_15)) :: (q_4, .inr (8, [.int 0, .int 0, .int 0, .ref q_16, .ref q_17, .ref q_18, .ref q_19, .ref q_20, .ref q_21, .ref q_22, .ref q_23, .ref q_24, .ref q_25, .int 0, .int 1, .int 0, .int 0, .int 0])) :: (q_16, .inl (cI, 4, .inl f_26)) :: (q_17, .inl (cI, 3, .inl f_27)) :: (q_18, .inl (cI, 7, .inl f_28)) :: (q_19, .inl (cI, 7, .inl f_29)) :: (q_20, .inl (cI, 7, .inl f_30)) :: (q_21, .inl (cI, 7, .inl f_31)) :: (q_22, .inl (cI, 7, .inl f_32)) :: (q_23, .inl (cI, 28, .inl f_33)) :: (q_24, .inr (1, [.ref q_34, .ref q_35, .int 0, .int 0, .int 0])) :: (q_34, .inl (cI, 272, .inl f_36)) :: (q_35, .inl (cI, 30, .inl f_37)) :: (q_25, .inr (1, [.ref q_38, .ref q_39, .int 0, .int 0, .int 0])) :: (q_38, .inl (cI, 272, .inl f_40)) :: (q_39, .inl (cI, 30, .inl f_41)) :: (q_5, .inr (8, [.int 0, .int 0, .int 0, .ref q_42, .ref q_43, .ref q_44, .ref q_45, .ref q_46, .ref q_47, .ref q_48, .ref q_49, .ref q_50, .ref q_51, .int 0, .int 1, .int 0, .int 0, .int 0])) :: (q_42, .inl (cI, 4, .inl f_52)) :: (q_43, .inl (cI, 3, .inl f_53)) :: (q_44, .inl (cI, 7, .inl f_54)) :: (q_45, .inl (cI, 7, .inl f_55)) :: (q_46, .inl (cI, 7, .inl f_56)) :: (q_47, .inl (cI, 7, .inl f_57)) :: (q_48, .inl (cI, 7, .inl f_58)) :: (q_49, .inl (cI, 28, .inl f_59)) :: (q_50, .inr (1, [.ref q_60, .ref q_61, .int 0, .int 0, .int 0])) :: (q_60, .inl (cI, 272, .inl f_62)) :: (q_61, .inl (cI, 30, .inl f_63)) :: (q_51, .inr (1, [.ref q_64, .ref q_65, .int 0, .int 0, .int 0])) :: (q_64, .inl (cI, 272, .inl f_66)) :: (q_65, .inl (cI, 30, .inl f_67)) :: (q_3, .inr (4, [.ref q_68, .ref q_69, .ref q_70, .ref q_71, .ref q_2, .ref q_14, .int 0, .ref q_5, .ref q_50, .int 0, .int 0, .int 0, .long 0, .int 0, .int 0, .int (-1)])) :: (q_68, .inl (cJ, 21, .inr (.inl f_72))) :: (q_69, .inl (cJ, 4, .inr (.inl (fun _ => 0)))) :: (q_70, .inl (cJ, 3, .inr (.inl (fun _ => 0)))) :: (q_71, .inl (cJ, 7, .inr (.inl (fun _ => 0)))) :: (q_6, .inr (3, [.ref q_4, .ref q_73, .ref q_74, .ref q_75, .ref q_76, .ref q_77, .int 0, .int 0])) :: (q_73, .inl (cI, 7, .inl f_78)) :: (q_74, .inl (cI, 7, .inl f_79)) :: (q_75, .inl (cI, 7, .inl f_80)) :: (q_76, .inl (cI, 4, .inl f_81)) :: (q_77, .inl (cI, 7, .inl (fun _ => 0))) :: (q_7, .inr (3, [.ref q_4, .ref q_82, .ref q_83, .ref q_84, .ref q_85, .ref q_86, .int 0, .int 0])) :: (q_82, .inl (cI, 7, .inl f_87)) :: (q_83, .inl (cI, 7, .inl f_88)) :: (q_84, .inl (cI, 7, .inl f_89)) :: (q_85, .inl (cI, 4, .inl f_90)) :: (q_86, .inl (cI, 7, .inl (fun _ => 0))) :: (q_8, .inr (2, [.ref q_91, .int 0, .int 0, .int 0])) :: (q_91, .inl (cI, 1107, .inl (fun _ => 0))) :: (q_9, .inr (0, [.int 0, .int 0, .ref q_92, .ref q_93, .int 0, .int 0, .int 0, .ref q_94, .ref q_95, .int 0, .int 0, .int 0, .int 0, .int 0])) :: (q_92, .inl (cI, 28, .inl (fun _ => 0))) :: (q_93, .inl (cI, 7, .inl (fun _ => 0))) :: (q_94, .inl (cI, 4, .inl (fun _ => 0))) :: (q_95, .inl (cI, 4, .inl (fun _ => 0))) :: (q_10, .inr (6, [.ref q_96, .ref q_97, .ref q_98, .ref q_99, .ref q_100, .int 0])) :: (q_96, .inl (cI, 30, .inl (fun _ => 0))) :: (q_97, .inl (cI, 30, .inl (fun _ => 0))) :: (q_98, .inl (cZ, 30, .inl (fun _ => 0))) :: (q_99, .inl (cI, 30, .inl (fun _ => 0))) :: (q_100, .inl (cI, 30, .inl (fun _ => 0))) :: (q_11, .inr (5, [.ref q_101, .int 0])) :: (q_101, .inl (cI, 7, .inl (fun _ => 0))) :: (q_12, .inl (cI, 81, .inl (fun _ => 0))) :: (q_13, .inl (cZ, 3, .inl (lst [0, 0, 0]))) :: (q_102, .inr (10, ((.ref q_103) :: (.ref q_104) :: (.int 0) :: (.int 0) :: (.int 0) :: (.int (-1)) :: (.int 0) :: (.int 0) :: (.int 0) :: (.int 0) :: (.long 0) :: (.ref q_105) :: (.ref q_106) :: (.ref q_107) :: (.ref q_108) :: (.ref q_109) :: (.ref q_110) :: (.ref q_111) :: (.ref q_112) :: (.ref q_113) :: (.ref q_114) :: (.ref q_115) :: (.ref q_116) :: (.ref q_117) :: (.ref q_118) :: (.ref q_119) :: (.ref q_120) :: (.ref q_121) :: (.ref q_122) :: (.ref q_123) :: (.ref q_124) :: (.ref q_125) :: (.ref q_126) :: (.ref q_127) :: (.ref q_128) :: (.ref q_129) :: (.ref q_130) :: (.ref q_131) :: (.ref q_132) :: (.ref q_133) :: (.ref q_134) :: (.int 0) :: (.int 0) :: (.int 0) :: (.int 0) :: (.int 0) :: (.int 0) :: (.int 0) :: (.int 0) :: (.int 0) :: (.ref q_135) :: (.ref q_136) :: (.int 0) :: (.ref q_137) :: (.int 0) :: (.int 0) :: (.int 0) :: (.int 0) :: (.int 0) :: (.int 0) :: (.ref q_138) :: (.int 0) :: (.ref q_139) :: (.ref q_140) :: (.ref q_141) :: (.ref q_142) :: (.ref q_143) :: (.ref q_144) :: (.ref q_145) :: (.ref q_146) :: (.ref q_147) :: (.ref q_148) :: (.int 0) :: (.int 0) :: (.ref q_149) :: (.ref q_150) :: []))) :: (q_103, .inl (cB, 1620, .inl (fun _ => 0))) :: (q_104, .inl (cB, 1600, .inl (fun _ => 0))) :: (q_105, .inl (cI, 2, .inl (lst [0, 0]))) :: (q_106, .inl (cI, 2, .inl (lst [0, 0]))) :: (q_107, .inl (cI, 2, .inl (lst [0, 0]))) :: (q_108, .inl (cI, 2, .inl (lst [0, 0]))) :: (q_109, .inl (cI, 2, .inl (lst [0, 0]))) :: (q_110, .inl (cI, 2, .inl f_151)) :: (q_111, .inl (cI, 2, .inl (lst [0, 0]))) :: (q_112, .inl (cI, 2, .inl f_152)) :: (q_113, .inl (cI, 8, .inl (fun _ => 0))) :: (q_114, .inl (cI, 6, .inl (fun _ => 0))) :: (q_115, .inl (cI, 14, .inl (fun _ => 0))) :: (q_116, .inl (cI, 14, .inl (fun _ => 0))) :: (q_117, .inl (cI, 14, .inl (fun _ => 0))) :: (q_118, .inl (cI, 14, .inl (fun _ => 0))) :: (q_119, .inl (cI, 56, .inl (fun _ => 0))) :: (q_120, .inl (cI, 8, .inl (fun _ => 0))) :: (q_121, .inl (cI, 4, .inl (fun _ => 0))) :: (q_122, .inl (cI, 4, .inl (fun _ => 0))) :: (q_123, .inl (cZ, 2, .inl f_153)) :: (q_124, .inl (cZ, 2, .inl f_154)) :: (q_125, .inl (cZ, 2, .inl f_155)) :: (q_126, .inl (cZ, 2, .inl f_156)) :: (q_127, .inl (cJ, 8, .inr (.inl (fun _ => 0)))) :: (q_128, .inl (cJ, 6, .inr (.inl (fun _ => 0)))) :: (q_129, .inl (cJ, 14, .inr (.inl (fun _ => 0)))) :: (q_130, .inl (cI, 1120, .inl (fun _ => 0))) :: (q_131, .inl (cI, 1120, .inl (fun _ => 0))) :: (q_132, .inl (cI, 90, .inl (fun _ => 0))) :: (q_133, .inl (cI, 90, .inl (fun _ => 0))) :: (q_134, .inl (cI, 60, .inl (fun _ => 0))) :: (q_135, .inl (cI, 27, .inl (lst [(-1), (-1), (-1), (-1), (-1), (-1), (-1), 0, 0, 0, 0, 0, 0, 0, (-1), (-1), (-1), (-1), (-1), (-1), (-1), 0, 0, 0, 0, 0, 0]))) :: (q_136, .inl (cI, 7, .inl (fun _ => 0))) :: (q_137, .inl (cI, 1107, .inl (fun _ => 0))) :: (q_138, .inl (cI, 7, .inl (fun _ => 0))) :: (q_139, .inl (cI, 27, .inl (fun _ => 0))) :: (q_140, .inl (cI, 4, .inl (fun _ => 0))) :: (q_141, .inl (cI, 4, .inl (fun _ => 0))) :: (q_142, .inl (cI, 4, .inl (fun _ => 0))) :: (q_143, .inl (cI, 30, .inl (fun _ => 0))) :: (q_144, .inl (cI, 30, .inl (fun _ => 0))) :: (q_145, .inl (cI, 30, .inl (fun _ => 0))) :: (q_146, .inl (cI, 30, .inl (fun _ => 0))) :: (q_147, .inl (cI, 30, .inl (fun _ => 0))) :: (q_148, .inl (cI, 5, .inl (fun _ => 0))) :: (q_149, .inl (cI, 81, .inl (fun _ => 0))) :: (q_150, .inl (cZ, 3, .inl (lst [0, 0, 0]))) :: []) := hD
  refine lv_astore_n (lv' := [(2, .ref q_102), (1, .ref q_1), (0, .ref b)]) hx hb dL_law_15 rfl hl (by decide) rfl (fun ls hl => ?_)
  refine lv_iconst (v := 0) hx hb dL_law_16 (by decide +kernel) ?_
  refine lv_istore_n (lv' := [(3, .int 0), (2, .ref q_102), (1, .ref q_1), (0, .ref b)]) hx hb dL_law_17 rfl hl (by decide) rfl (fun ls hl => ?_)
  refine lv_iload_n hx hb dL_law_18 rfl (lv_at hl 0 rfl) ?_
  refine lv_aload_n hx hb dL_law_19 rfl (lv_at hl 3 rfl) ?_
  rcases (show L = 0 ∨ L = 1 ∨ L = 2 ∨ L = 3 ∨ L = 4 ∨ L = 5 ∨ L = 6 by omega) with rfl | rfl | rfl | rfl | rfl | rfl | rfl
  · refine va_slen hx hb hX hbl hbA hS dL_law_20 ?_
    refine xt_i (v := 0) (by decide +kernel) ?_
    refine lv_bipush (v := 6) hx hb dL_law_21 (by decide +kernel) ?_
    refine lv_isub hx hb dL_law_23 ?_
    refine xt_i (v := (-6)) (by decide +kernel) ?_
    refine lv_icmp_gt (tgt := 1533) hx hb dL_law_24 (by decide) (fun _ => ?_) (fun h => absurd h (by decide +kernel))
    refine lv_iconst (v := 1) hx hb dL_law_1533 (by decide +kernel) ?_
    refine va_forget (fun q hq => by have z := hS.2.2 q hq; rw [hAe] at z; exact z) ?_
    refine W.widen (k := 600000) (n := 7302250) (Nat.le_of_ble_eq_true rfl) (Nat.le_of_ble_eq_true rfl) ?_
    exact lw_ret hx hb hr hlocks dL_law_1534
  · refine va_slen hx hb hX hbl hbA hS dL_law_20 ?_
    refine xt_i (v := 1) (by decide +kernel) ?_
    refine lv_bipush (v := 6) hx hb dL_law_21 (by decide +kernel) ?_
    refine lv_isub hx hb dL_law_23 ?_
    refine xt_i (v := (-5)) (by decide +kernel) ?_
    refine lv_icmp_gt (tgt := 1533) hx hb dL_law_24 (by decide) (fun _ => ?_) (fun h => absurd h (by decide +kernel))
    refine lv_iconst (v := 1) hx hb dL_law_1533 (by decide +kernel) ?_
    refine va_forget (fun q hq => by have z := hS.2.2 q hq; rw [hAe] at z; exact z) ?_
    refine W.widen (k := 600000) (n := 7302250) (Nat.le_of_ble_eq_true rfl) (Nat.le_of_ble_eq_true rfl) ?_
    exact lw_ret hx hb hr hlocks dL_law_1534
  · refine va_slen hx hb hX hbl hbA hS dL_law_20 ?_
    refine xt_i (v := 2) (by decide +kernel) ?_
    refine lv_bipush (v := 6) hx hb dL_law_21 (by decide +kernel) ?_
    refine lv_isub hx hb dL_law_23 ?_
    refine xt_i (v := (-4)) (by decide +kernel) ?_
    refine lv_icmp_gt (tgt := 1533) hx hb dL_law_24 (by decide) (fun _ => ?_) (fun h => absurd h (by decide +kernel))
    refine lv_iconst (v := 1) hx hb dL_law_1533 (by decide +kernel) ?_
    refine va_forget (fun q hq => by have z := hS.2.2 q hq; rw [hAe] at z; exact z) ?_
    refine W.widen (k := 600000) (n := 7302250) (Nat.le_of_ble_eq_true rfl) (Nat.le_of_ble_eq_true rfl) ?_
    exact lw_ret hx hb hr hlocks dL_law_1534
  · refine va_slen hx hb hX hbl hbA hS dL_law_20 ?_
    refine xt_i (v := 3) (by decide +kernel) ?_
    refine lv_bipush (v := 6) hx hb dL_law_21 (by decide +kernel) ?_
    refine lv_isub hx hb dL_law_23 ?_
    refine xt_i (v := (-3)) (by decide +kernel) ?_
    refine lv_icmp_gt (tgt := 1533) hx hb dL_law_24 (by decide) (fun _ => ?_) (fun h => absurd h (by decide +kernel))
    refine lv_iconst (v := 1) hx hb dL_law_1533 (by decide +kernel) ?_
    refine va_forget (fun q hq => by have z := hS.2.2 q hq; rw [hAe] at z; exact z) ?_
    refine W.widen (k := 600000) (n := 7302250) (Nat.le_of_ble_eq_true rfl) (Nat.le_of_ble_eq_true rfl) ?_
    exact lw_ret hx hb hr hlocks dL_law_1534
  · refine va_slen hx hb hX hbl hbA hS dL_law_20 ?_
    refine xt_i (v := 4) (by decide +kernel) ?_
    refine lv_bipush (v := 6) hx hb dL_law_21 (by decide +kernel) ?_
    refine lv_isub hx hb dL_law_23 ?_
    refine xt_i (v := (-2)) (by decide +kernel) ?_
    refine lv_icmp_gt (tgt := 1533) hx hb dL_law_24 (by decide) (fun _ => ?_) (fun h => absurd h (by decide +kernel))
    refine lv_iconst (v := 1) hx hb dL_law_1533 (by decide +kernel) ?_
    refine va_forget (fun q hq => by have z := hS.2.2 q hq; rw [hAe] at z; exact z) ?_
    refine W.widen (k := 600000) (n := 7302250) (Nat.le_of_ble_eq_true rfl) (Nat.le_of_ble_eq_true rfl) ?_
    exact lw_ret hx hb hr hlocks dL_law_1534
  · refine va_slen hx hb hX hbl hbA hS dL_law_20 ?_
    refine xt_i (v := 5) (by decide +kernel) ?_
    refine lv_bipush (v := 6) hx hb dL_law_21 (by decide +kernel) ?_
    refine lv_isub hx hb dL_law_23 ?_
    refine xt_i (v := (-1)) (by decide +kernel) ?_
    refine lv_icmp_gt (tgt := 1533) hx hb dL_law_24 (by decide) (fun _ => ?_) (fun h => absurd h (by decide +kernel))
    refine lv_iconst (v := 1) hx hb dL_law_1533 (by decide +kernel) ?_
    refine va_forget (fun q hq => by have z := hS.2.2 q hq; rw [hAe] at z; exact z) ?_
    refine W.widen (k := 600000) (n := 7302250) (Nat.le_of_ble_eq_true rfl) (Nat.le_of_ble_eq_true rfl) ?_
    exact lw_ret hx hb hr hlocks dL_law_1534
  · refine va_slen hx hb hX hbl hbA hS dL_law_20 ?_
    refine xt_i (v := 6) (by decide +kernel) ?_
    refine lv_bipush (v := 6) hx hb dL_law_21 (by decide +kernel) ?_
    refine lv_isub hx hb dL_law_23 ?_
    refine xt_i (v := 0) (by decide +kernel) ?_
    refine lv_icmp_gt (tgt := 1533) hx hb dL_law_24 (by decide) (fun h => absurd h (by decide +kernel)) (fun _ => ?_)
    refine lv_aload_n hx hb dL_law_27 rfl (lv_at hl 3 rfl) ?_
    refine lv_iload_n hx hb dL_law_28 rfl (lv_at hl 0 rfl) ?_
    refine va_sld hx hb hX hbl hbA hS (vin (by decide +kernel)) dL_law_29 ?_
    refine xt_i (v := xs 0) rfl ?_
    refine lv_bipush (v := 63) hx hb dL_law_30 (by decide +kernel) ?_
    refine lv_iand hx hb dL_law_32 ?_
    refine xt_any (fun v_157 => ?_)
    by_cases c_158 : v_157 = 0
    · subst c_158
      have hP := hP.sub (ws' := [(q_1, .inr (9, [.ref q_2, .ref q_3, .ref q_4, .ref q_5, .ref q_6, .ref q_7, .ref q_8, .ref q_9, .ref q_10, .ref q_11, .ref q_12, .ref q_13, .int 0])), (q_2, .inr (7, [.ref q_14, .int 0])), (q_14, .inl (cB, 1600, .inl f_15)), (q_102, .inr (10, ((.ref q_103) :: (.ref q_104) :: (.int 0) :: (.int 0) :: (.int 0) :: (.int (-1)) :: (.int 0) :: (.int 0) :: (.int 0) :: (.int 0) :: (.long 0) :: (.ref q_105) :: (.ref q_106) :: (.ref q_107) :: (.ref q_108) :: (.ref q_109) :: (.ref q_110) :: (.ref q_111) :: (.ref q_112) :: (.ref q_113) :: (.ref q_114) :: (.ref q_115) :: (.ref q_116) :: (.ref q_117) :: (.ref q_118) :: (.ref q_119) :: (.ref q_120) :: (.ref q_121) :: (.ref q_122) :: (.ref q_123) :: (.ref q_124) :: (.ref q_125) :: (.ref q_126) :: (.ref q_127) :: (.ref q_128) :: (.ref q_129) :: (.ref q_130) :: (.ref q_131) :: (.ref q_132) :: (.ref q_133) :: (.ref q_134) :: (.int 0) :: (.int 0) :: (.int 0) :: (.int 0) :: (.int 0) :: (.int 0) :: (.int 0) :: (.int 0) :: (.int 0) :: (.ref q_135) :: (.ref q_136) :: (.int 0) :: (.ref q_137) :: (.int 0) :: (.int 0) :: (.int 0) :: (.int 0) :: (.int 0) :: (.int 0) :: (.ref q_138) :: (.int 0) :: (.ref q_139) :: (.ref q_140) :: (.ref q_141) :: (.ref q_142) :: (.ref q_143) :: (.ref q_144) :: (.ref q_145) :: (.ref q_146) :: (.ref q_147) :: (.ref q_148) :: (.int 0) :: (.int 0) :: (.ref q_149) :: (.ref q_150) :: []))), (q_103, .inl (cB, 1620, .inl (fun _ => 0)))]) [0, 1, 2, 67, 68] rfl
      have hD := hD.sub (ws' := [(q_1, .inr (9, [.ref q_2, .ref q_3, .ref q_4, .ref q_5, .ref q_6, .ref q_7, .ref q_8, .ref q_9, .ref q_10, .ref q_11, .ref q_12, .ref q_13, .int 0])), (q_2, .inr (7, [.ref q_14, .int 0])), (q_14, .inl (cB, 1600, .inl f_15)), (q_102, .inr (10, ((.ref q_103) :: (.ref q_104) :: (.int 0) :: (.int 0) :: (.int 0) :: (.int (-1)) :: (.int 0) :: (.int 0) :: (.int 0) :: (.int 0) :: (.long 0) :: (.ref q_105) :: (.ref q_106) :: (.ref q_107) :: (.ref q_108) :: (.ref q_109) :: (.ref q_110) :: (.ref q_111) :: (.ref q_112) :: (.ref q_113) :: (.ref q_114) :: (.ref q_115) :: (.ref q_116) :: (.ref q_117) :: (.ref q_118) :: (.ref q_119) :: (.ref q_120) :: (.ref q_121) :: (.ref q_122) :: (.ref q_123) :: (.ref q_124) :: (.ref q_125) :: (.ref q_126) :: (.ref q_127) :: (.ref q_128) :: (.ref q_129) :: (.ref q_130) :: (.ref q_131) :: (.ref q_132) :: (.ref q_133) :: (.ref q_134) :: (.int 0) :: (.int 0) :: (.int 0) :: (.int 0) :: (.int 0) :: (.int 0) :: (.int 0) :: (.int 0) :: (.int 0) :: (.ref q_135) :: (.ref q_136) :: (.int 0) :: (.ref q_137) :: (.int 0) :: (.int 0) :: (.int 0) :: (.int 0) :: (.int 0) :: (.int 0) :: (.ref q_138) :: (.int 0) :: (.ref q_139) :: (.ref q_140) :: (.ref q_141) :: (.ref q_142) :: (.ref q_143) :: (.ref q_144) :: (.ref q_145) :: (.ref q_146) :: (.ref q_147) :: (.ref q_148) :: (.int 0) :: (.int 0) :: (.ref q_149) :: (.ref q_150) :: []))), (q_103, .inl (cB, 1620, .inl (fun _ => 0)))]) [0, 1, 2, 67, 68] (by decide) rfl
      refine lv_tableIn (off := 195) (tgt := 228) hx hb dL_law_33 (by decide) (by decide) (by decide +kernel) (by decide) ?_
      refine lv_aload_n hx hb dL_law_228 rfl (lv_at hl 2 rfl) ?_
      refine lv_aload_n hx hb dL_law_229 rfl (lv_at hl 3 rfl) ?_
      refine lv_iload_n hx hb dL_law_230 rfl (lv_at hl 0 rfl) ?_
      refine lv_iconst (v := 1) hx hb dL_law_231 (by decide +kernel) ?_
      refine lv_iadd hx hb dL_law_232 ?_
      refine xt_i (v := 1) (by decide +kernel) ?_
      refine va_sld hx hb hX hbl hbA hS (vin (by decide +kernel)) dL_law_233 ?_
      refine xt_i (v := xs 1) rfl ?_
      refine lv_aload_n hx hb dL_law_234 rfl (lv_at hl 3 rfl) ?_
      refine lv_iload_n hx hb dL_law_235 rfl (lv_at hl 0 rfl) ?_
      refine lv_iconst (v := 2) hx hb dL_law_236 (by decide +kernel) ?_
      refine lv_iadd hx hb dL_law_237 ?_
      refine xt_i (v := 2) (by decide +kernel) ?_
      refine va_sld hx hb hX hbl hbA hS (vin (by decide +kernel)) dL_law_238 ?_
      refine xt_i (v := xs 2) rfl ?_
      refine lv_aload_n hx hb dL_law_239 rfl (lv_at hl 3 rfl) ?_
      refine lv_iload_n hx hb dL_law_240 rfl (lv_at hl 0 rfl) ?_
      refine lv_iconst (v := 3) hx hb dL_law_241 (by decide +kernel) ?_
      refine lv_iadd hx hb dL_law_242 ?_
      refine xt_i (v := 3) (by decide +kernel) ?_
      refine va_sld hx hb hX hbl hbA hS (vin (by decide +kernel)) dL_law_243 ?_
      refine xt_i (v := xs 3) rfl ?_
      refine lv_aload_n hx hb dL_law_244 rfl (lv_at hl 3 rfl) ?_
      refine lv_iload_n hx hb dL_law_245 rfl (lv_at hl 0 rfl) ?_
      refine lv_iconst (v := 4) hx hb dL_law_246 (by decide +kernel) ?_
      refine lv_iadd hx hb dL_law_247 ?_
      refine xt_i (v := 4) (by decide +kernel) ?_
      refine va_sld hx hb hX hbl hbA hS (vin (by decide +kernel)) dL_law_248 ?_
      refine xt_i (v := xs 4) rfl ?_
      refine lv_aload_n hx hb dL_law_249 rfl (lv_at hl 3 rfl) ?_
      refine lv_iload_n hx hb dL_law_250 rfl (lv_at hl 0 rfl) ?_
      refine lv_iconst (v := 5) hx hb dL_law_251 (by decide +kernel) ?_
      refine lv_iadd hx hb dL_law_252 ?_
      refine xt_i (v := 5) (by decide +kernel) ?_
      refine va_sld hx hb hX hbl hbA hS (vin (by decide +kernel)) dL_law_253 ?_
      refine xt_i (v := xs 5) rfl ?_
      refine xc_core (wr := [(q_102, .inr (10, ((.ref q_103) :: (.ref q_104) :: (.int 0) :: (.int 0) :: (.int 0) :: (.int (-1)) :: (.int 0) :: (.int 0) :: (.int 0) :: (.int 0) :: (.long 0) :: (.ref q_105) :: (.ref q_106) :: (.ref q_107) :: (.ref q_108) :: (.ref q_109) :: (.ref q_110) :: (.ref q_111) :: (.ref q_112) :: (.ref q_113) :: (.ref q_114) :: (.ref q_115) :: (.ref q_116) :: (.ref q_117) :: (.ref q_118) :: (.ref q_119) :: (.ref q_120) :: (.ref q_121) :: (.ref q_122) :: (.ref q_123) :: (.ref q_124) :: (.ref q_125) :: (.ref q_126) :: (.ref q_127) :: (.ref q_128) :: (.ref q_129) :: (.ref q_130) :: (.ref q_131) :: (.ref q_132) :: (.ref q_133) :: (.ref q_134) :: (.int 0) :: (.int 0) :: (.int 0) :: (.int 0) :: (.int 0) :: (.int 0) :: (.int 0) :: (.int 0) :: (.int 0) :: (.ref q_135) :: (.ref q_136) :: (.int 0) :: (.ref q_137) :: (.int 0) :: (.int 0) :: (.int 0) :: (.int 0) :: (.int 0) :: (.int 0) :: (.ref q_138) :: (.int 0) :: (.ref q_139) :: (.ref q_140) :: (.ref q_141) :: (.ref q_142) :: (.ref q_143) :: (.ref q_144) :: (.ref q_145) :: (.ref q_146) :: (.ref q_147) :: (.ref q_148) :: (.int 0) :: (.int 0) :: (.ref q_149) :: (.ref q_150) :: []))), (q_103, .inl (cB, 1620, .inl (fun _ => 0)))]) (k := 116) (n := 11963) (xc_runV (As := [.int (xs 1), .int (xs 2), .int (xs 3), .int (xs 4), .int (xs 5)]) (rest := []) hx hb hml hown hts hG hE hP hD hS hA [0, 1, 2] (by decide) rfl (cX9_feed_1 l D cB cI cJ cZ aK aV q_1 ((xs 1)) ((xs 2)) ((xs 3)) ((xs 4)) ((xs 5)) q_2 q_3 q_4 q_5 q_6 q_7 q_8 q_9 q_10 q_11 q_12 q_13 q_14 f_15) kw625 kw622 kw623 kw624 kw112 (show XD yX9_feed 5 from by decide +kernel) (by decide) rfl rfl 0 rfl hl.1 rfl (Nat.le_of_ble_eq_true rfl) dL_law_254 (by decide)) hP hD hS hA [0, 1, 2] [3, 4] rfl rfl (by decide) (by decide) (Nat.le_of_ble_eq_true rfl) (Nat.le_of_ble_eq_true rfl) (fun r w1 H locs hpost hP hD hS => ?_)
      obtain rfl := hpost
      have hP := hP.sub (ws' := [(q_102, .inr (10, ((.ref q_103) :: (.ref q_104) :: (.int 0) :: (.int 0) :: (.int 0) :: (.int (-1)) :: (.int 0) :: (.int 0) :: (.int 0) :: (.int 0) :: (.long 0) :: (.ref q_105) :: (.ref q_106) :: (.ref q_107) :: (.ref q_108) :: (.ref q_109) :: (.ref q_110) :: (.ref q_111) :: (.ref q_112) :: (.ref q_113) :: (.ref q_114) :: (.ref q_115) :: (.ref q_116) :: (.ref q_117) :: (.ref q_118) :: (.ref q_119) :: (.ref q_120) :: (.ref q_121) :: (.ref q_122) :: (.ref q_123) :: (.ref q_124) :: (.ref q_125) :: (.ref q_126) :: (.ref q_127) :: (.ref q_128) :: (.ref q_129) :: (.ref q_130) :: (.ref q_131) :: (.ref q_132) :: (.ref q_133) :: (.ref q_134) :: (.int 0) :: (.int 0) :: (.int 0) :: (.int 0) :: (.int 0) :: (.int 0) :: (.int 0) :: (.int 0) :: (.int 0) :: (.ref q_135) :: (.ref q_136) :: (.int 0) :: (.ref q_137) :: (.int 0) :: (.int 0) :: (.int 0) :: (.int 0) :: (.int 0) :: (.int 0) :: (.ref q_138) :: (.int 0) :: (.ref q_139) :: (.ref q_140) :: (.ref q_141) :: (.ref q_142) :: (.ref q_143) :: (.ref q_144) :: (.ref q_145) :: (.ref q_146) :: (.ref q_147) :: (.ref q_148) :: (.int 0) :: (.int 0) :: (.ref q_149) :: (.ref q_150) :: []))), (q_103, .inl (cB, 1620, .inl (fun _ => 0)))]) [0, 1] rfl
      have hD := hD.sub (ws' := [(q_102, .inr (10, ((.ref q_103) :: (.ref q_104) :: (.int 0) :: (.int 0) :: (.int 0) :: (.int (-1)) :: (.int 0) :: (.int 0) :: (.int 0) :: (.int 0) :: (.long 0) :: (.ref q_105) :: (.ref q_106) :: (.ref q_107) :: (.ref q_108) :: (.ref q_109) :: (.ref q_110) :: (.ref q_111) :: (.ref q_112) :: (.ref q_113) :: (.ref q_114) :: (.ref q_115) :: (.ref q_116) :: (.ref q_117) :: (.ref q_118) :: (.ref q_119) :: (.ref q_120) :: (.ref q_121) :: (.ref q_122) :: (.ref q_123) :: (.ref q_124) :: (.ref q_125) :: (.ref q_126) :: (.ref q_127) :: (.ref q_128) :: (.ref q_129) :: (.ref q_130) :: (.ref q_131) :: (.ref q_132) :: (.ref q_133) :: (.ref q_134) :: (.int 0) :: (.int 0) :: (.int 0) :: (.int 0) :: (.int 0) :: (.int 0) :: (.int 0) :: (.int 0) :: (.int 0) :: (.ref q_135) :: (.ref q_136) :: (.int 0) :: (.ref q_137) :: (.int 0) :: (.int 0) :: (.int 0) :: (.int 0) :: (.int 0) :: (.int 0) :: (.ref q_138) :: (.int 0) :: (.ref q_139) :: (.ref q_140) :: (.ref q_141) :: (.ref q_142) :: (.ref q_143) :: (.ref q_144) :: (.ref q_145) :: (.ref q_146) :: (.ref q_147) :: (.ref q_148) :: (.int 0) :: (.int 0) :: (.ref q_149) :: (.ref q_150) :: []))), (q_103, .inl (cB, 1620, .inl (fun _ => 0)))]) [0, 1] (by decide) rfl
      refine lv_aload_n hx hb dL_law_257 rfl (lv_at hl 1 rfl) ?_
      refine lv_aload_n hx hb dL_law_258 rfl (lv_at hl 3 rfl) ?_
      refine lv_iload_n hx hb dL_law_259 rfl (lv_at hl 0 rfl) ?_
      refine lv_iconst (v := 1) hx hb dL_law_260 (by decide +kernel) ?_
      refine lv_iadd hx hb dL_law_261 ?_
      refine xt_i (v := 1) (by decide +kernel) ?_
      refine va_sld hx hb hX hbl hbA hS (vin (by decide +kernel)) dL_law_262 ?_
      refine xt_i (v := xs 1) rfl ?_
      refine lv_aload_n hx hb dL_law_263 rfl (lv_at hl 3 rfl) ?_
      refine lv_iload_n hx hb dL_law_264 rfl (lv_at hl 0 rfl) ?_
      refine lv_iconst (v := 2) hx hb dL_law_265 (by decide +kernel) ?_
      refine lv_iadd hx hb dL_law_266 ?_
      refine xt_i (v := 2) (by decide +kernel) ?_
      refine va_sld hx hb hX hbl hbA hS (vin (by decide +kernel)) dL_law_267 ?_
      refine xt_i (v := xs 2) rfl ?_
      refine lv_aload_n hx hb dL_law_268 rfl (lv_at hl 3 rfl) ?_
      refine lv_iload_n hx hb dL_law_269 rfl (lv_at hl 0 rfl) ?_
      refine lv_iconst (v := 3) hx hb dL_law_270 (by decide +kernel) ?_
      refine lv_iadd hx hb dL_law_271 ?_
      refine xt_i (v := 3) (by decide +kernel) ?_
      refine va_sld hx hb hX hbl hbA hS (vin (by decide +kernel)) dL_law_272 ?_
      refine xt_i (v := xs 3) rfl ?_
      refine lv_aload_n hx hb dL_law_273 rfl (lv_at hl 3 rfl) ?_
      refine lv_iload_n hx hb dL_law_274 rfl (lv_at hl 0 rfl) ?_
      refine lv_iconst (v := 4) hx hb dL_law_275 (by decide +kernel) ?_
      refine lv_iadd hx hb dL_law_276 ?_
      refine xt_i (v := 4) (by decide +kernel) ?_
      refine va_sld hx hb hX hbl hbA hS (vin (by decide +kernel)) dL_law_277 ?_
      refine xt_i (v := xs 4) rfl ?_
      refine lv_aload_n hx hb dL_law_278 rfl (lv_at hl 3 rfl) ?_
      refine lv_iload_n hx hb dL_law_279 rfl (lv_at hl 0 rfl) ?_
      refine lv_iconst (v := 5) hx hb dL_law_280 (by decide +kernel) ?_
      refine lv_iadd hx hb dL_law_281 ?_
      refine xt_i (v := 5) (by decide +kernel) ?_
      refine va_sld hx hb hX hbl hbA hS (vin (by decide +kernel)) dL_law_282 ?_
      refine xt_i (v := xs 5) rfl ?_
      refine xc_core (wr := []) (k := 116) (n := 11963) (xc_runV (As := [.int (xs 1), .int (xs 2), .int (xs 3), .int (xs 4), .int (xs 5)]) (rest := [.int 20]) hx hb hml hown hts hG hE hP hD hS hA [0, 1] (by decide) rfl (cX10_feed_1 l D cB cI cJ cZ aK aV q_102 ((xs 1)) ((xs 2)) ((xs 3)) ((xs 4)) ((xs 5)) q_103 q_104 q_105 q_106 q_107 q_108 q_109 q_110 q_111 q_112 q_113 q_114 q_115 q_116 q_117 q_118 q_119 q_120 q_121 q_122 q_123 q_124 q_125 q_126 q_127 q_128 q_129 q_130 q_131 q_132 q_133 q_134 q_135 q_136 q_137 q_138 q_139 q_140 q_141 q_142 q_143 q_144 q_145 q_146 q_147 q_148 q_149 q_150 ((fun _ => 0))) kw2013 kw2010 kw2011 kw2012 kw127 (show XD yX10_feed 5 from by decide +kernel) (by decide) rfl rfl 0 rfl hl.1 rfl (Nat.le_of_ble_eq_true rfl) dL_law_283 (by decide)) hP hD hS hA [0, 1] [] rfl rfl (by decide) (by decide) (Nat.le_of_ble_eq_true rfl) (Nat.le_of_ble_eq_true rfl) (fun r w1 H locs hpost hP hD hS => ?_)
      obtain rfl := hpost
      have hP := hP.sub (ws' := []) [] rfl
      have hD := hD.sub (ws' := []) [] (by decide) rfl
      refine lv_icmp_eq (tgt := 1527) hx hb dL_law_286 (by decide) (fun _ => ?_) (fun h => absurd h (by decide +kernel))
      refine lv_iinc (v := 6) (lv' := [(3, .int 6), (2, .ref q_102), (1, .ref q_1), (0, .ref b)]) hx hb dL_law_1527 hl (k := 0) rfl (by decide +kernel) (by decide) rfl (fun ls hl => ?_)
      refine lv_goto (tgt := 18) hx hb dL_law_1530 (by decide) ?_
      refine lv_iload_n hx hb dL_law_18 rfl (lv_at hl 0 rfl) ?_
      refine lv_aload_n hx hb dL_law_19 rfl (lv_at hl 3 rfl) ?_
      refine va_slen hx hb hX hbl hbA hS dL_law_20 ?_
      refine xt_i (v := 6) (by decide +kernel) ?_
      refine lv_bipush (v := 6) hx hb dL_law_21 (by decide +kernel) ?_
      refine lv_isub hx hb dL_law_23 ?_
      refine xt_i (v := 0) (by decide +kernel) ?_
      refine lv_icmp_gt (tgt := 1533) hx hb dL_law_24 (by decide) (fun _ => ?_) (fun h => absurd h (by decide +kernel))
      refine lv_iconst (v := 1) hx hb dL_law_1533 (by decide +kernel) ?_
      refine va_forget (fun q hq => by have z := hS.2.2 q hq; rw [hAe] at z; exact z) ?_
      refine W.widen (k := 600000) (n := 7302250) (Nat.le_of_ble_eq_true rfl) (Nat.le_of_ble_eq_true rfl) ?_
      exact lw_ret hx hb hr hlocks dL_law_1534
    by_cases c_159 : v_157 = 1
    · subst c_159
      have hP := hP.sub (ws' := [(q_1, .inr (9, [.ref q_2, .ref q_3, .ref q_4, .ref q_5, .ref q_6, .ref q_7, .ref q_8, .ref q_9, .ref q_10, .ref q_11, .ref q_12, .ref q_13, .int 0])), (q_2, .inr (7, [.ref q_14, .int 0])), (q_102, .inr (10, ((.ref q_103) :: (.ref q_104) :: (.int 0) :: (.int 0) :: (.int 0) :: (.int (-1)) :: (.int 0) :: (.int 0) :: (.int 0) :: (.int 0) :: (.long 0) :: (.ref q_105) :: (.ref q_106) :: (.ref q_107) :: (.ref q_108) :: (.ref q_109) :: (.ref q_110) :: (.ref q_111) :: (.ref q_112) :: (.ref q_113) :: (.ref q_114) :: (.ref q_115) :: (.ref q_116) :: (.ref q_117) :: (.ref q_118) :: (.ref q_119) :: (.ref q_120) :: (.ref q_121) :: (.ref q_122) :: (.ref q_123) :: (.ref q_124) :: (.ref q_125) :: (.ref q_126) :: (.ref q_127) :: (.ref q_128) :: (.ref q_129) :: (.ref q_130) :: (.ref q_131) :: (.ref q_132) :: (.ref q_133) :: (.ref q_134) :: (.int 0) :: (.int 0) :: (.int 0) :: (.int 0) :: (.int 0) :: (.int 0) :: (.int 0) :: (.int 0) :: (.int 0) :: (.ref q_135) :: (.ref q_136) :: (.int 0) :: (.ref q_137) :: (.int 0) :: (.int 0) :: (.int 0) :: (.int 0) :: (.int 0) :: (.int 0) :: (.ref q_138) :: (.int 0) :: (.ref q_139) :: (.ref q_140) :: (.ref q_141) :: (.ref q_142) :: (.ref q_143) :: (.ref q_144) :: (.ref q_145) :: (.ref q_146) :: (.ref q_147) :: (.ref q_148) :: (.int 0) :: (.int 0) :: (.ref q_149) :: (.ref q_150) :: [])))]) [0, 1, 67] rfl
      have hD := hD.sub (ws' := [(q_1, .inr (9, [.ref q_2, .ref q_3, .ref q_4, .ref q_5, .ref q_6, .ref q_7, .ref q_8, .ref q_9, .ref q_10, .ref q_11, .ref q_12, .ref q_13, .int 0])), (q_2, .inr (7, [.ref q_14, .int 0])), (q_102, .inr (10, ((.ref q_103) :: (.ref q_104) :: (.int 0) :: (.int 0) :: (.int 0) :: (.int (-1)) :: (.int 0) :: (.int 0) :: (.int 0) :: (.int 0) :: (.long 0) :: (.ref q_105) :: (.ref q_106) :: (.ref q_107) :: (.ref q_108) :: (.ref q_109) :: (.ref q_110) :: (.ref q_111) :: (.ref q_112) :: (.ref q_113) :: (.ref q_114) :: (.ref q_115) :: (.ref q_116) :: (.ref q_117) :: (.ref q_118) :: (.ref q_119) :: (.ref q_120) :: (.ref q_121) :: (.ref q_122) :: (.ref q_123) :: (.ref q_124) :: (.ref q_125) :: (.ref q_126) :: (.ref q_127) :: (.ref q_128) :: (.ref q_129) :: (.ref q_130) :: (.ref q_131) :: (.ref q_132) :: (.ref q_133) :: (.ref q_134) :: (.int 0) :: (.int 0) :: (.int 0) :: (.int 0) :: (.int 0) :: (.int 0) :: (.int 0) :: (.int 0) :: (.int 0) :: (.ref q_135) :: (.ref q_136) :: (.int 0) :: (.ref q_137) :: (.int 0) :: (.int 0) :: (.int 0) :: (.int 0) :: (.int 0) :: (.int 0) :: (.ref q_138) :: (.int 0) :: (.ref q_139) :: (.ref q_140) :: (.ref q_141) :: (.ref q_142) :: (.ref q_143) :: (.ref q_144) :: (.ref q_145) :: (.ref q_146) :: (.ref q_147) :: (.ref q_148) :: (.int 0) :: (.int 0) :: (.ref q_149) :: (.ref q_150) :: [])))]) [0, 1, 67] (by decide) rfl
      refine lv_tableIn (off := 258) (tgt := 291) hx hb dL_law_33 (by decide) (by decide) (by decide +kernel) (by decide) ?_
      refine lv_aload_n hx hb dL_law_291 rfl (lv_at hl 2 rfl) ?_
      refine lv_aload_n hx hb dL_law_292 rfl (lv_at hl 3 rfl) ?_
      refine lv_iload_n hx hb dL_law_293 rfl (lv_at hl 0 rfl) ?_
      refine lv_iconst (v := 1) hx hb dL_law_294 (by decide +kernel) ?_
      refine lv_iadd hx hb dL_law_295 ?_
      refine xt_i (v := 1) (by decide +kernel) ?_
      refine va_sld hx hb hX hbl hbA hS (vin (by decide +kernel)) dL_law_296 ?_
      refine xt_i (v := xs 1) rfl ?_
      refine xc_core (wr := [(q_102, .inr (10, ((.ref q_103) :: (.ref q_104) :: (.int 0) :: (.int 0) :: (.int 0) :: (.int (-1)) :: (.int 0) :: (.int 0) :: (.int 0) :: (.int 0) :: (.long 0) :: (.ref q_105) :: (.ref q_106) :: (.ref q_107) :: (.ref q_108) :: (.ref q_109) :: (.ref q_110) :: (.ref q_111) :: (.ref q_112) :: (.ref q_113) :: (.ref q_114) :: (.ref q_115) :: (.ref q_116) :: (.ref q_117) :: (.ref q_118) :: (.ref q_119) :: (.ref q_120) :: (.ref q_121) :: (.ref q_122) :: (.ref q_123) :: (.ref q_124) :: (.ref q_125) :: (.ref q_126) :: (.ref q_127) :: (.ref q_128) :: (.ref q_129) :: (.ref q_130) :: (.ref q_131) :: (.ref q_132) :: (.ref q_133) :: (.ref q_134) :: (.int 0) :: (.int 0) :: (.int 0) :: (.int 0) :: (.int 0) :: (.int 0) :: (.int 0) :: (.int 0) :: (.int 0) :: (.ref q_135) :: (.ref q_136) :: (.int 0) :: (.ref q_137) :: (.int 0) :: (.int 0) :: (.int 0) :: (.int 0) :: (.int 0) :: (.int 0) :: (.ref q_138) :: (.int 0) :: (.ref q_139) :: (.ref q_140) :: (.ref q_141) :: (.ref q_142) :: (.ref q_143) :: (.ref q_144) :: (.ref q_145) :: (.ref q_146) :: (.ref q_147) :: (.ref q_148) :: (.int 0) :: (.int 0) :: (.ref q_149) :: (.ref q_150) :: [])))]) (k := 116) (n := 11963) (xc_runV (As := [.int (xs 1)]) (rest := []) hx hb hml hown hts hG hE hP hD hS hA [0, 1] (by decide) rfl (cX9_end_1 l D cB cI cJ cZ aK aV q_1 ((xs 1)) q_2 q_3 q_4 q_5 q_6 q_7 q_8 q_9 q_10 q_11 q_12 q_13 q_14) kw637 kw634 kw635 kw636 kw112 (show XD yX9_end 1 from by decide +kernel) (by decide) rfl rfl 0 rfl hl.1 rfl (Nat.le_of_ble_eq_true rfl) dL_law_297 (by decide)) hP hD hS hA [0, 1] [2] rfl rfl (by decide) (by decide) (Nat.le_of_ble_eq_true rfl) (Nat.le_of_ble_eq_true rfl) (fun r w1 H locs hpost hP hD hS => ?_)
      obtain rfl := hpost
      have hP := hP.sub (ws' := [(q_102, .inr (10, ((.ref q_103) :: (.ref q_104) :: (.int 0) :: (.int 0) :: (.int 0) :: (.int (-1)) :: (.int 0) :: (.int 0) :: (.int 0) :: (.int 0) :: (.long 0) :: (.ref q_105) :: (.ref q_106) :: (.ref q_107) :: (.ref q_108) :: (.ref q_109) :: (.ref q_110) :: (.ref q_111) :: (.ref q_112) :: (.ref q_113) :: (.ref q_114) :: (.ref q_115) :: (.ref q_116) :: (.ref q_117) :: (.ref q_118) :: (.ref q_119) :: (.ref q_120) :: (.ref q_121) :: (.ref q_122) :: (.ref q_123) :: (.ref q_124) :: (.ref q_125) :: (.ref q_126) :: (.ref q_127) :: (.ref q_128) :: (.ref q_129) :: (.ref q_130) :: (.ref q_131) :: (.ref q_132) :: (.ref q_133) :: (.ref q_134) :: (.int 0) :: (.int 0) :: (.int 0) :: (.int 0) :: (.int 0) :: (.int 0) :: (.int 0) :: (.int 0) :: (.int 0) :: (.ref q_135) :: (.ref q_136) :: (.int 0) :: (.ref q_137) :: (.int 0) :: (.int 0) :: (.int 0) :: (.int 0) :: (.int 0) :: (.int 0) :: (.ref q_138) :: (.int 0) :: (.ref q_139) :: (.ref q_140) :: (.ref q_141) :: (.ref q_142) :: (.ref q_143) :: (.ref q_144) :: (.ref q_145) :: (.ref q_146) :: (.ref q_147) :: (.ref q_148) :: (.int 0) :: (.int 0) :: (.ref q_149) :: (.ref q_150) :: [])))]) [0] rfl
      have hD := hD.sub (ws' := [(q_102, .inr (10, ((.ref q_103) :: (.ref q_104) :: (.int 0) :: (.int 0) :: (.int 0) :: (.int (-1)) :: (.int 0) :: (.int 0) :: (.int 0) :: (.int 0) :: (.long 0) :: (.ref q_105) :: (.ref q_106) :: (.ref q_107) :: (.ref q_108) :: (.ref q_109) :: (.ref q_110) :: (.ref q_111) :: (.ref q_112) :: (.ref q_113) :: (.ref q_114) :: (.ref q_115) :: (.ref q_116) :: (.ref q_117) :: (.ref q_118) :: (.ref q_119) :: (.ref q_120) :: (.ref q_121) :: (.ref q_122) :: (.ref q_123) :: (.ref q_124) :: (.ref q_125) :: (.ref q_126) :: (.ref q_127) :: (.ref q_128) :: (.ref q_129) :: (.ref q_130) :: (.ref q_131) :: (.ref q_132) :: (.ref q_133) :: (.ref q_134) :: (.int 0) :: (.int 0) :: (.int 0) :: (.int 0) :: (.int 0) :: (.int 0) :: (.int 0) :: (.int 0) :: (.int 0) :: (.ref q_135) :: (.ref q_136) :: (.int 0) :: (.ref q_137) :: (.int 0) :: (.int 0) :: (.int 0) :: (.int 0) :: (.int 0) :: (.int 0) :: (.ref q_138) :: (.int 0) :: (.ref q_139) :: (.ref q_140) :: (.ref q_141) :: (.ref q_142) :: (.ref q_143) :: (.ref q_144) :: (.ref q_145) :: (.ref q_146) :: (.ref q_147) :: (.ref q_148) :: (.int 0) :: (.int 0) :: (.ref q_149) :: (.ref q_150) :: [])))]) [0] (by decide) rfl
      refine lv_aload_n hx hb dL_law_300 rfl (lv_at hl 1 rfl) ?_
      refine lv_aload_n hx hb dL_law_301 rfl (lv_at hl 3 rfl) ?_
      refine lv_iload_n hx hb dL_law_302 rfl (lv_at hl 0 rfl) ?_
      refine lv_iconst (v := 1) hx hb dL_law_303 (by decide +kernel) ?_
      refine lv_iadd hx hb dL_law_304 ?_
      refine xt_i (v := 1) (by decide +kernel) ?_
      refine va_sld hx hb hX hbl hbA hS (vin (by decide +kernel)) dL_law_305 ?_
      refine xt_i (v := xs 1) rfl ?_
      refine xc_core (wr := []) (k := 116) (n := 11963) (xc_runV (As := [.int (xs 1)]) (rest := [.int (if ((xs 1)).toInt = 0 then 0 else -1)]) hx hb hml hown hts hG hE hP hD hS hA [0] (by decide) rfl (cX10_end_1 l D cB cI cJ cZ aK aV q_102 ((xs 1)) q_103 q_104 q_105 q_106 q_107 q_108 q_109 q_110 q_111 q_112 q_113 q_114 q_115 q_116 q_117 q_118 q_119 q_120 q_121 q_122 q_123 q_124 q_125 q_126 q_127 q_128 q_129 q_130 q_131 q_132 q_133 q_134 q_135 q_136 q_137 q_138 q_139 q_140 q_141 q_142 q_143 q_144 q_145 q_146 q_147 q_148 q_149 q_150) kw2017 kw2014 kw2015 kw2016 kw127 (show XD yX10_end 1 from by decide +kernel) (by decide) rfl rfl 0 rfl hl.1 rfl (Nat.le_of_ble_eq_true rfl) dL_law_306 (by decide)) hP hD hS hA [0] [] rfl rfl (by decide) (by decide) (Nat.le_of_ble_eq_true rfl) (Nat.le_of_ble_eq_true rfl) (fun r w1 H locs hpost hP hD hS => ?_)
      obtain rfl := hpost
      have hP := hP.sub (ws' := []) [] rfl
      have hD := hD.sub (ws' := []) [] (by decide) rfl
      refine lv_icmp_eq (tgt := 1527) hx hb dL_law_309 (by decide) (fun _ => ?_) (fun h => absurd rfl h)
      refine lv_iinc (v := 6) (lv' := [(3, .int 6), (2, .ref q_102), (1, .ref q_1), (0, .ref b)]) hx hb dL_law_1527 hl (k := 0) rfl (by decide +kernel) (by decide) rfl (fun ls hl => ?_)
      refine lv_goto (tgt := 18) hx hb dL_law_1530 (by decide) ?_
      refine lv_iload_n hx hb dL_law_18 rfl (lv_at hl 0 rfl) ?_
      refine lv_aload_n hx hb dL_law_19 rfl (lv_at hl 3 rfl) ?_
      refine va_slen hx hb hX hbl hbA hS dL_law_20 ?_
      refine xt_i (v := 6) (by decide +kernel) ?_
      refine lv_bipush (v := 6) hx hb dL_law_21 (by decide +kernel) ?_
      refine lv_isub hx hb dL_law_23 ?_
      refine xt_i (v := 0) (by decide +kernel) ?_
      refine lv_icmp_gt (tgt := 1533) hx hb dL_law_24 (by decide) (fun _ => ?_) (fun h => absurd h (by decide +kernel))
      refine lv_iconst (v := 1) hx hb dL_law_1533 (by decide +kernel) ?_
      refine va_forget (fun q hq => by have z := hS.2.2 q hq; rw [hAe] at z; exact z) ?_
      refine W.widen (k := 600000) (n := 7302250) (Nat.le_of_ble_eq_true rfl) (Nat.le_of_ble_eq_true rfl) ?_
      exact lw_ret hx hb hr hlocks dL_law_1534
    by_cases c_160 : v_157 = 2
    · subst c_160
      have hP := hP.sub (ws' := [(q_1, .inr (9, [.ref q_2, .ref q_3, .ref q_4, .ref q_5, .ref q_6, .ref q_7, .ref q_8, .ref q_9, .ref q_10, .ref q_11, .ref q_12, .ref q_13, .int 0])), (q_2, .inr (7, [.ref q_14, .int 0])), (q_14, .inl (cB, 1600, .inl f_15)), (q_5, .inr (8, [.int 0, .int 0, .int 0, .ref q_42, .ref q_43, .ref q_44, .ref q_45, .ref q_46, .ref q_47, .ref q_48, .ref q_49, .ref q_50, .ref q_51, .int 0, .int 1, .int 0, .int 0, .int 0])), (q_42, .inl (cI, 4, .inl f_52)), (q_44, .inl (cI, 7, .inl f_54)), (q_45, .inl (cI, 7, .inl f_55)), (q_46, .inl (cI, 7, .inl f_56)), (q_49, .inl (cI, 28, .inl f_59)), (q_50, .inr (1, [.ref q_60, .ref q_61, .int 0, .int 0, .int 0])), (q_51, .inr (1, [.ref q_64, .ref q_65, .int 0, .int 0, .int 0])), (q_3, .inr (4, [.ref q_68, .ref q_69, .ref q_70, .ref q_71, .ref q_2, .ref q_14, .int 0, .ref q_5, .ref q_50, .int 0, .int 0, .int 0, .long 0, .int 0, .int 0, .int (-1)])), (q_6, .inr (3, [.ref q_4, .ref q_73, .ref q_74, .ref q_75, .ref q_76, .ref q_77, .int 0, .int 0])), (q_73, .inl (cI, 7, .inl f_78)), (q_74, .inl (cI, 7, .inl f_79)), (q_75, .inl (cI, 7, .inl f_80)), (q_76, .inl (cI, 4, .inl f_81)), (q_8, .inr (2, [.ref q_91, .int 0, .int 0, .int 0])), (q_10, .inr (6, [.ref q_96, .ref q_97, .ref q_98, .ref q_99, .ref q_100, .int 0])), (q_11, .inr (5, [.ref q_101, .int 0])), (q_13, .inl (cZ, 3, .inl (lst [0, 0, 0]))), (q_102, .inr (10, ((.ref q_103) :: (.ref q_104) :: (.int 0) :: (.int 0) :: (.int 0) :: (.int (-1)) :: (.int 0) :: (.int 0) :: (.int 0) :: (.int 0) :: (.long 0) :: (.ref q_105) :: (.ref q_106) :: (.ref q_107) :: (.ref q_108) :: (.ref q_109) :: (.ref q_110) :: (.ref q_111) :: (.ref q_112) :: (.ref q_113) :: (.ref q_114) :: (.ref q_115) :: (.ref q_116) :: (.ref q_117) :: (.ref q_118) :: (.ref q_119) :: (.ref q_120) :: (.ref q_121) :: (.ref q_122) :: (.ref q_123) :: (.ref q_124) :: (.ref q_125) :: (.ref q_126) :: (.ref q_127) :: (.ref q_128) :: (.ref q_129) :: (.ref q_130) :: (.ref q_131) :: (.ref q_132) :: (.ref q_133) :: (.ref q_134) :: (.int 0) :: (.int 0) :: (.int 0) :: (.int 0) :: (.int 0) :: (.int 0) :: (.int 0) :: (.int 0) :: (.int 0) :: (.ref q_135) :: (.ref q_136) :: (.int 0) :: (.ref q_137) :: (.int 0) :: (.int 0) :: (.int 0) :: (.int 0) :: (.int 0) :: (.int 0) :: (.ref q_138) :: (.int 0) :: (.ref q_139) :: (.ref q_140) :: (.ref q_141) :: (.ref q_142) :: (.ref q_143) :: (.ref q_144) :: (.ref q_145) :: (.ref q_146) :: (.ref q_147) :: (.ref q_148) :: (.int 0) :: (.int 0) :: (.ref q_149) :: (.ref q_150) :: []))), (q_105, .inl (cI, 2, .inl (lst [0, 0]))), (q_106, .inl (cI, 2, .inl (lst [0, 0]))), (q_107, .inl (cI, 2, .inl (lst [0, 0]))), (q_108, .inl (cI, 2, .inl (lst [0, 0]))), (q_109, .inl (cI, 2, .inl (lst [0, 0]))), (q_110, .inl (cI, 2, .inl f_151)), (q_111, .inl (cI, 2, .inl (lst [0, 0]))), (q_112, .inl (cI, 2, .inl f_152)), (q_123, .inl (cZ, 2, .inl f_153)), (q_124, .inl (cZ, 2, .inl f_154)), (q_125, .inl (cZ, 2, .inl f_155)), (q_126, .inl (cZ, 2, .inl f_156)), (q_135, .inl (cI, 27, .inl (lst [(-1), (-1), (-1), (-1), (-1), (-1), (-1), 0, 0, 0, 0, 0, 0, 0, (-1), (-1), (-1), (-1), (-1), (-1), (-1), 0, 0, 0, 0, 0, 0]))), (q_150, .inl (cZ, 3, .inl (lst [0, 0, 0])))]) [0, 1, 2, 18, 19, 21, 22, 23, 26, 27, 30, 33, 38, 39, 40, 41, 42, 50, 57, 63, 66, 67, 70, 71, 72, 73, 74, 75, 76, 77, 88, 89, 90, 91, 100, 115] rfl
      have hD := hD.sub (ws' := [(q_1, .inr (9, [.ref q_2, .ref q_3, .ref q_4, .ref q_5, .ref q_6, .ref q_7, .ref q_8, .ref q_9, .ref q_10, .ref q_11, .ref q_12, .ref q_13, .int 0])), (q_2, .inr (7, [.ref q_14, .int 0])), (q_14, .inl (cB, 1600, .inl f_15)), (q_5, .inr (8, [.int 0, .int 0, .int 0, .ref q_42, .ref q_43, .ref q_44, .ref q_45, .ref q_46, .ref q_47, .ref q_48, .ref q_49, .ref q_50, .ref q_51, .int 0, .int 1, .int 0, .int 0, .int 0])), (q_42, .inl (cI, 4, .inl f_52)), (q_44, .inl (cI, 7, .inl f_54)), (q_45, .inl (cI, 7, .inl f_55)), (q_46, .inl (cI, 7, .inl f_56)), (q_49, .inl (cI, 28, .inl f_59)), (q_50, .inr (1, [.ref q_60, .ref q_61, .int 0, .int 0, .int 0])), (q_51, .inr (1, [.ref q_64, .ref q_65, .int 0, .int 0, .int 0])), (q_3, .inr (4, [.ref q_68, .ref q_69, .ref q_70, .ref q_71, .ref q_2, .ref q_14, .int 0, .ref q_5, .ref q_50, .int 0, .int 0, .int 0, .long 0, .int 0, .int 0, .int (-1)])), (q_6, .inr (3, [.ref q_4, .ref q_73, .ref q_74, .ref q_75, .ref q_76, .ref q_77, .int 0, .int 0])), (q_73, .inl (cI, 7, .inl f_78)), (q_74, .inl (cI, 7, .inl f_79)), (q_75, .inl (cI, 7, .inl f_80)), (q_76, .inl (cI, 4, .inl f_81)), (q_8, .inr (2, [.ref q_91, .int 0, .int 0, .int 0])), (q_10, .inr (6, [.ref q_96, .ref q_97, .ref q_98, .ref q_99, .ref q_100, .int 0])), (q_11, .inr (5, [.ref q_101, .int 0])), (q_13, .inl (cZ, 3, .inl (lst [0, 0, 0]))), (q_102, .inr (10, ((.ref q_103) :: (.ref q_104) :: (.int 0) :: (.int 0) :: (.int 0) :: (.int (-1)) :: (.int 0) :: (.int 0) :: (.int 0) :: (.int 0) :: (.long 0) :: (.ref q_105) :: (.ref q_106) :: (.ref q_107) :: (.ref q_108) :: (.ref q_109) :: (.ref q_110) :: (.ref q_111) :: (.ref q_112) :: (.ref q_113) :: (.ref q_114) :: (.ref q_115) :: (.ref q_116) :: (.ref q_117) :: (.ref q_118) :: (.ref q_119) :: (.ref q_120) :: (.ref q_121) :: (.ref q_122) :: (.ref q_123) :: (.ref q_124) :: (.ref q_125) :: (.ref q_126) :: (.ref q_127) :: (.ref q_128) :: (.ref q_129) :: (.ref q_130) :: (.ref q_131) :: (.ref q_132) :: (.ref q_133) :: (.ref q_134) :: (.int 0) :: (.int 0) :: (.int 0) :: (.int 0) :: (.int 0) :: (.int 0) :: (.int 0) :: (.int 0) :: (.int 0) :: (.ref q_135) :: (.ref q_136) :: (.int 0) :: (.ref q_137) :: (.int 0) :: (.int 0) :: (.int 0) :: (.int 0) :: (.int 0) :: (.int 0) :: (.ref q_138) :: (.int 0) :: (.ref q_139) :: (.ref q_140) :: (.ref q_141) :: (.ref q_142) :: (.ref q_143) :: (.ref q_144) :: (.ref q_145) :: (.ref q_146) :: (.ref q_147) :: (.ref q_148) :: (.int 0) :: (.int 0) :: (.ref q_149) :: (.ref q_150) :: []))), (q_105, .inl (cI, 2, .inl (lst [0, 0]))), (q_106, .inl (cI, 2, .inl (lst [0, 0]))), (q_107, .inl (cI, 2, .inl (lst [0, 0]))), (q_108, .inl (cI, 2, .inl (lst [0, 0]))), (q_109, .inl (cI, 2, .inl (lst [0, 0]))), (q_110, .inl (cI, 2, .inl f_151)), (q_111, .inl (cI, 2, .inl (lst [0, 0]))), (q_112, .inl (cI, 2, .inl f_152)), (q_123, .inl (cZ, 2, .inl f_153)), (q_124, .inl (cZ, 2, .inl f_154)), (q_125, .inl (cZ, 2, .inl f_155)), (q_126, .inl (cZ, 2, .inl f_156)), (q_135, .inl (cI, 27, .inl (lst [(-1), (-1), (-1), (-1), (-1), (-1), (-1), 0, 0, 0, 0, 0, 0, 0, (-1), (-1), (-1), (-1), (-1), (-1), (-1), 0, 0, 0, 0, 0, 0]))), (q_150, .inl (cZ, 3, .inl (lst [0, 0, 0])))]) [0, 1, 2, 18, 19, 21, 22, 23, 26, 27, 30, 33, 38, 39, 40, 41, 42, 50, 57, 63, 66, 67, 70, 71, 72, 73, 74, 75, 76, 77, 88, 89, 90, 91, 100, 115] (by decide) rfl
      refine lv_tableIn (off := 281) (tgt := 314) hx hb dL_law_33 (by decide) (by decide) (by decide +kernel) (by decide) ?_
      refine lv_aload_n hx hb dL_law_314 rfl (lv_at hl 2 rfl) ?_
      refine xc_core (wr := [(q_102, .inr (10, ((.ref q_103) :: (.ref q_104) :: (.int 0) :: (.int 0) :: (.int 0) :: (.int (-1)) :: (.int 0) :: (.int 0) :: (.int 0) :: (.int 0) :: (.long 0) :: (.ref q_105) :: (.ref q_106) :: (.ref q_107) :: (.ref q_108) :: (.ref q_109) :: (.ref q_110) :: (.ref q_111) :: (.ref q_112) :: (.ref q_113) :: (.ref q_114) :: (.ref q_115) :: (.ref q_116) :: (.ref q_117) :: (.ref q_118) :: (.ref q_119) :: (.ref q_120) :: (.ref q_121) :: (.ref q_122) :: (.ref q_123) :: (.ref q_124) :: (.ref q_125) :: (.ref q_126) :: (.ref q_127) :: (.ref q_128) :: (.ref q_129) :: (.ref q_130) :: (.ref q_131) :: (.ref q_132) :: (.ref q_133) :: (.ref q_134) :: (.int 0) :: (.int 0) :: (.int 0) :: (.int 0) :: (.int 0) :: (.int 0) :: (.int 0) :: (.int 0) :: (.int 0) :: (.ref q_135) :: (.ref q_136) :: (.int 0) :: (.ref q_137) :: (.int 0) :: (.int 0) :: (.int 0) :: (.int 0) :: (.int 0) :: (.int 0) :: (.ref q_138) :: (.int 0) :: (.ref q_139) :: (.ref q_140) :: (.ref q_141) :: (.ref q_142) :: (.ref q_143) :: (.ref q_144) :: (.ref q_145) :: (.ref q_146) :: (.ref q_147) :: (.ref q_148) :: (.int 0) :: (.int 0) :: (.ref q_149) :: (.ref q_150) :: []))), (q_105, .inl (cI, 2, .inl (lst [0, 0]))), (q_106, .inl (cI, 2, .inl (lst [0, 0]))), (q_107, .inl (cI, 2, .inl (lst [0, 0]))), (q_108, .inl (cI, 2, .inl (lst [0, 0]))), (q_109, .inl (cI, 2, .inl (lst [0, 0]))), (q_110, .inl (cI, 2, .inl f_151)), (q_111, .inl (cI, 2, .inl (lst [0, 0]))), (q_112, .inl (cI, 2, .inl f_152)), (q_123, .inl (cZ, 2, .inl f_153)), (q_124, .inl (cZ, 2, .inl f_154)), (q_125, .inl (cZ, 2, .inl f_155)), (q_126, .inl (cZ, 2, .inl f_156)), (q_135, .inl (cI, 27, .inl (lst [(-1), (-1), (-1), (-1), (-1), (-1), (-1), 0, 0, 0, 0, 0, 0, 0, (-1), (-1), (-1), (-1), (-1), (-1), (-1), 0, 0, 0, 0, 0, 0]))), (q_150, .inl (cZ, 3, .inl (lst [0, 0, 0])))]) (k := 116) (n := 11963) (xc_runV (As := []) (rest := []) hx hb hml hown hts hG hE hP hD hS hA [0, 1, 2, 3, 4, 5, 6, 7, 8, 9, 10, 11, 12, 13, 14, 15, 16, 17, 18, 19, 20] (by decide) rfl (cX9_world_1 l D cB cI cJ cZ aK aV q_1 q_2 q_3 q_4 q_5 q_6 q_7 q_8 q_9 q_10 q_11 q_12 q_13 q_14 f_15 q_42 q_43 q_44 q_45 q_46 q_47 q_48 q_49 q_50 q_51 f_52 f_54 f_55 f_56 f_59 q_60 q_61 q_64 q_65 q_68 q_69 q_70 q_71 q_73 q_74 q_75 q_76 q_77 f_78 f_79 f_80 f_81 q_91 q_96 q_97 q_98 q_99 q_100 q_101) kw645 kw642 kw643 kw644 kw112 (show XD yX9_world 0 from by decide +kernel) (by decide) rfl rfl 0 rfl hl.1 rfl (Nat.le_of_ble_eq_true rfl) dL_law_315 (by decide)) hP hD hS hA [0, 1, 2, 3, 4, 5, 6, 7, 8, 9, 10, 11, 12, 13, 14, 15, 16, 17, 18, 19, 20] [21, 22, 23, 24, 25, 26, 27, 28, 29, 30, 31, 32, 33, 34, 35] rfl rfl (by decide) (by decide) (Nat.le_of_ble_eq_true rfl) (Nat.le_of_ble_eq_true rfl) (fun r w1 H locs hpost hP hD hS => ?_)
      obtain rfl := hpost
      have hP := hP.sub (ws' := [(q_102, .inr (10, ((.ref q_103) :: (.ref q_104) :: (.int 0) :: (.int 0) :: (.int 0) :: (.int (-1)) :: (.int 0) :: (.int 0) :: (.int 0) :: (.int 0) :: (.long 0) :: (.ref q_105) :: (.ref q_106) :: (.ref q_107) :: (.ref q_108) :: (.ref q_109) :: (.ref q_110) :: (.ref q_111) :: (.ref q_112) :: (.ref q_113) :: (.ref q_114) :: (.ref q_115) :: (.ref q_116) :: (.ref q_117) :: (.ref q_118) :: (.ref q_119) :: (.ref q_120) :: (.ref q_121) :: (.ref q_122) :: (.ref q_123) :: (.ref q_124) :: (.ref q_125) :: (.ref q_126) :: (.ref q_127) :: (.ref q_128) :: (.ref q_129) :: (.ref q_130) :: (.ref q_131) :: (.ref q_132) :: (.ref q_133) :: (.ref q_134) :: (.int 0) :: (.int 0) :: (.int 0) :: (.int 0) :: (.int 0) :: (.int 0) :: (.int 0) :: (.int 0) :: (.int 0) :: (.ref q_135) :: (.ref q_136) :: (.int 0) :: (.ref q_137) :: (.int 0) :: (.int 0) :: (.int 0) :: (.int 0) :: (.int 0) :: (.int 0) :: (.ref q_138) :: (.int 0) :: (.ref q_139) :: (.ref q_140) :: (.ref q_141) :: (.ref q_142) :: (.ref q_143) :: (.ref q_144) :: (.ref q_145) :: (.ref q_146) :: (.ref q_147) :: (.ref q_148) :: (.int 0) :: (.int 0) :: (.ref q_149) :: (.ref q_150) :: []))), (q_105, .inl (cI, 2, .inl (lst [0, 0]))), (q_106, .inl (cI, 2, .inl (lst [0, 0]))), (q_107, .inl (cI, 2, .inl (lst [0, 0]))), (q_108, .inl (cI, 2, .inl (lst [0, 0]))), (q_109, .inl (cI, 2, .inl (lst [0, 0]))), (q_110, .inl (cI, 2, .inl f_151)), (q_111, .inl (cI, 2, .inl (lst [0, 0]))), (q_112, .inl (cI, 2, .inl f_152)), (q_123, .inl (cZ, 2, .inl f_153)), (q_124, .inl (cZ, 2, .inl f_154)), (q_125, .inl (cZ, 2, .inl f_155)), (q_126, .inl (cZ, 2, .inl f_156)), (q_135, .inl (cI, 27, .inl (lst [(-1), (-1), (-1), (-1), (-1), (-1), (-1), 0, 0, 0, 0, 0, 0, 0, (-1), (-1), (-1), (-1), (-1), (-1), (-1), 0, 0, 0, 0, 0, 0]))), (q_150, .inl (cZ, 3, .inl (lst [0, 0, 0])))]) [0, 1, 2, 3, 4, 5, 6, 7, 8, 9, 10, 11, 12, 13, 14] rfl
      have hD := hD.sub (ws' := [(q_102, .inr (10, ((.ref q_103) :: (.ref q_104) :: (.int 0) :: (.int 0) :: (.int 0) :: (.int (-1)) :: (.int 0) :: (.int 0) :: (.int 0) :: (.int 0) :: (.long 0) :: (.ref q_105) :: (.ref q_106) :: (.ref q_107) :: (.ref q_108) :: (.ref q_109) :: (.ref q_110) :: (.ref q_111) :: (.ref q_112) :: (.ref q_113) :: (.ref q_114) :: (.ref q_115) :: (.ref q_116) :: (.ref q_117) :: (.ref q_118) :: (.ref q_119) :: (.ref q_120) :: (.ref q_121) :: (.ref q_122) :: (.ref q_123) :: (.ref q_124) :: (.ref q_125) :: (.ref q_126) :: (.ref q_127) :: (.ref q_128) :: (.ref q_129) :: (.ref q_130) :: (.ref q_131) :: (.ref q_132) :: (.ref q_133) :: (.ref q_134) :: (.int 0) :: (.int 0) :: (.int 0) :: (.int 0) :: (.int 0) :: (.int 0) :: (.int 0) :: (.int 0) :: (.int 0) :: (.ref q_135) :: (.ref q_136) :: (.int 0) :: (.ref q_137) :: (.int 0) :: (.int 0) :: (.int 0) :: (.int 0) :: (.int 0) :: (.int 0) :: (.ref q_138) :: (.int 0) :: (.ref q_139) :: (.ref q_140) :: (.ref q_141) :: (.ref q_142) :: (.ref q_143) :: (.ref q_144) :: (.ref q_145) :: (.ref q_146) :: (.ref q_147) :: (.ref q_148) :: (.int 0) :: (.int 0) :: (.ref q_149) :: (.ref q_150) :: []))), (q_105, .inl (cI, 2, .inl (lst [0, 0]))), (q_106, .inl (cI, 2, .inl (lst [0, 0]))), (q_107, .inl (cI, 2, .inl (lst [0, 0]))), (q_108, .inl (cI, 2, .inl (lst [0, 0]))), (q_109, .inl (cI, 2, .inl (lst [0, 0]))), (q_110, .inl (cI, 2, .inl f_151)), (q_111, .inl (cI, 2, .inl (lst [0, 0]))), (q_112, .inl (cI, 2, .inl f_152)), (q_123, .inl (cZ, 2, .inl f_153)), (q_124, .inl (cZ, 2, .inl f_154)), (q_125, .inl (cZ, 2, .inl f_155)), (q_126, .inl (cZ, 2, .inl f_156)), (q_135, .inl (cI, 27, .inl (lst [(-1), (-1), (-1), (-1), (-1), (-1), (-1), 0, 0, 0, 0, 0, 0, 0, (-1), (-1), (-1), (-1), (-1), (-1), (-1), 0, 0, 0, 0, 0, 0]))), (q_150, .inl (cZ, 3, .inl (lst [0, 0, 0])))]) [0, 1, 2, 3, 4, 5, 6, 7, 8, 9, 10, 11, 12, 13, 14] (by decide) rfl
      refine lv_aload_n hx hb dL_law_318 rfl (lv_at hl 1 rfl) ?_
      refine xc_core (wr := []) (k := 116) (n := 11963) (xc_runV (As := []) (rest := [.int 0]) hx hb hml hown hts hG hE hP hD hS hA [0, 1, 2, 3, 4, 5, 6, 7, 8, 9, 10, 11, 12, 13, 14] (by decide) rfl (cX10_world_1 l D cB cI cJ cZ aK aV q_102 q_103 q_104 q_105 q_106 q_107 q_108 q_109 q_110 q_111 q_112 q_113 q_114 q_115 q_116 q_117 q_118 q_119 q_120 q_121 q_122 q_123 q_124 q_125 q_126 q_127 q_128 q_129 q_130 q_131 q_132 q_133 q_134 q_135 q_136 q_137 q_138 q_139 q_140 q_141 q_142 q_143 q_144 q_145 q_146 q_147 q_148 q_149 q_150 f_151 f_152 f_153 f_154 f_155 f_156) kw1511 kw1508 kw1509 kw1510 kw127 (show XD yX10_world 0 from by decide +kernel) (by decide) rfl rfl 0 rfl hl.1 rfl (Nat.le_of_ble_eq_true rfl) dL_law_319 (by decide)) hP hD hS hA [0, 1, 2, 3, 4, 5, 6, 7, 8, 9, 10, 11, 12, 13, 14] [] rfl rfl (by decide) (by decide) (Nat.le_of_ble_eq_true rfl) (Nat.le_of_ble_eq_true rfl) (fun r w1 H locs hpost hP hD hS => ?_)
      obtain rfl := hpost
      have hP := hP.sub (ws' := []) [] rfl
      have hD := hD.sub (ws' := []) [] (by decide) rfl
      refine lv_icmp_eq (tgt := 1527) hx hb dL_law_322 (by decide) (fun _ => ?_) (fun h => absurd h (by decide +kernel))
      refine lv_iinc (v := 6) (lv' := [(3, .int 6), (2, .ref q_102), (1, .ref q_1), (0, .ref b)]) hx hb dL_law_1527 hl (k := 0) rfl (by decide +kernel) (by decide) rfl (fun ls hl => ?_)
      refine lv_goto (tgt := 18) hx hb dL_law_1530 (by decide) ?_
      refine lv_iload_n hx hb dL_law_18 rfl (lv_at hl 0 rfl) ?_
      refine lv_aload_n hx hb dL_law_19 rfl (lv_at hl 3 rfl) ?_
      refine va_slen hx hb hX hbl hbA hS dL_law_20 ?_
      refine xt_i (v := 6) (by decide +kernel) ?_
      refine lv_bipush (v := 6) hx hb dL_law_21 (by decide +kernel) ?_
      refine lv_isub hx hb dL_law_23 ?_
      refine xt_i (v := 0) (by decide +kernel) ?_
      refine lv_icmp_gt (tgt := 1533) hx hb dL_law_24 (by decide) (fun _ => ?_) (fun h => absurd h (by decide +kernel))
      refine lv_iconst (v := 1) hx hb dL_law_1533 (by decide +kernel) ?_
      refine va_forget (fun q hq => by have z := hS.2.2 q hq; rw [hAe] at z; exact z) ?_
      refine W.widen (k := 600000) (n := 7302250) (Nat.le_of_ble_eq_true rfl) (Nat.le_of_ble_eq_true rfl) ?_
      exact lw_ret hx hb hr hlocks dL_law_1534
    by_cases c_161 : v_157 = 3
    · subst c_161
      have hP := hP.sub (ws' := [(q_1, .inr (9, [.ref q_2, .ref q_3, .ref q_4, .ref q_5, .ref q_6, .ref q_7, .ref q_8, .ref q_9, .ref q_10, .ref q_11, .ref q_12, .ref q_13, .int 0])), (q_3, .inr (4, [.ref q_68, .ref q_69, .ref q_70, .ref q_71, .ref q_2, .ref q_14, .int 0, .ref q_5, .ref q_50, .int 0, .int 0, .int 0, .long 0, .int 0, .int 0, .int (-1)])), (q_102, .inr (10, ((.ref q_103) :: (.ref q_104) :: (.int 0) :: (.int 0) :: (.int 0) :: (.int (-1)) :: (.int 0) :: (.int 0) :: (.int 0) :: (.int 0) :: (.long 0) :: (.ref q_105) :: (.ref q_106) :: (.ref q_107) :: (.ref q_108) :: (.ref q_109) :: (.ref q_110) :: (.ref q_111) :: (.ref q_112) :: (.ref q_113) :: (.ref q_114) :: (.ref q_115) :: (.ref q_116) :: (.ref q_117) :: (.ref q_118) :: (.ref q_119) :: (.ref q_120) :: (.ref q_121) :: (.ref q_122) :: (.ref q_123) :: (.ref q_124) :: (.ref q_125) :: (.ref q_126) :: (.ref q_127) :: (.ref q_128) :: (.ref q_129) :: (.ref q_130) :: (.ref q_131) :: (.ref q_132) :: (.ref q_133) :: (.ref q_134) :: (.int 0) :: (.int 0) :: (.int 0) :: (.int 0) :: (.int 0) :: (.int 0) :: (.int 0) :: (.int 0) :: (.int 0) :: (.ref q_135) :: (.ref q_136) :: (.int 0) :: (.ref q_137) :: (.int 0) :: (.int 0) :: (.int 0) :: (.int 0) :: (.int 0) :: (.int 0) :: (.ref q_138) :: (.int 0) :: (.ref q_139) :: (.ref q_140) :: (.ref q_141) :: (.ref q_142) :: (.ref q_143) :: (.ref q_144) :: (.ref q_145) :: (.ref q_146) :: (.ref q_147) :: (.ref q_148) :: (.int 0) :: (.int 0) :: (.ref q_149) :: (.ref q_150) :: [])))]) [0, 33, 67] rfl
      have hD := hD.sub (ws' := [(q_1, .inr (9, [.ref q_2, .ref q_3, .ref q_4, .ref q_5, .ref q_6, .ref q_7, .ref q_8, .ref q_9, .ref q_10, .ref q_11, .ref q_12, .ref q_13, .int 0])), (q_3, .inr (4, [.ref q_68, .ref q_69, .ref q_70, .ref q_71, .ref q_2, .ref q_14, .int 0, .ref q_5, .ref q_50, .int 0, .int 0, .int 0, .long 0, .int 0, .int 0, .int (-1)])), (q_102, .inr (10, ((.ref q_103) :: (.ref q_104) :: (.int 0) :: (.int 0) :: (.int 0) :: (.int (-1)) :: (.int 0) :: (.int 0) :: (.int 0) :: (.int 0) :: (.long 0) :: (.ref q_105) :: (.ref q_106) :: (.ref q_107) :: (.ref q_108) :: (.ref q_109) :: (.ref q_110) :: (.ref q_111) :: (.ref q_112) :: (.ref q_113) :: (.ref q_114) :: (.ref q_115) :: (.ref q_116) :: (.ref q_117) :: (.ref q_118) :: (.ref q_119) :: (.ref q_120) :: (.ref q_121) :: (.ref q_122) :: (.ref q_123) :: (.ref q_124) :: (.ref q_125) :: (.ref q_126) :: (.ref q_127) :: (.ref q_128) :: (.ref q_129) :: (.ref q_130) :: (.ref q_131) :: (.ref q_132) :: (.ref q_133) :: (.ref q_134) :: (.int 0) :: (.int 0) :: (.int 0) :: (.int 0) :: (.int 0) :: (.int 0) :: (.int 0) :: (.int 0) :: (.int 0) :: (.ref q_135) :: (.ref q_136) :: (.int 0) :: (.ref q_137) :: (.int 0) :: (.int 0) :: (.int 0) :: (.int 0) :: (.int 0) :: (.int 0) :: (.ref q_138) :: (.int 0) :: (.ref q_139) :: (.ref q_140) :: (.ref q_141) :: (.ref q_142) :: (.ref q_143) :: (.ref q_144) :: (.ref q_145) :: (.ref q_146) :: (.ref q_147) :: (.ref q_148) :: (.int 0) :: (.int 0) :: (.ref q_149) :: (.ref q_150) :: [])))]) [0, 33, 67] (by decide) rfl
      refine lv_tableIn (off := 294) (tgt := 327) hx hb dL_law_33 (by decide) (by decide) (by decide +kernel) (by decide) ?_
      refine lv_aload_n hx hb dL_law_327 rfl (lv_at hl 2 rfl) ?_
      refine lv_aload_n hx hb dL_law_328 rfl (lv_at hl 3 rfl) ?_
      refine lv_iload_n hx hb dL_law_329 rfl (lv_at hl 0 rfl) ?_
      refine lv_iconst (v := 1) hx hb dL_law_330 (by decide +kernel) ?_
      refine lv_iadd hx hb dL_law_331 ?_
      refine xt_i (v := 1) (by decide +kernel) ?_
      refine va_sld hx hb hX hbl hbA hS (vin (by decide +kernel)) dL_law_332 ?_
      refine xt_i (v := xs 1) rfl ?_
      refine xc_core (wr := [(q_102, .inr (10, ((.ref q_103) :: (.ref q_104) :: (.int 0) :: (.int 0) :: (.int 0) :: (.int (-1)) :: (.int 0) :: (.int 0) :: (.int 0) :: (.int 0) :: (.long 0) :: (.ref q_105) :: (.ref q_106) :: (.ref q_107) :: (.ref q_108) :: (.ref q_109) :: (.ref q_110) :: (.ref q_111) :: (.ref q_112) :: (.ref q_113) :: (.ref q_114) :: (.ref q_115) :: (.ref q_116) :: (.ref q_117) :: (.ref q_118) :: (.ref q_119) :: (.ref q_120) :: (.ref q_121) :: (.ref q_122) :: (.ref q_123) :: (.ref q_124) :: (.ref q_125) :: (.ref q_126) :: (.ref q_127) :: (.ref q_128) :: (.ref q_129) :: (.ref q_130) :: (.ref q_131) :: (.ref q_132) :: (.ref q_133) :: (.ref q_134) :: (.int 0) :: (.int 0) :: (.int 0) :: (.int 0) :: (.int 0) :: (.int 0) :: (.int 0) :: (.int 0) :: (.int 0) :: (.ref q_135) :: (.ref q_136) :: (.int 0) :: (.ref q_137) :: (.int 0) :: (.int 0) :: (.int 0) :: (.int 0) :: (.int 0) :: (.int 0) :: (.ref q_138) :: (.int 0) :: (.ref q_139) :: (.ref q_140) :: (.ref q_141) :: (.ref q_142) :: (.ref q_143) :: (.ref q_144) :: (.ref q_145) :: (.ref q_146) :: (.ref q_147) :: (.ref q_148) :: (.int 0) :: (.int 0) :: (.ref q_149) :: (.ref q_150) :: [])))]) (k := 116) (n := 11963) (xc_runV (As := [.int (xs 1)]) (rest := []) hx hb hml hown hts hG hE hP hD hS hA [0, 1] (by decide) rfl (cX9_fault_1 l D cB cI cJ cZ aK aV q_1 ((xs 1)) q_2 q_3 q_4 q_5 q_6 q_7 q_8 q_9 q_10 q_11 q_12 q_13 q_68 q_69 q_70 q_71 q_14 q_50) kw826 kw823 kw824 kw825 kw112 (show XD yX9_fault 1 from by decide +kernel) (by decide) rfl rfl 0 rfl hl.1 rfl (Nat.le_of_ble_eq_true rfl) dL_law_333 (by decide)) hP hD hS hA [0, 1] [2] rfl rfl (by decide) (by decide) (Nat.le_of_ble_eq_true rfl) (Nat.le_of_ble_eq_true rfl) (fun r w1 H locs hpost hP hD hS => ?_)
      obtain rfl := hpost
      have hP := hP.sub (ws' := [(q_102, .inr (10, ((.ref q_103) :: (.ref q_104) :: (.int 0) :: (.int 0) :: (.int 0) :: (.int (-1)) :: (.int 0) :: (.int 0) :: (.int 0) :: (.int 0) :: (.long 0) :: (.ref q_105) :: (.ref q_106) :: (.ref q_107) :: (.ref q_108) :: (.ref q_109) :: (.ref q_110) :: (.ref q_111) :: (.ref q_112) :: (.ref q_113) :: (.ref q_114) :: (.ref q_115) :: (.ref q_116) :: (.ref q_117) :: (.ref q_118) :: (.ref q_119) :: (.ref q_120) :: (.ref q_121) :: (.ref q_122) :: (.ref q_123) :: (.ref q_124) :: (.ref q_125) :: (.ref q_126) :: (.ref q_127) :: (.ref q_128) :: (.ref q_129) :: (.ref q_130) :: (.ref q_131) :: (.ref q_132) :: (.ref q_133) :: (.ref q_134) :: (.int 0) :: (.int 0) :: (.int 0) :: (.int 0) :: (.int 0) :: (.int 0) :: (.int 0) :: (.int 0) :: (.int 0) :: (.ref q_135) :: (.ref q_136) :: (.int 0) :: (.ref q_137) :: (.int 0) :: (.int 0) :: (.int 0) :: (.int 0) :: (.int 0) :: (.int 0) :: (.ref q_138) :: (.int 0) :: (.ref q_139) :: (.ref q_140) :: (.ref q_141) :: (.ref q_142) :: (.ref q_143) :: (.ref q_144) :: (.ref q_145) :: (.ref q_146) :: (.ref q_147) :: (.ref q_148) :: (.int 0) :: (.int 0) :: (.ref q_149) :: (.ref q_150) :: [])))]) [0] rfl
      have hD := hD.sub (ws' := [(q_102, .inr (10, ((.ref q_103) :: (.ref q_104) :: (.int 0) :: (.int 0) :: (.int 0) :: (.int (-1)) :: (.int 0) :: (.int 0) :: (.int 0) :: (.int 0) :: (.long 0) :: (.ref q_105) :: (.ref q_106) :: (.ref q_107) :: (.ref q_108) :: (.ref q_109) :: (.ref q_110) :: (.ref q_111) :: (.ref q_112) :: (.ref q_113) :: (.ref q_114) :: (.ref q_115) :: (.ref q_116) :: (.ref q_117) :: (.ref q_118) :: (.ref q_119) :: (.ref q_120) :: (.ref q_121) :: (.ref q_122) :: (.ref q_123) :: (.ref q_124) :: (.ref q_125) :: (.ref q_126) :: (.ref q_127) :: (.ref q_128) :: (.ref q_129) :: (.ref q_130) :: (.ref q_131) :: (.ref q_132) :: (.ref q_133) :: (.ref q_134) :: (.int 0) :: (.int 0) :: (.int 0) :: (.int 0) :: (.int 0) :: (.int 0) :: (.int 0) :: (.int 0) :: (.int 0) :: (.ref q_135) :: (.ref q_136) :: (.int 0) :: (.ref q_137) :: (.int 0) :: (.int 0) :: (.int 0) :: (.int 0) :: (.int 0) :: (.int 0) :: (.ref q_138) :: (.int 0) :: (.ref q_139) :: (.ref q_140) :: (.ref q_141) :: (.ref q_142) :: (.ref q_143) :: (.ref q_144) :: (.ref q_145) :: (.ref q_146) :: (.ref q_147) :: (.ref q_148) :: (.int 0) :: (.int 0) :: (.ref q_149) :: (.ref q_150) :: [])))]) [0] (by decide) rfl
      refine lv_aload_n hx hb dL_law_336 rfl (lv_at hl 1 rfl) ?_
      refine lv_aload_n hx hb dL_law_337 rfl (lv_at hl 3 rfl) ?_
      refine lv_iload_n hx hb dL_law_338 rfl (lv_at hl 0 rfl) ?_
      refine lv_iconst (v := 1) hx hb dL_law_339 (by decide +kernel) ?_
      refine lv_iadd hx hb dL_law_340 ?_
      refine xt_i (v := 1) (by decide +kernel) ?_
      refine va_sld hx hb hX hbl hbA hS (vin (by decide +kernel)) dL_law_341 ?_
      refine xt_i (v := xs 1) rfl ?_
      refine xc_core (wr := []) (k := 116) (n := 11963) (xc_runV (As := [.int (xs 1)]) (rest := [.int (if ((xs 1)).toInt = 0 then 0 else -1)]) hx hb hml hown hts hG hE hP hD hS hA [0] (by decide) rfl (cX10_fault_1 l D cB cI cJ cZ aK aV q_102 ((xs 1)) q_103 q_104 q_105 q_106 q_107 q_108 q_109 q_110 q_111 q_112 q_113 q_114 q_115 q_116 q_117 q_118 q_119 q_120 q_121 q_122 q_123 q_124 q_125 q_126 q_127 q_128 q_129 q_130 q_131 q_132 q_133 q_134 q_135 q_136 q_137 q_138 q_139 q_140 q_141 q_142 q_143 q_144 q_145 q_146 q_147 q_148 q_149 q_150) kw1672 kw1669 kw1670 kw1671 kw127 (show XD yX10_fault 1 from by decide +kernel) (by decide) rfl rfl 0 rfl hl.1 rfl (Nat.le_of_ble_eq_true rfl) dL_law_342 (by decide)) hP hD hS hA [0] [] rfl rfl (by decide) (by decide) (Nat.le_of_ble_eq_true rfl) (Nat.le_of_ble_eq_true rfl) (fun r w1 H locs hpost hP hD hS => ?_)
      obtain rfl := hpost
      have hP := hP.sub (ws' := []) [] rfl
      have hD := hD.sub (ws' := []) [] (by decide) rfl
      refine lv_icmp_eq (tgt := 1527) hx hb dL_law_345 (by decide) (fun _ => ?_) (fun h => absurd rfl h)
      refine lv_iinc (v := 6) (lv' := [(3, .int 6), (2, .ref q_102), (1, .ref q_1), (0, .ref b)]) hx hb dL_law_1527 hl (k := 0) rfl (by decide +kernel) (by decide) rfl (fun ls hl => ?_)
      refine lv_goto (tgt := 18) hx hb dL_law_1530 (by decide) ?_
      refine lv_iload_n hx hb dL_law_18 rfl (lv_at hl 0 rfl) ?_
      refine lv_aload_n hx hb dL_law_19 rfl (lv_at hl 3 rfl) ?_
      refine va_slen hx hb hX hbl hbA hS dL_law_20 ?_
      refine xt_i (v := 6) (by decide +kernel) ?_
      refine lv_bipush (v := 6) hx hb dL_law_21 (by decide +kernel) ?_
      refine lv_isub hx hb dL_law_23 ?_
      refine xt_i (v := 0) (by decide +kernel) ?_
      refine lv_icmp_gt (tgt := 1533) hx hb dL_law_24 (by decide) (fun _ => ?_) (fun h => absurd h (by decide +kernel))
      refine lv_iconst (v := 1) hx hb dL_law_1533 (by decide +kernel) ?_
      refine va_forget (fun q hq => by have z := hS.2.2 q hq; rw [hAe] at z; exact z) ?_
      refine W.widen (k := 600000) (n := 7302250) (Nat.le_of_ble_eq_true rfl) (Nat.le_of_ble_eq_true rfl) ?_
      exact lw_ret hx hb hr hlocks dL_law_1534
    by_cases c_162 : v_157 = 4
    · subst c_162
      have hP := hP.sub (ws' := [(q_1, .inr (9, [.ref q_2, .ref q_3, .ref q_4, .ref q_5, .ref q_6, .ref q_7, .ref q_8, .ref q_9, .ref q_10, .ref q_11, .ref q_12, .ref q_13, .int 0])), (q_4, .inr (8, [.int 0, .int 0, .int 0, .ref q_16, .ref q_17, .ref q_18, .ref q_19, .ref q_20, .ref q_21, .ref q_22, .ref q_23, .ref q_24, .ref q_25, .int 0, .int 1, .int 0, .int 0, .int 0])), (q_102, .inr (10, ((.ref q_103) :: (.ref q_104) :: (.int 0) :: (.int 0) :: (.int 0) :: (.int (-1)) :: (.int 0) :: (.int 0) :: (.int 0) :: (.int 0) :: (.long 0) :: (.ref q_105) :: (.ref q_106) :: (.ref q_107) :: (.ref q_108) :: (.ref q_109) :: (.ref q_110) :: (.ref q_111) :: (.ref q_112) :: (.ref q_113) :: (.ref q_114) :: (.ref q_115) :: (.ref q_116) :: (.ref q_117) :: (.ref q_118) :: (.ref q_119) :: (.ref q_120) :: (.ref q_121) :: (.ref q_122) :: (.ref q_123) :: (.ref q_124) :: (.ref q_125) :: (.ref q_126) :: (.ref q_127) :: (.ref q_128) :: (.ref q_129) :: (.ref q_130) :: (.ref q_131) :: (.ref q_132) :: (.ref q_133) :: (.ref q_134) :: (.int 0) :: (.int 0) :: (.int 0) :: (.int 0) :: (.int 0) :: (.int 0) :: (.int 0) :: (.int 0) :: (.int 0) :: (.ref q_135) :: (.ref q_136) :: (.int 0) :: (.ref q_137) :: (.int 0) :: (.int 0) :: (.int 0) :: (.int 0) :: (.int 0) :: (.int 0) :: (.ref q_138) :: (.int 0) :: (.ref q_139) :: (.ref q_140) :: (.ref q_141) :: (.ref q_142) :: (.ref q_143) :: (.ref q_144) :: (.ref q_145) :: (.ref q_146) :: (.ref q_147) :: (.ref q_148) :: (.int 0) :: (.int 0) :: (.ref q_149) :: (.ref q_150) :: []))), (q_107, .inl (cI, 2, .inl (lst [0, 0])))]) [0, 3, 67, 72] rfl
      have hD := hD.sub (ws' := [(q_1, .inr (9, [.ref q_2, .ref q_3, .ref q_4, .ref q_5, .ref q_6, .ref q_7, .ref q_8, .ref q_9, .ref q_10, .ref q_11, .ref q_12, .ref q_13, .int 0])), (q_4, .inr (8, [.int 0, .int 0, .int 0, .ref q_16, .ref q_17, .ref q_18, .ref q_19, .ref q_20, .ref q_21, .ref q_22, .ref q_23, .ref q_24, .ref q_25, .int 0, .int 1, .int 0, .int 0, .int 0])), (q_102, .inr (10, ((.ref q_103) :: (.ref q_104) :: (.int 0) :: (.int 0) :: (.int 0) :: (.int (-1)) :: (.int 0) :: (.int 0) :: (.int 0) :: (.int 0) :: (.long 0) :: (.ref q_105) :: (.ref q_106) :: (.ref q_107) :: (.ref q_108) :: (.ref q_109) :: (.ref q_110) :: (.ref q_111) :: (.ref q_112) :: (.ref q_113) :: (.ref q_114) :: (.ref q_115) :: (.ref q_116) :: (.ref q_117) :: (.ref q_118) :: (.ref q_119) :: (.ref q_120) :: (.ref q_121) :: (.ref q_122) :: (.ref q_123) :: (.ref q_124) :: (.ref q_125) :: (.ref q_126) :: (.ref q_127) :: (.ref q_128) :: (.ref q_129) :: (.ref q_130) :: (.ref q_131) :: (.ref q_132) :: (.ref q_133) :: (.ref q_134) :: (.int 0) :: (.int 0) :: (.int 0) :: (.int 0) :: (.int 0) :: (.int 0) :: (.int 0) :: (.int 0) :: (.int 0) :: (.ref q_135) :: (.ref q_136) :: (.int 0) :: (.ref q_137) :: (.int 0) :: (.int 0) :: (.int 0) :: (.int 0) :: (.int 0) :: (.int 0) :: (.ref q_138) :: (.int 0) :: (.ref q_139) :: (.ref q_140) :: (.ref q_141) :: (.ref q_142) :: (.ref q_143) :: (.ref q_144) :: (.ref q_145) :: (.ref q_146) :: (.ref q_147) :: (.ref q_148) :: (.int 0) :: (.int 0) :: (.ref q_149) :: (.ref q_150) :: []))), (q_107, .inl (cI, 2, .inl (lst [0, 0])))]) [0, 3, 67, 72] (by decide) rfl
      refine lv_tableIn (off := 317) (tgt := 350) hx hb dL_law_33 (by decide) (by decide) (by decide +kernel) (by decide) ?_
      refine lv_aload_n hx hb dL_law_350 rfl (lv_at hl 2 rfl) ?_
      refine lv_aload_n hx hb dL_law_351 rfl (lv_at hl 3 rfl) ?_
      refine lv_iload_n hx hb dL_law_352 rfl (lv_at hl 0 rfl) ?_
      refine lv_iconst (v := 1) hx hb dL_law_353 (by decide +kernel) ?_
      refine lv_iadd hx hb dL_law_354 ?_
      refine xt_i (v := 1) (by decide +kernel) ?_
      refine va_sld hx hb hX hbl hbA hS (vin (by decide +kernel)) dL_law_355 ?_
      refine xt_i (v := xs 1) rfl ?_
      refine lv_aload_n hx hb dL_law_356 rfl (lv_at hl 3 rfl) ?_
      refine lv_iload_n hx hb dL_law_357 rfl (lv_at hl 0 rfl) ?_
      refine lv_iconst (v := 2) hx hb dL_law_358 (by decide +kernel) ?_
      refine lv_iadd hx hb dL_law_359 ?_
      refine xt_i (v := 2) (by decide +kernel) ?_
      refine va_sld hx hb hX hbl hbA hS (vin (by decide +kernel)) dL_law_360 ?_
      refine xt_i (v := xs 2) rfl ?_
      refine xc_core (wr := [(q_102, .inr (10, ((.ref q_103) :: (.ref q_104) :: (.int 0) :: (.int 0) :: (.int 0) :: (.int (-1)) :: (.int 0) :: (.int 0) :: (.int 0) :: (.int 0) :: (.long 0) :: (.ref q_105) :: (.ref q_106) :: (.ref q_107) :: (.ref q_108) :: (.ref q_109) :: (.ref q_110) :: (.ref q_111) :: (.ref q_112) :: (.ref q_113) :: (.ref q_114) :: (.ref q_115) :: (.ref q_116) :: (.ref q_117) :: (.ref q_118) :: (.ref q_119) :: (.ref q_120) :: (.ref q_121) :: (.ref q_122) :: (.ref q_123) :: (.ref q_124) :: (.ref q_125) :: (.ref q_126) :: (.ref q_127) :: (.ref q_128) :: (.ref q_129) :: (.ref q_130) :: (.ref q_131) :: (.ref q_132) :: (.ref q_133) :: (.ref q_134) :: (.int 0) :: (.int 0) :: (.int 0) :: (.int 0) :: (.int 0) :: (.int 0) :: (.int 0) :: (.int 0) :: (.int 0) :: (.ref q_135) :: (.ref q_136) :: (.int 0) :: (.ref q_137) :: (.int 0) :: (.int 0) :: (.int 0) :: (.int 0) :: (.int 0) :: (.int 0) :: (.ref q_138) :: (.int 0) :: (.ref q_139) :: (.ref q_140) :: (.ref q_141) :: (.ref q_142) :: (.ref q_143) :: (.ref q_144) :: (.ref q_145) :: (.ref q_146) :: (.ref q_147) :: (.ref q_148) :: (.int 0) :: (.int 0) :: (.ref q_149) :: (.ref q_150) :: []))), (q_107, .inl (cI, 2, .inl (lst [0, 0])))]) (k := 116) (n := 11963) (xc_runV (As := [.int (xs 1), .int (xs 2)]) (rest := []) hx hb hml hown hts hG hE hP hD hS hA [0, 1] (by decide) rfl (cX9_place_1 l D cB cI cJ cZ aK aV q_1 ((xs 1)) ((xs 2)) q_2 q_3 q_4 q_5 q_6 q_7 q_8 q_9 q_10 q_11 q_12 q_13 q_16 q_17 q_18 q_19 q_20 q_21 q_22 q_23 q_24 q_25) kw830 kw827 kw828 kw829 kw112 (show XD yX9_place 2 from by decide +kernel) (by decide) rfl rfl 0 rfl hl.1 rfl (Nat.le_of_ble_eq_true rfl) dL_law_361 (by decide)) hP hD hS hA [0, 1] [2, 3] rfl rfl (by decide) (by decide) (Nat.le_of_ble_eq_true rfl) (Nat.le_of_ble_eq_true rfl) (fun r w1 H locs hpost hP hD hS => ?_)
      obtain rfl := hpost
      have hP := hP.sub (ws' := [(q_102, .inr (10, ((.ref q_103) :: (.ref q_104) :: (.int 0) :: (.int 0) :: (.int 0) :: (.int (-1)) :: (.int 0) :: (.int 0) :: (.int 0) :: (.int 0) :: (.long 0) :: (.ref q_105) :: (.ref q_106) :: (.ref q_107) :: (.ref q_108) :: (.ref q_109) :: (.ref q_110) :: (.ref q_111) :: (.ref q_112) :: (.ref q_113) :: (.ref q_114) :: (.ref q_115) :: (.ref q_116) :: (.ref q_117) :: (.ref q_118) :: (.ref q_119) :: (.ref q_120) :: (.ref q_121) :: (.ref q_122) :: (.ref q_123) :: (.ref q_124) :: (.ref q_125) :: (.ref q_126) :: (.ref q_127) :: (.ref q_128) :: (.ref q_129) :: (.ref q_130) :: (.ref q_131) :: (.ref q_132) :: (.ref q_133) :: (.ref q_134) :: (.int 0) :: (.int 0) :: (.int 0) :: (.int 0) :: (.int 0) :: (.int 0) :: (.int 0) :: (.int 0) :: (.int 0) :: (.ref q_135) :: (.ref q_136) :: (.int 0) :: (.ref q_137) :: (.int 0) :: (.int 0) :: (.int 0) :: (.int 0) :: (.int 0) :: (.int 0) :: (.ref q_138) :: (.int 0) :: (.ref q_139) :: (.ref q_140) :: (.ref q_141) :: (.ref q_142) :: (.ref q_143) :: (.ref q_144) :: (.ref q_145) :: (.ref q_146) :: (.ref q_147) :: (.ref q_148) :: (.int 0) :: (.int 0) :: (.ref q_149) :: (.ref q_150) :: []))), (q_107, .inl (cI, 2, .inl (lst [0, 0])))]) [0, 1] rfl
      have hD := hD.sub (ws' := [(q_102, .inr (10, ((.ref q_103) :: (.ref q_104) :: (.int 0) :: (.int 0) :: (.int 0) :: (.int (-1)) :: (.int 0) :: (.int 0) :: (.int 0) :: (.int 0) :: (.long 0) :: (.ref q_105) :: (.ref q_106) :: (.ref q_107) :: (.ref q_108) :: (.ref q_109) :: (.ref q_110) :: (.ref q_111) :: (.ref q_112) :: (.ref q_113) :: (.ref q_114) :: (.ref q_115) :: (.ref q_116) :: (.ref q_117) :: (.ref q_118) :: (.ref q_119) :: (.ref q_120) :: (.ref q_121) :: (.ref q_122) :: (.ref q_123) :: (.ref q_124) :: (.ref q_125) :: (.ref q_126) :: (.ref q_127) :: (.ref q_128) :: (.ref q_129) :: (.ref q_130) :: (.ref q_131) :: (.ref q_132) :: (.ref q_133) :: (.ref q_134) :: (.int 0) :: (.int 0) :: (.int 0) :: (.int 0) :: (.int 0) :: (.int 0) :: (.int 0) :: (.int 0) :: (.int 0) :: (.ref q_135) :: (.ref q_136) :: (.int 0) :: (.ref q_137) :: (.int 0) :: (.int 0) :: (.int 0) :: (.int 0) :: (.int 0) :: (.int 0) :: (.ref q_138) :: (.int 0) :: (.ref q_139) :: (.ref q_140) :: (.ref q_141) :: (.ref q_142) :: (.ref q_143) :: (.ref q_144) :: (.ref q_145) :: (.ref q_146) :: (.ref q_147) :: (.ref q_148) :: (.int 0) :: (.int 0) :: (.ref q_149) :: (.ref q_150) :: []))), (q_107, .inl (cI, 2, .inl (lst [0, 0])))]) [0, 1] (by decide) rfl
      refine lv_aload_n hx hb dL_law_364 rfl (lv_at hl 1 rfl) ?_
      refine lv_aload_n hx hb dL_law_365 rfl (lv_at hl 3 rfl) ?_
      refine lv_iload_n hx hb dL_law_366 rfl (lv_at hl 0 rfl) ?_
      refine lv_iconst (v := 1) hx hb dL_law_367 (by decide +kernel) ?_
      refine lv_iadd hx hb dL_law_368 ?_
      refine xt_i (v := 1) (by decide +kernel) ?_
      refine va_sld hx hb hX hbl hbA hS (vin (by decide +kernel)) dL_law_369 ?_
      refine xt_i (v := xs 1) rfl ?_
      refine lv_aload_n hx hb dL_law_370 rfl (lv_at hl 3 rfl) ?_
      refine lv_iload_n hx hb dL_law_371 rfl (lv_at hl 0 rfl) ?_
      refine lv_iconst (v := 2) hx hb dL_law_372 (by decide +kernel) ?_
      refine lv_iadd hx hb dL_law_373 ?_
      refine xt_i (v := 2) (by decide +kernel) ?_
      refine va_sld hx hb hX hbl hbA hS (vin (by decide +kernel)) dL_law_374 ?_
      refine xt_i (v := xs 2) rfl ?_
      refine xc_core (wr := []) (k := 116) (n := 11963) (xc_runV (As := [.int (xs 1), .int (xs 2)]) (rest := [.int (-1000000000)]) hx hb hml hown hts hG hE hP hD hS hA [0, 1] (by decide) rfl (cX10_place_1 l D cB cI cJ cZ aK aV q_102 ((xs 1)) ((xs 2)) q_103 q_104 q_105 q_106 q_107 q_108 q_109 q_110 q_111 q_112 q_113 q_114 q_115 q_116 q_117 q_118 q_119 q_120 q_121 q_122 q_123 q_124 q_125 q_126 q_127 q_128 q_129 q_130 q_131 q_132 q_133 q_134 q_135 q_136 q_137 q_138 q_139 q_140 q_141 q_142 q_143 q_144 q_145 q_146 q_147 q_148 q_149 q_150) kw1676 kw1673 kw1674 kw1675 kw127 (show XD yX10_place 2 from by decide +kernel) (by decide) rfl rfl 0 rfl hl.1 rfl (Nat.le_of_ble_eq_true rfl) dL_law_375 (by decide)) hP hD hS hA [0, 1] [] rfl rfl (by decide) (by decide) (Nat.le_of_ble_eq_true rfl) (Nat.le_of_ble_eq_true rfl) (fun r w1 H locs hpost hP hD hS => ?_)
      obtain rfl := hpost
      have hP := hP.sub (ws' := []) [] rfl
      have hD := hD.sub (ws' := []) [] (by decide) rfl
      refine lv_icmp_eq (tgt := 1527) hx hb dL_law_378 (by decide) (fun _ => ?_) (fun h => absurd h (by decide +kernel))
      refine lv_iinc (v := 6) (lv' := [(3, .int 6), (2, .ref q_102), (1, .ref q_1), (0, .ref b)]) hx hb dL_law_1527 hl (k := 0) rfl (by decide +kernel) (by decide) rfl (fun ls hl => ?_)
      refine lv_goto (tgt := 18) hx hb dL_law_1530 (by decide) ?_
      refine lv_iload_n hx hb dL_law_18 rfl (lv_at hl 0 rfl) ?_
      refine lv_aload_n hx hb dL_law_19 rfl (lv_at hl 3 rfl) ?_
      refine va_slen hx hb hX hbl hbA hS dL_law_20 ?_
      refine xt_i (v := 6) (by decide +kernel) ?_
      refine lv_bipush (v := 6) hx hb dL_law_21 (by decide +kernel) ?_
      refine lv_isub hx hb dL_law_23 ?_
      refine xt_i (v := 0) (by decide +kernel) ?_
      refine lv_icmp_gt (tgt := 1533) hx hb dL_law_24 (by decide) (fun _ => ?_) (fun h => absurd h (by decide +kernel))
      refine lv_iconst (v := 1) hx hb dL_law_1533 (by decide +kernel) ?_
      refine va_forget (fun q hq => by have z := hS.2.2 q hq; rw [hAe] at z; exact z) ?_
      refine W.widen (k := 600000) (n := 7302250) (Nat.le_of_ble_eq_true rfl) (Nat.le_of_ble_eq_true rfl) ?_
      exact lw_ret hx hb hr hlocks dL_law_1534
    by_cases c_163 : v_157 = 5
    · subst c_163
      have hP := hP.sub (ws' := [(q_1, .inr (9, [.ref q_2, .ref q_3, .ref q_4, .ref q_5, .ref q_6, .ref q_7, .ref q_8, .ref q_9, .ref q_10, .ref q_11, .ref q_12, .ref q_13, .int 0])), (q_4, .inr (8, [.int 0, .int 0, .int 0, .ref q_16, .ref q_17, .ref q_18, .ref q_19, .ref q_20, .ref q_21, .ref q_22, .ref q_23, .ref q_24, .ref q_25, .int 0, .int 1, .int 0, .int 0, .int 0])), (q_102, .inr (10, ((.ref q_103) :: (.ref q_104) :: (.int 0) :: (.int 0) :: (.int 0) :: (.int (-1)) :: (.int 0) :: (.int 0) :: (.int 0) :: (.int 0) :: (.long 0) :: (.ref q_105) :: (.ref q_106) :: (.ref q_107) :: (.ref q_108) :: (.ref q_109) :: (.ref q_110) :: (.ref q_111) :: (.ref q_112) :: (.ref q_113) :: (.ref q_114) :: (.ref q_115) :: (.ref q_116) :: (.ref q_117) :: (.ref q_118) :: (.ref q_119) :: (.ref q_120) :: (.ref q_121) :: (.ref q_122) :: (.ref q_123) :: (.ref q_124) :: (.ref q_125) :: (.ref q_126) :: (.ref q_127) :: (.ref q_128) :: (.ref q_129) :: (.ref q_130) :: (.ref q_131) :: (.ref q_132) :: (.ref q_133) :: (.ref q_134) :: (.int 0) :: (.int 0) :: (.int 0) :: (.int 0) :: (.int 0) :: (.int 0) :: (.int 0) :: (.int 0) :: (.int 0) :: (.ref q_135) :: (.ref q_136) :: (.int 0) :: (.ref q_137) :: (.int 0) :: (.int 0) :: (.int 0) :: (.int 0) :: (.int 0) :: (.int 0) :: (.ref q_138) :: (.int 0) :: (.ref q_139) :: (.ref q_140) :: (.ref q_141) :: (.ref q_142) :: (.ref q_143) :: (.ref q_144) :: (.ref q_145) :: (.ref q_146) :: (.ref q_147) :: (.ref q_148) :: (.int 0) :: (.int 0) :: (.ref q_149) :: (.ref q_150) :: []))), (q_105, .inl (cI, 2, .inl (lst [0, 0])))]) [0, 3, 67, 70] rfl
      have hD := hD.sub (ws' := [(q_1, .inr (9, [.ref q_2, .ref q_3, .ref q_4, .ref q_5, .ref q_6, .ref q_7, .ref q_8, .ref q_9, .ref q_10, .ref q_11, .ref q_12, .ref q_13, .int 0])), (q_4, .inr (8, [.int 0, .int 0, .int 0, .ref q_16, .ref q_17, .ref q_18, .ref q_19, .ref q_20, .ref q_21, .ref q_22, .ref q_23, .ref q_24, .ref q_25, .int 0, .int 1, .int 0, .int 0, .int 0])), (q_102, .inr (10, ((.ref q_103) :: (.ref q_104) :: (.int 0) :: (.int 0) :: (.int 0) :: (.int (-1)) :: (.int 0) :: (.int 0) :: (.int 0) :: (.int 0) :: (.long 0) :: (.ref q_105) :: (.ref q_106) :: (.ref q_107) :: (.ref q_108) :: (.ref q_109) :: (.ref q_110) :: (.ref q_111) :: (.ref q_112) :: (.ref q_113) :: (.ref q_114) :: (.ref q_115) :: (.ref q_116) :: (.ref q_117) :: (.ref q_118) :: (.ref q_119) :: (.ref q_120) :: (.ref q_121) :: (.ref q_122) :: (.ref q_123) :: (.ref q_124) :: (.ref q_125) :: (.ref q_126) :: (.ref q_127) :: (.ref q_128) :: (.ref q_129) :: (.ref q_130) :: (.ref q_131) :: (.ref q_132) :: (.ref q_133) :: (.ref q_134) :: (.int 0) :: (.int 0) :: (.int 0) :: (.int 0) :: (.int 0) :: (.int 0) :: (.int 0) :: (.int 0) :: (.int 0) :: (.ref q_135) :: (.ref q_136) :: (.int 0) :: (.ref q_137) :: (.int 0) :: (.int 0) :: (.int 0) :: (.int 0) :: (.int 0) :: (.int 0) :: (.ref q_138) :: (.int 0) :: (.ref q_139) :: (.ref q_140) :: (.ref q_141) :: (.ref q_142) :: (.ref q_143) :: (.ref q_144) :: (.ref q_145) :: (.ref q_146) :: (.ref q_147) :: (.ref q_148) :: (.int 0) :: (.int 0) :: (.ref q_149) :: (.ref q_150) :: []))), (q_105, .inl (cI, 2, .inl (lst [0, 0])))]) [0, 3, 67, 70] (by decide) rfl
      refine lv_tableIn (off := 350) (tgt := 383) hx hb dL_law_33 (by decide) (by decide) (by decide +kernel) (by decide) ?_
      refine lv_aload_n hx hb dL_law_383 rfl (lv_at hl 2 rfl) ?_
      refine lv_aload_n hx hb dL_law_384 rfl (lv_at hl 3 rfl) ?_
      refine lv_iload_n hx hb dL_law_385 rfl (lv_at hl 0 rfl) ?_
      refine lv_iconst (v := 1) hx hb dL_law_386 (by decide +kernel) ?_
      refine lv_iadd hx hb dL_law_387 ?_
      refine xt_i (v := 1) (by decide +kernel) ?_
      refine va_sld hx hb hX hbl hbA hS (vin (by decide +kernel)) dL_law_388 ?_
      refine xt_i (v := xs 1) rfl ?_
      refine lv_aload_n hx hb dL_law_389 rfl (lv_at hl 3 rfl) ?_
      refine lv_iload_n hx hb dL_law_390 rfl (lv_at hl 0 rfl) ?_
      refine lv_iconst (v := 2) hx hb dL_law_391 (by decide +kernel) ?_
      refine lv_iadd hx hb dL_law_392 ?_
      refine xt_i (v := 2) (by decide +kernel) ?_
      refine va_sld hx hb hX hbl hbA hS (vin (by decide +kernel)) dL_law_393 ?_
      refine xt_i (v := xs 2) rfl ?_
      refine xc_core (wr := [(q_102, .inr (10, ((.ref q_103) :: (.ref q_104) :: (.int 0) :: (.int 0) :: (.int 0) :: (.int (-1)) :: (.int 0) :: (.int 0) :: (.int 0) :: (.int 0) :: (.long 0) :: (.ref q_105) :: (.ref q_106) :: (.ref q_107) :: (.ref q_108) :: (.ref q_109) :: (.ref q_110) :: (.ref q_111) :: (.ref q_112) :: (.ref q_113) :: (.ref q_114) :: (.ref q_115) :: (.ref q_116) :: (.ref q_117) :: (.ref q_118) :: (.ref q_119) :: (.ref q_120) :: (.ref q_121) :: (.ref q_122) :: (.ref q_123) :: (.ref q_124) :: (.ref q_125) :: (.ref q_126) :: (.ref q_127) :: (.ref q_128) :: (.ref q_129) :: (.ref q_130) :: (.ref q_131) :: (.ref q_132) :: (.ref q_133) :: (.ref q_134) :: (.int 0) :: (.int 0) :: (.int 0) :: (.int 0) :: (.int 0) :: (.int 0) :: (.int 0) :: (.int 0) :: (.int 0) :: (.ref q_135) :: (.ref q_136) :: (.int 0) :: (.ref q_137) :: (.int 0) :: (.int 0) :: (.int 0) :: (.int 0) :: (.int 0) :: (.int 0) :: (.ref q_138) :: (.int 0) :: (.ref q_139) :: (.ref q_140) :: (.ref q_141) :: (.ref q_142) :: (.ref q_143) :: (.ref q_144) :: (.ref q_145) :: (.ref q_146) :: (.ref q_147) :: (.ref q_148) :: (.int 0) :: (.int 0) :: (.ref q_149) :: (.ref q_150) :: []))), (q_105, .inl (cI, 2, .inl (lst [0, 0])))]) (k := 116) (n := 11963) (xc_runV (As := [.int (xs 1), .int (xs 2)]) (rest := []) hx hb hml hown hts hG hE hP hD hS hA [0, 1] (by decide) rfl (cX9_court_1 l D cB cI cJ cZ aK aV q_1 ((xs 1)) ((xs 2)) q_2 q_3 q_4 q_5 q_6 q_7 q_8 q_9 q_10 q_11 q_12 q_13 q_16 q_17 q_18 q_19 q_20 q_21 q_22 q_23 q_24 q_25) kw858 kw855 kw856 kw857 kw112 (show XD yX9_court 2 from by decide +kernel) (by decide) rfl rfl 0 rfl hl.1 rfl (Nat.le_of_ble_eq_true rfl) dL_law_394 (by decide)) hP hD hS hA [0, 1] [2, 3] rfl rfl (by decide) (by decide) (Nat.le_of_ble_eq_true rfl) (Nat.le_of_ble_eq_true rfl) (fun r w1 H locs hpost hP hD hS => ?_)
      obtain rfl := hpost
      have hP := hP.sub (ws' := [(q_102, .inr (10, ((.ref q_103) :: (.ref q_104) :: (.int 0) :: (.int 0) :: (.int 0) :: (.int (-1)) :: (.int 0) :: (.int 0) :: (.int 0) :: (.int 0) :: (.long 0) :: (.ref q_105) :: (.ref q_106) :: (.ref q_107) :: (.ref q_108) :: (.ref q_109) :: (.ref q_110) :: (.ref q_111) :: (.ref q_112) :: (.ref q_113) :: (.ref q_114) :: (.ref q_115) :: (.ref q_116) :: (.ref q_117) :: (.ref q_118) :: (.ref q_119) :: (.ref q_120) :: (.ref q_121) :: (.ref q_122) :: (.ref q_123) :: (.ref q_124) :: (.ref q_125) :: (.ref q_126) :: (.ref q_127) :: (.ref q_128) :: (.ref q_129) :: (.ref q_130) :: (.ref q_131) :: (.ref q_132) :: (.ref q_133) :: (.ref q_134) :: (.int 0) :: (.int 0) :: (.int 0) :: (.int 0) :: (.int 0) :: (.int 0) :: (.int 0) :: (.int 0) :: (.int 0) :: (.ref q_135) :: (.ref q_136) :: (.int 0) :: (.ref q_137) :: (.int 0) :: (.int 0) :: (.int 0) :: (.int 0) :: (.int 0) :: (.int 0) :: (.ref q_138) :: (.int 0) :: (.ref q_139) :: (.ref q_140) :: (.ref q_141) :: (.ref q_142) :: (.ref q_143) :: (.ref q_144) :: (.ref q_145) :: (.ref q_146) :: (.ref q_147) :: (.ref q_148) :: (.int 0) :: (.int 0) :: (.ref q_149) :: (.ref q_150) :: []))), (q_105, .inl (cI, 2, .inl (lst [0, 0])))]) [0, 1] rfl
      have hD := hD.sub (ws' := [(q_102, .inr (10, ((.ref q_103) :: (.ref q_104) :: (.int 0) :: (.int 0) :: (.int 0) :: (.int (-1)) :: (.int 0) :: (.int 0) :: (.int 0) :: (.int 0) :: (.long 0) :: (.ref q_105) :: (.ref q_106) :: (.ref q_107) :: (.ref q_108) :: (.ref q_109) :: (.ref q_110) :: (.ref q_111) :: (.ref q_112) :: (.ref q_113) :: (.ref q_114) :: (.ref q_115) :: (.ref q_116) :: (.ref q_117) :: (.ref q_118) :: (.ref q_119) :: (.ref q_120) :: (.ref q_121) :: (.ref q_122) :: (.ref q_123) :: (.ref q_124) :: (.ref q_125) :: (.ref q_126) :: (.ref q_127) :: (.ref q_128) :: (.ref q_129) :: (.ref q_130) :: (.ref q_131) :: (.ref q_132) :: (.ref q_133) :: (.ref q_134) :: (.int 0) :: (.int 0) :: (.int 0) :: (.int 0) :: (.int 0) :: (.int 0) :: (.int 0) :: (.int 0) :: (.int 0) :: (.ref q_135) :: (.ref q_136) :: (.int 0) :: (.ref q_137) :: (.int 0) :: (.int 0) :: (.int 0) :: (.int 0) :: (.int 0) :: (.int 0) :: (.ref q_138) :: (.int 0) :: (.ref q_139) :: (.ref q_140) :: (.ref q_141) :: (.ref q_142) :: (.ref q_143) :: (.ref q_144) :: (.ref q_145) :: (.ref q_146) :: (.ref q_147) :: (.ref q_148) :: (.int 0) :: (.int 0) :: (.ref q_149) :: (.ref q_150) :: []))), (q_105, .inl (cI, 2, .inl (lst [0, 0])))]) [0, 1] (by decide) rfl
      refine lv_aload_n hx hb dL_law_397 rfl (lv_at hl 1 rfl) ?_
      refine lv_aload_n hx hb dL_law_398 rfl (lv_at hl 3 rfl) ?_
      refine lv_iload_n hx hb dL_law_399 rfl (lv_at hl 0 rfl) ?_
      refine lv_iconst (v := 1) hx hb dL_law_400 (by decide +kernel) ?_
      refine lv_iadd hx hb dL_law_401 ?_
      refine xt_i (v := 1) (by decide +kernel) ?_
      refine va_sld hx hb hX hbl hbA hS (vin (by decide +kernel)) dL_law_402 ?_
      refine xt_i (v := xs 1) rfl ?_
      refine lv_aload_n hx hb dL_law_403 rfl (lv_at hl 3 rfl) ?_
      refine lv_iload_n hx hb dL_law_404 rfl (lv_at hl 0 rfl) ?_
      refine lv_iconst (v := 2) hx hb dL_law_405 (by decide +kernel) ?_
      refine lv_iadd hx hb dL_law_406 ?_
      refine xt_i (v := 2) (by decide +kernel) ?_
      refine va_sld hx hb hX hbl hbA hS (vin (by decide +kernel)) dL_law_407 ?_
      refine xt_i (v := xs 2) rfl ?_
      refine xc_core (wr := []) (k := 116) (n := 11963) (xc_runV (As := [.int (xs 1), .int (xs 2)]) (rest := [.int (-1000000000)]) hx hb hml hown hts hG hE hP hD hS hA [0, 1] (by decide) rfl (cX10_court_1 l D cB cI cJ cZ aK aV q_102 ((xs 1)) ((xs 2)) q_103 q_104 q_105 q_106 q_107 q_108 q_109 q_110 q_111 q_112 q_113 q_114 q_115 q_116 q_117 q_118 q_119 q_120 q_121 q_122 q_123 q_124 q_125 q_126 q_127 q_128 q_129 q_130 q_131 q_132 q_133 q_134 q_135 q_136 q_137 q_138 q_139 q_140 q_141 q_142 q_143 q_144 q_145 q_146 q_147 q_148 q_149 q_150) kw1703 kw1700 kw1701 kw1702 kw127 (show XD yX10_court 2 from by decide +kernel) (by decide) rfl rfl 0 rfl hl.1 rfl (Nat.le_of_ble_eq_true rfl) dL_law_408 (by decide)) hP hD hS hA [0, 1] [] rfl rfl (by decide) (by decide) (Nat.le_of_ble_eq_true rfl) (Nat.le_of_ble_eq_true rfl) (fun r w1 H locs hpost hP hD hS => ?_)
      obtain rfl := hpost
      have hP := hP.sub (ws' := []) [] rfl
      have hD := hD.sub (ws' := []) [] (by decide) rfl
      refine lv_icmp_eq (tgt := 1527) hx hb dL_law_411 (by decide) (fun _ => ?_) (fun h => absurd h (by decide +kernel))
      refine lv_iinc (v := 6) (lv' := [(3, .int 6), (2, .ref q_102), (1, .ref q_1), (0, .ref b)]) hx hb dL_law_1527 hl (k := 0) rfl (by decide +kernel) (by decide) rfl (fun ls hl => ?_)
      refine lv_goto (tgt := 18) hx hb dL_law_1530 (by decide) ?_
      refine lv_iload_n hx hb dL_law_18 rfl (lv_at hl 0 rfl) ?_
      refine lv_aload_n hx hb dL_law_19 rfl (lv_at hl 3 rfl) ?_
      refine va_slen hx hb hX hbl hbA hS dL_law_20 ?_
      refine xt_i (v := 6) (by decide +kernel) ?_
      refine lv_bipush (v := 6) hx hb dL_law_21 (by decide +kernel) ?_
      refine lv_isub hx hb dL_law_23 ?_
      refine xt_i (v := 0) (by decide +kernel) ?_
      refine lv_icmp_gt (tgt := 1533) hx hb dL_law_24 (by decide) (fun _ => ?_) (fun h => absurd h (by decide +kernel))
      refine lv_iconst (v := 1) hx hb dL_law_1533 (by decide +kernel) ?_
      refine va_forget (fun q hq => by have z := hS.2.2 q hq; rw [hAe] at z; exact z) ?_
      refine W.widen (k := 600000) (n := 7302250) (Nat.le_of_ble_eq_true rfl) (Nat.le_of_ble_eq_true rfl) ?_
      exact lw_ret hx hb hr hlocks dL_law_1534
    by_cases c_164 : v_157 = 6
    · subst c_164
      have hP := hP.sub (ws' := [(q_1, .inr (9, [.ref q_2, .ref q_3, .ref q_4, .ref q_5, .ref q_6, .ref q_7, .ref q_8, .ref q_9, .ref q_10, .ref q_11, .ref q_12, .ref q_13, .int 0])), (q_4, .inr (8, [.int 0, .int 0, .int 0, .ref q_16, .ref q_17, .ref q_18, .ref q_19, .ref q_20, .ref q_21, .ref q_22, .ref q_23, .ref q_24, .ref q_25, .int 0, .int 1, .int 0, .int 0, .int 0])), (q_102, .inr (10, ((.ref q_103) :: (.ref q_104) :: (.int 0) :: (.int 0) :: (.int 0) :: (.int (-1)) :: (.int 0) :: (.int 0) :: (.int 0) :: (.int 0) :: (.long 0) :: (.ref q_105) :: (.ref q_106) :: (.ref q_107) :: (.ref q_108) :: (.ref q_109) :: (.ref q_110) :: (.ref q_111) :: (.ref q_112) :: (.ref q_113) :: (.ref q_114) :: (.ref q_115) :: (.ref q_116) :: (.ref q_117) :: (.ref q_118) :: (.ref q_119) :: (.ref q_120) :: (.ref q_121) :: (.ref q_122) :: (.ref q_123) :: (.ref q_124) :: (.ref q_125) :: (.ref q_126) :: (.ref q_127) :: (.ref q_128) :: (.ref q_129) :: (.ref q_130) :: (.ref q_131) :: (.ref q_132) :: (.ref q_133) :: (.ref q_134) :: (.int 0) :: (.int 0) :: (.int 0) :: (.int 0) :: (.int 0) :: (.int 0) :: (.int 0) :: (.int 0) :: (.int 0) :: (.ref q_135) :: (.ref q_136) :: (.int 0) :: (.ref q_137) :: (.int 0) :: (.int 0) :: (.int 0) :: (.int 0) :: (.int 0) :: (.int 0) :: (.ref q_138) :: (.int 0) :: (.ref q_139) :: (.ref q_140) :: (.ref q_141) :: (.ref q_142) :: (.ref q_143) :: (.ref q_144) :: (.ref q_145) :: (.ref q_146) :: (.ref q_147) :: (.ref q_148) :: (.int 0) :: (.int 0) :: (.ref q_149) :: (.ref q_150) :: []))), (q_106, .inl (cI, 2, .inl (lst [0, 0])))]) [0, 3, 67, 71] rfl
      have hD := hD.sub (ws' := [(q_1, .inr (9, [.ref q_2, .ref q_3, .ref q_4, .ref q_5, .ref q_6, .ref q_7, .ref q_8, .ref q_9, .ref q_10, .ref q_11, .ref q_12, .ref q_13, .int 0])), (q_4, .inr (8, [.int 0, .int 0, .int 0, .ref q_16, .ref q_17, .ref q_18, .ref q_19, .ref q_20, .ref q_21, .ref q_22, .ref q_23, .ref q_24, .ref q_25, .int 0, .int 1, .int 0, .int 0, .int 0])), (q_102, .inr (10, ((.ref q_103) :: (.ref q_104) :: (.int 0) :: (.int 0) :: (.int 0) :: (.int (-1)) :: (.int 0) :: (.int 0) :: (.int 0) :: (.int 0) :: (.long 0) :: (.ref q_105) :: (.ref q_106) :: (.ref q_107) :: (.ref q_108) :: (.ref q_109) :: (.ref q_110) :: (.ref q_111) :: (.ref q_112) :: (.ref q_113) :: (.ref q_114) :: (.ref q_115) :: (.ref q_116) :: (.ref q_117) :: (.ref q_118) :: (.ref q_119) :: (.ref q_120) :: (.ref q_121) :: (.ref q_122) :: (.ref q_123) :: (.ref q_124) :: (.ref q_125) :: (.ref q_126) :: (.ref q_127) :: (.ref q_128) :: (.ref q_129) :: (.ref q_130) :: (.ref q_131) :: (.ref q_132) :: (.ref q_133) :: (.ref q_134) :: (.int 0) :: (.int 0) :: (.int 0) :: (.int 0) :: (.int 0) :: (.int 0) :: (.int 0) :: (.int 0) :: (.int 0) :: (.ref q_135) :: (.ref q_136) :: (.int 0) :: (.ref q_137) :: (.int 0) :: (.int 0) :: (.int 0) :: (.int 0) :: (.int 0) :: (.int 0) :: (.ref q_138) :: (.int 0) :: (.ref q_139) :: (.ref q_140) :: (.ref q_141) :: (.ref q_142) :: (.ref q_143) :: (.ref q_144) :: (.ref q_145) :: (.ref q_146) :: (.ref q_147) :: (.ref q_148) :: (.int 0) :: (.int 0) :: (.ref q_149) :: (.ref q_150) :: []))), (q_106, .inl (cI, 2, .inl (lst [0, 0])))]) [0, 3, 67, 71] (by decide) rfl
      refine lv_tableIn (off := 383) (tgt := 416) hx hb dL_law_33 (by decide) (by decide) (by decide +kernel) (by decide) ?_
      refine lv_aload_n hx hb dL_law_416 rfl (lv_at hl 2 rfl) ?_
      refine lv_aload_n hx hb dL_law_417 rfl (lv_at hl 3 rfl) ?_
      refine lv_iload_n hx hb dL_law_418 rfl (lv_at hl 0 rfl) ?_
      refine lv_iconst (v := 1) hx hb dL_law_419 (by decide +kernel) ?_
      refine lv_iadd hx hb dL_law_420 ?_
      refine xt_i (v := 1) (by decide +kernel) ?_
      refine va_sld hx hb hX hbl hbA hS (vin (by decide +kernel)) dL_law_421 ?_
      refine xt_i (v := xs 1) rfl ?_
      refine lv_aload_n hx hb dL_law_422 rfl (lv_at hl 3 rfl) ?_
      refine lv_iload_n hx hb dL_law_423 rfl (lv_at hl 0 rfl) ?_
      refine lv_iconst (v := 2) hx hb dL_law_424 (by decide +kernel) ?_
      refine lv_iadd hx hb dL_law_425 ?_
      refine xt_i (v := 2) (by decide +kernel) ?_
      refine va_sld hx hb hX hbl hbA hS (vin (by decide +kernel)) dL_law_426 ?_
      refine xt_i (v := xs 2) rfl ?_
      refine xc_core (wr := [(q_102, .inr (10, ((.ref q_103) :: (.ref q_104) :: (.int 0) :: (.int 0) :: (.int 0) :: (.int (-1)) :: (.int 0) :: (.int 0) :: (.int 0) :: (.int 0) :: (.long 0) :: (.ref q_105) :: (.ref q_106) :: (.ref q_107) :: (.ref q_108) :: (.ref q_109) :: (.ref q_110) :: (.ref q_111) :: (.ref q_112) :: (.ref q_113) :: (.ref q_114) :: (.ref q_115) :: (.ref q_116) :: (.ref q_117) :: (.ref q_118) :: (.ref q_119) :: (.ref q_120) :: (.ref q_121) :: (.ref q_122) :: (.ref q_123) :: (.ref q_124) :: (.ref q_125) :: (.ref q_126) :: (.ref q_127) :: (.ref q_128) :: (.ref q_129) :: (.ref q_130) :: (.ref q_131) :: (.ref q_132) :: (.ref q_133) :: (.ref q_134) :: (.int 0) :: (.int 0) :: (.int 0) :: (.int 0) :: (.int 0) :: (.int 0) :: (.int 0) :: (.int 0) :: (.int 0) :: (.ref q_135) :: (.ref q_136) :: (.int 0) :: (.ref q_137) :: (.int 0) :: (.int 0) :: (.int 0) :: (.int 0) :: (.int 0) :: (.int 0) :: (.ref q_138) :: (.int 0) :: (.ref q_139) :: (.ref q_140) :: (.ref q_141) :: (.ref q_142) :: (.ref q_143) :: (.ref q_144) :: (.ref q_145) :: (.ref q_146) :: (.ref q_147) :: (.ref q_148) :: (.int 0) :: (.int 0) :: (.ref q_149) :: (.ref q_150) :: []))), (q_106, .inl (cI, 2, .inl (lst [0, 0])))]) (k := 116) (n := 11963) (xc_runV (As := [.int (xs 1), .int (xs 2)]) (rest := []) hx hb hml hown hts hG hE hP hD hS hA [0, 1] (by decide) rfl (cX9_crop_1 l D cB cI cJ cZ aK aV q_1 ((xs 1)) ((xs 2)) q_2 q_3 q_4 q_5 q_6 q_7 q_8 q_9 q_10 q_11 q_12 q_13 q_16 q_17 q_18 q_19 q_20 q_21 q_22 q_23 q_24 q_25) kw921 kw918 kw919 kw920 kw112 (show XD yX9_crop 2 from by decide +kernel) (by decide) rfl rfl 0 rfl hl.1 rfl (Nat.le_of_ble_eq_true rfl) dL_law_427 (by decide)) hP hD hS hA [0, 1] [2, 3] rfl rfl (by decide) (by decide) (Nat.le_of_ble_eq_true rfl) (Nat.le_of_ble_eq_true rfl) (fun r w1 H locs hpost hP hD hS => ?_)
      obtain rfl := hpost
      have hP := hP.sub (ws' := [(q_102, .inr (10, ((.ref q_103) :: (.ref q_104) :: (.int 0) :: (.int 0) :: (.int 0) :: (.int (-1)) :: (.int 0) :: (.int 0) :: (.int 0) :: (.int 0) :: (.long 0) :: (.ref q_105) :: (.ref q_106) :: (.ref q_107) :: (.ref q_108) :: (.ref q_109) :: (.ref q_110) :: (.ref q_111) :: (.ref q_112) :: (.ref q_113) :: (.ref q_114) :: (.ref q_115) :: (.ref q_116) :: (.ref q_117) :: (.ref q_118) :: (.ref q_119) :: (.ref q_120) :: (.ref q_121) :: (.ref q_122) :: (.ref q_123) :: (.ref q_124) :: (.ref q_125) :: (.ref q_126) :: (.ref q_127) :: (.ref q_128) :: (.ref q_129) :: (.ref q_130) :: (.ref q_131) :: (.ref q_132) :: (.ref q_133) :: (.ref q_134) :: (.int 0) :: (.int 0) :: (.int 0) :: (.int 0) :: (.int 0) :: (.int 0) :: (.int 0) :: (.int 0) :: (.int 0) :: (.ref q_135) :: (.ref q_136) :: (.int 0) :: (.ref q_137) :: (.int 0) :: (.int 0) :: (.int 0) :: (.int 0) :: (.int 0) :: (.int 0) :: (.ref q_138) :: (.int 0) :: (.ref q_139) :: (.ref q_140) :: (.ref q_141) :: (.ref q_142) :: (.ref q_143) :: (.ref q_144) :: (.ref q_145) :: (.ref q_146) :: (.ref q_147) :: (.ref q_148) :: (.int 0) :: (.int 0) :: (.ref q_149) :: (.ref q_150) :: []))), (q_106, .inl (cI, 2, .inl (lst [0, 0])))]) [0, 1] rfl
      have hD := hD.sub (ws' := [(q_102, .inr (10, ((.ref q_103) :: (.ref q_104) :: (.int 0) :: (.int 0) :: (.int 0) :: (.int (-1)) :: (.int 0) :: (.int 0) :: (.int 0) :: (.int 0) :: (.long 0) :: (.ref q_105) :: (.ref q_106) :: (.ref q_107) :: (.ref q_108) :: (.ref q_109) :: (.ref q_110) :: (.ref q_111) :: (.ref q_112) :: (.ref q_113) :: (.ref q_114) :: (.ref q_115) :: (.ref q_116) :: (.ref q_117) :: (.ref q_118) :: (.ref q_119) :: (.ref q_120) :: (.ref q_121) :: (.ref q_122) :: (.ref q_123) :: (.ref q_124) :: (.ref q_125) :: (.ref q_126) :: (.ref q_127) :: (.ref q_128) :: (.ref q_129) :: (.ref q_130) :: (.ref q_131) :: (.ref q_132) :: (.ref q_133) :: (.ref q_134) :: (.int 0) :: (.int 0) :: (.int 0) :: (.int 0) :: (.int 0) :: (.int 0) :: (.int 0) :: (.int 0) :: (.int 0) :: (.ref q_135) :: (.ref q_136) :: (.int 0) :: (.ref q_137) :: (.int 0) :: (.int 0) :: (.int 0) :: (.int 0) :: (.int 0) :: (.int 0) :: (.ref q_138) :: (.int 0) :: (.ref q_139) :: (.ref q_140) :: (.ref q_141) :: (.ref q_142) :: (.ref q_143) :: (.ref q_144) :: (.ref q_145) :: (.ref q_146) :: (.ref q_147) :: (.ref q_148) :: (.int 0) :: (.int 0) :: (.ref q_149) :: (.ref q_150) :: []))), (q_106, .inl (cI, 2, .inl (lst [0, 0])))]) [0, 1] (by decide) rfl
      refine lv_aload_n hx hb dL_law_430 rfl (lv_at hl 1 rfl) ?_
      refine lv_aload_n hx hb dL_law_431 rfl (lv_at hl 3 rfl) ?_
      refine lv_iload_n hx hb dL_law_432 rfl (lv_at hl 0 rfl) ?_
      refine lv_iconst (v := 1) hx hb dL_law_433 (by decide +kernel) ?_
      refine lv_iadd hx hb dL_law_434 ?_
      refine xt_i (v := 1) (by decide +kernel) ?_
      refine va_sld hx hb hX hbl hbA hS (vin (by decide +kernel)) dL_law_435 ?_
      refine xt_i (v := xs 1) rfl ?_
      refine lv_aload_n hx hb dL_law_436 rfl (lv_at hl 3 rfl) ?_
      refine lv_iload_n hx hb dL_law_437 rfl (lv_at hl 0 rfl) ?_
      refine lv_iconst (v := 2) hx hb dL_law_438 (by decide +kernel) ?_
      refine lv_iadd hx hb dL_law_439 ?_
      refine xt_i (v := 2) (by decide +kernel) ?_
      refine va_sld hx hb hX hbl hbA hS (vin (by decide +kernel)) dL_law_440 ?_
      refine xt_i (v := xs 2) rfl ?_
      refine xc_core (wr := []) (k := 116) (n := 11963) (xc_runV (As := [.int (xs 1), .int (xs 2)]) (rest := [.int (-1)]) hx hb hml hown hts hG hE hP hD hS hA [0, 1] (by decide) rfl (cX10_crop_1 l D cB cI cJ cZ aK aV q_102 ((xs 1)) ((xs 2)) q_103 q_104 q_105 q_106 q_107 q_108 q_109 q_110 q_111 q_112 q_113 q_114 q_115 q_116 q_117 q_118 q_119 q_120 q_121 q_122 q_123 q_124 q_125 q_126 q_127 q_128 q_129 q_130 q_131 q_132 q_133 q_134 q_135 q_136 q_137 q_138 q_139 q_140 q_141 q_142 q_143 q_144 q_145 q_146 q_147 q_148 q_149 q_150) kw1746 kw1743 kw1744 kw1745 kw127 (show XD yX10_crop 2 from by decide +kernel) (by decide) rfl rfl 0 rfl hl.1 rfl (Nat.le_of_ble_eq_true rfl) dL_law_441 (by decide)) hP hD hS hA [0, 1] [] rfl rfl (by decide) (by decide) (Nat.le_of_ble_eq_true rfl) (Nat.le_of_ble_eq_true rfl) (fun r w1 H locs hpost hP hD hS => ?_)
      obtain rfl := hpost
      have hP := hP.sub (ws' := []) [] rfl
      have hD := hD.sub (ws' := []) [] (by decide) rfl
      refine lv_icmp_eq (tgt := 1527) hx hb dL_law_444 (by decide) (fun _ => ?_) (fun h => absurd h (by decide +kernel))
      refine lv_iinc (v := 6) (lv' := [(3, .int 6), (2, .ref q_102), (1, .ref q_1), (0, .ref b)]) hx hb dL_law_1527 hl (k := 0) rfl (by decide +kernel) (by decide) rfl (fun ls hl => ?_)
      refine lv_goto (tgt := 18) hx hb dL_law_1530 (by decide) ?_
      refine lv_iload_n hx hb dL_law_18 rfl (lv_at hl 0 rfl) ?_
      refine lv_aload_n hx hb dL_law_19 rfl (lv_at hl 3 rfl) ?_
      refine va_slen hx hb hX hbl hbA hS dL_law_20 ?_
      refine xt_i (v := 6) (by decide +kernel) ?_
      refine lv_bipush (v := 6) hx hb dL_law_21 (by decide +kernel) ?_
      refine lv_isub hx hb dL_law_23 ?_
      refine xt_i (v := 0) (by decide +kernel) ?_
      refine lv_icmp_gt (tgt := 1533) hx hb dL_law_24 (by decide) (fun _ => ?_) (fun h => absurd h (by decide +kernel))
      refine lv_iconst (v := 1) hx hb dL_law_1533 (by decide +kernel) ?_
      refine va_forget (fun q hq => by have z := hS.2.2 q hq; rw [hAe] at z; exact z) ?_
      refine W.widen (k := 600000) (n := 7302250) (Nat.le_of_ble_eq_true rfl) (Nat.le_of_ble_eq_true rfl) ?_
      exact lw_ret hx hb hr hlocks dL_law_1534
    by_cases c_165 : v_157 = 7
    · subst c_165
      have hP := hP.sub (ws' := [(q_1, .inr (9, [.ref q_2, .ref q_3, .ref q_4, .ref q_5, .ref q_6, .ref q_7, .ref q_8, .ref q_9, .ref q_10, .ref q_11, .ref q_12, .ref q_13, .int 0])), (q_4, .inr (8, [.int 0, .int 0, .int 0, .ref q_16, .ref q_17, .ref q_18, .ref q_19, .ref q_20, .ref q_21, .ref q_22, .ref q_23, .ref q_24, .ref q_25, .int 0, .int 1, .int 0, .int 0, .int 0])), (q_102, .inr (10, ((.ref q_103) :: (.ref q_104) :: (.int 0) :: (.int 0) :: (.int 0) :: (.int (-1)) :: (.int 0) :: (.int 0) :: (.int 0) :: (.int 0) :: (.long 0) :: (.ref q_105) :: (.ref q_106) :: (.ref q_107) :: (.ref q_108) :: (.ref q_109) :: (.ref q_110) :: (.ref q_111) :: (.ref q_112) :: (.ref q_113) :: (.ref q_114) :: (.ref q_115) :: (.ref q_116) :: (.ref q_117) :: (.ref q_118) :: (.ref q_119) :: (.ref q_120) :: (.ref q_121) :: (.ref q_122) :: (.ref q_123) :: (.ref q_124) :: (.ref q_125) :: (.ref q_126) :: (.ref q_127) :: (.ref q_128) :: (.ref q_129) :: (.ref q_130) :: (.ref q_131) :: (.ref q_132) :: (.ref q_133) :: (.ref q_134) :: (.int 0) :: (.int 0) :: (.int 0) :: (.int 0) :: (.int 0) :: (.int 0) :: (.int 0) :: (.int 0) :: (.int 0) :: (.ref q_135) :: (.ref q_136) :: (.int 0) :: (.ref q_137) :: (.int 0) :: (.int 0) :: (.int 0) :: (.int 0) :: (.int 0) :: (.int 0) :: (.ref q_138) :: (.int 0) :: (.ref q_139) :: (.ref q_140) :: (.ref q_141) :: (.ref q_142) :: (.ref q_143) :: (.ref q_144) :: (.ref q_145) :: (.ref q_146) :: (.ref q_147) :: (.ref q_148) :: (.int 0) :: (.int 0) :: (.ref q_149) :: (.ref q_150) :: []))), (q_105, .inl (cI, 2, .inl (lst [0, 0])))]) [0, 3, 67, 70] rfl
      have hD := hD.sub (ws' := [(q_1, .inr (9, [.ref q_2, .ref q_3, .ref q_4, .ref q_5, .ref q_6, .ref q_7, .ref q_8, .ref q_9, .ref q_10, .ref q_11, .ref q_12, .ref q_13, .int 0])), (q_4, .inr (8, [.int 0, .int 0, .int 0, .ref q_16, .ref q_17, .ref q_18, .ref q_19, .ref q_20, .ref q_21, .ref q_22, .ref q_23, .ref q_24, .ref q_25, .int 0, .int 1, .int 0, .int 0, .int 0])), (q_102, .inr (10, ((.ref q_103) :: (.ref q_104) :: (.int 0) :: (.int 0) :: (.int 0) :: (.int (-1)) :: (.int 0) :: (.int 0) :: (.int 0) :: (.int 0) :: (.long 0) :: (.ref q_105) :: (.ref q_106) :: (.ref q_107) :: (.ref q_108) :: (.ref q_109) :: (.ref q_110) :: (.ref q_111) :: (.ref q_112) :: (.ref q_113) :: (.ref q_114) :: (.ref q_115) :: (.ref q_116) :: (.ref q_117) :: (.ref q_118) :: (.ref q_119) :: (.ref q_120) :: (.ref q_121) :: (.ref q_122) :: (.ref q_123) :: (.ref q_124) :: (.ref q_125) :: (.ref q_126) :: (.ref q_127) :: (.ref q_128) :: (.ref q_129) :: (.ref q_130) :: (.ref q_131) :: (.ref q_132) :: (.ref q_133) :: (.ref q_134) :: (.int 0) :: (.int 0) :: (.int 0) :: (.int 0) :: (.int 0) :: (.int 0) :: (.int 0) :: (.int 0) :: (.int 0) :: (.ref q_135) :: (.ref q_136) :: (.int 0) :: (.ref q_137) :: (.int 0) :: (.int 0) :: (.int 0) :: (.int 0) :: (.int 0) :: (.int 0) :: (.ref q_138) :: (.int 0) :: (.ref q_139) :: (.ref q_140) :: (.ref q_141) :: (.ref q_142) :: (.ref q_143) :: (.ref q_144) :: (.ref q_145) :: (.ref q_146) :: (.ref q_147) :: (.ref q_148) :: (.int 0) :: (.int 0) :: (.ref q_149) :: (.ref q_150) :: []))), (q_105, .inl (cI, 2, .inl (lst [0, 0])))]) [0, 3, 67, 70] (by decide) rfl
      refine lv_tableIn (off := 416) (tgt := 449) hx hb dL_law_33 (by decide) (by decide) (by decide +kernel) (by decide) ?_
      refine lv_aload_n hx hb dL_law_449 rfl (lv_at hl 2 rfl) ?_
      refine lv_aload_n hx hb dL_law_450 rfl (lv_at hl 3 rfl) ?_
      refine lv_iload_n hx hb dL_law_451 rfl (lv_at hl 0 rfl) ?_
      refine lv_iconst (v := 1) hx hb dL_law_452 (by decide +kernel) ?_
      refine lv_iadd hx hb dL_law_453 ?_
      refine xt_i (v := 1) (by decide +kernel) ?_
      refine va_sld hx hb hX hbl hbA hS (vin (by decide +kernel)) dL_law_454 ?_
      refine xt_i (v := xs 1) rfl ?_
      refine lv_aload_n hx hb dL_law_455 rfl (lv_at hl 3 rfl) ?_
      refine lv_iload_n hx hb dL_law_456 rfl (lv_at hl 0 rfl) ?_
      refine lv_iconst (v := 2) hx hb dL_law_457 (by decide +kernel) ?_
      refine lv_iadd hx hb dL_law_458 ?_
      refine xt_i (v := 2) (by decide +kernel) ?_
      refine va_sld hx hb hX hbl hbA hS (vin (by decide +kernel)) dL_law_459 ?_
      refine xt_i (v := xs 2) rfl ?_
      refine xc_core (wr := [(q_102, .inr (10, ((.ref q_103) :: (.ref q_104) :: (.int 0) :: (.int 0) :: (.int 0) :: (.int (-1)) :: (.int 0) :: (.int 0) :: (.int 0) :: (.int 0) :: (.long 0) :: (.ref q_105) :: (.ref q_106) :: (.ref q_107) :: (.ref q_108) :: (.ref q_109) :: (.ref q_110) :: (.ref q_111) :: (.ref q_112) :: (.ref q_113) :: (.ref q_114) :: (.ref q_115) :: (.ref q_116) :: (.ref q_117) :: (.ref q_118) :: (.ref q_119) :: (.ref q_120) :: (.ref q_121) :: (.ref q_122) :: (.ref q_123) :: (.ref q_124) :: (.ref q_125) :: (.ref q_126) :: (.ref q_127) :: (.ref q_128) :: (.ref q_129) :: (.ref q_130) :: (.ref q_131) :: (.ref q_132) :: (.ref q_133) :: (.ref q_134) :: (.int 0) :: (.int 0) :: (.int 0) :: (.int 0) :: (.int 0) :: (.int 0) :: (.int 0) :: (.int 0) :: (.int 0) :: (.ref q_135) :: (.ref q_136) :: (.int 0) :: (.ref q_137) :: (.int 0) :: (.int 0) :: (.int 0) :: (.int 0) :: (.int 0) :: (.int 0) :: (.ref q_138) :: (.int 0) :: (.ref q_139) :: (.ref q_140) :: (.ref q_141) :: (.ref q_142) :: (.ref q_143) :: (.ref q_144) :: (.ref q_145) :: (.ref q_146) :: (.ref q_147) :: (.ref q_148) :: (.int 0) :: (.int 0) :: (.ref q_149) :: (.ref q_150) :: []))), (q_105, .inl (cI, 2, .inl (lst [0, 0])))]) (k := 116) (n := 11963) (xc_runV (As := [.int (xs 1), .int (xs 2)]) (rest := []) hx hb hml hown hts hG hE hP hD hS hA [0, 1] (by decide) rfl (cX9_belief_1 l D cB cI cJ cZ aK aV q_1 ((xs 1)) ((xs 2)) q_2 q_3 q_4 q_5 q_6 q_7 q_8 q_9 q_10 q_11 q_12 q_13 q_16 q_17 q_18 q_19 q_20 q_21 q_22 q_23 q_24 q_25) kw934 kw931 kw932 kw933 kw112 (show XD yX9_belief 2 from by decide +kernel) (by decide) rfl rfl 0 rfl hl.1 rfl (Nat.le_of_ble_eq_true rfl) dL_law_460 (by decide)) hP hD hS hA [0, 1] [2, 3] rfl rfl (by decide) (by decide) (Nat.le_of_ble_eq_true rfl) (Nat.le_of_ble_eq_true rfl) (fun r w1 H locs hpost hP hD hS => ?_)
      obtain rfl := hpost
      have hP := hP.sub (ws' := [(q_102, .inr (10, ((.ref q_103) :: (.ref q_104) :: (.int 0) :: (.int 0) :: (.int 0) :: (.int (-1)) :: (.int 0) :: (.int 0) :: (.int 0) :: (.int 0) :: (.long 0) :: (.ref q_105) :: (.ref q_106) :: (.ref q_107) :: (.ref q_108) :: (.ref q_109) :: (.ref q_110) :: (.ref q_111) :: (.ref q_112) :: (.ref q_113) :: (.ref q_114) :: (.ref q_115) :: (.ref q_116) :: (.ref q_117) :: (.ref q_118) :: (.ref q_119) :: (.ref q_120) :: (.ref q_121) :: (.ref q_122) :: (.ref q_123) :: (.ref q_124) :: (.ref q_125) :: (.ref q_126) :: (.ref q_127) :: (.ref q_128) :: (.ref q_129) :: (.ref q_130) :: (.ref q_131) :: (.ref q_132) :: (.ref q_133) :: (.ref q_134) :: (.int 0) :: (.int 0) :: (.int 0) :: (.int 0) :: (.int 0) :: (.int 0) :: (.int 0) :: (.int 0) :: (.int 0) :: (.ref q_135) :: (.ref q_136) :: (.int 0) :: (.ref q_137) :: (.int 0) :: (.int 0) :: (.int 0) :: (.int 0) :: (.int 0) :: (.int 0) :: (.ref q_138) :: (.int 0) :: (.ref q_139) :: (.ref q_140) :: (.ref q_141) :: (.ref q_142) :: (.ref q_143) :: (.ref q_144) :: (.ref q_145) :: (.ref q_146) :: (.ref q_147) :: (.ref q_148) :: (.int 0) :: (.int 0) :: (.ref q_149) :: (.ref q_150) :: []))), (q_105, .inl (cI, 2, .inl (lst [0, 0])))]) [0, 1] rfl
      have hD := hD.sub (ws' := [(q_102, .inr (10, ((.ref q_103) :: (.ref q_104) :: (.int 0) :: (.int 0) :: (.int 0) :: (.int (-1)) :: (.int 0) :: (.int 0) :: (.int 0) :: (.int 0) :: (.long 0) :: (.ref q_105) :: (.ref q_106) :: (.ref q_107) :: (.ref q_108) :: (.ref q_109) :: (.ref q_110) :: (.ref q_111) :: (.ref q_112) :: (.ref q_113) :: (.ref q_114) :: (.ref q_115) :: (.ref q_116) :: (.ref q_117) :: (.ref q_118) :: (.ref q_119) :: (.ref q_120) :: (.ref q_121) :: (.ref q_122) :: (.ref q_123) :: (.ref q_124) :: (.ref q_125) :: (.ref q_126) :: (.ref q_127) :: (.ref q_128) :: (.ref q_129) :: (.ref q_130) :: (.ref q_131) :: (.ref q_132) :: (.ref q_133) :: (.ref q_134) :: (.int 0) :: (.int 0) :: (.int 0) :: (.int 0) :: (.int 0) :: (.int 0) :: (.int 0) :: (.int 0) :: (.int 0) :: (.ref q_135) :: (.ref q_136) :: (.int 0) :: (.ref q_137) :: (.int 0) :: (.int 0) :: (.int 0) :: (.int 0) :: (.int 0) :: (.int 0) :: (.ref q_138) :: (.int 0) :: (.ref q_139) :: (.ref q_140) :: (.ref q_141) :: (.ref q_142) :: (.ref q_143) :: (.ref q_144) :: (.ref q_145) :: (.ref q_146) :: (.ref q_147) :: (.ref q_148) :: (.int 0) :: (.int 0) :: (.ref q_149) :: (.ref q_150) :: []))), (q_105, .inl (cI, 2, .inl (lst [0, 0])))]) [0, 1] (by decide) rfl
      refine lv_aload_n hx hb dL_law_463 rfl (lv_at hl 1 rfl) ?_
      refine lv_aload_n hx hb dL_law_464 rfl (lv_at hl 3 rfl) ?_
      refine lv_iload_n hx hb dL_law_465 rfl (lv_at hl 0 rfl) ?_
      refine lv_iconst (v := 1) hx hb dL_law_466 (by decide +kernel) ?_
      refine lv_iadd hx hb dL_law_467 ?_
      refine xt_i (v := 1) (by decide +kernel) ?_
      refine va_sld hx hb hX hbl hbA hS (vin (by decide +kernel)) dL_law_468 ?_
      refine xt_i (v := xs 1) rfl ?_
      refine lv_aload_n hx hb dL_law_469 rfl (lv_at hl 3 rfl) ?_
      refine lv_iload_n hx hb dL_law_470 rfl (lv_at hl 0 rfl) ?_
      refine lv_iconst (v := 2) hx hb dL_law_471 (by decide +kernel) ?_
      refine lv_iadd hx hb dL_law_472 ?_
      refine xt_i (v := 2) (by decide +kernel) ?_
      refine va_sld hx hb hX hbl hbA hS (vin (by decide +kernel)) dL_law_473 ?_
      refine xt_i (v := xs 2) rfl ?_
      refine xc_core (wr := []) (k := 116) (n := 11963) (xc_runV (As := [.int (xs 1), .int (xs 2)]) (rest := [.int (-1)]) hx hb hml hown hts hG hE hP hD hS hA [0, 1] (by decide) rfl (cX10_belief_1 l D cB cI cJ cZ aK aV q_102 ((xs 1)) ((xs 2)) q_103 q_104 q_105 q_106 q_107 q_108 q_109 q_110 q_111 q_112 q_113 q_114 q_115 q_116 q_117 q_118 q_119 q_120 q_121 q_122 q_123 q_124 q_125 q_126 q_127 q_128 q_129 q_130 q_131 q_132 q_133 q_134 q_135 q_136 q_137 q_138 q_139 q_140 q_141 q_142 q_143 q_144 q_145 q_146 q_147 q_148 q_149 q_150) kw1758 kw1755 kw1756 kw1757 kw127 (show XD yX10_belief 2 from by decide +kernel) (by decide) rfl rfl 0 rfl hl.1 rfl (Nat.le_of_ble_eq_true rfl) dL_law_474 (by decide)) hP hD hS hA [0, 1] [] rfl rfl (by decide) (by decide) (Nat.le_of_ble_eq_true rfl) (Nat.le_of_ble_eq_true rfl) (fun r w1 H locs hpost hP hD hS => ?_)
      obtain rfl := hpost
      have hP := hP.sub (ws' := []) [] rfl
      have hD := hD.sub (ws' := []) [] (by decide) rfl
      refine lv_icmp_eq (tgt := 1527) hx hb dL_law_477 (by decide) (fun _ => ?_) (fun h => absurd h (by decide +kernel))
      refine lv_iinc (v := 6) (lv' := [(3, .int 6), (2, .ref q_102), (1, .ref q_1), (0, .ref b)]) hx hb dL_law_1527 hl (k := 0) rfl (by decide +kernel) (by decide) rfl (fun ls hl => ?_)
      refine lv_goto (tgt := 18) hx hb dL_law_1530 (by decide) ?_
      refine lv_iload_n hx hb dL_law_18 rfl (lv_at hl 0 rfl) ?_
      refine lv_aload_n hx hb dL_law_19 rfl (lv_at hl 3 rfl) ?_
      refine va_slen hx hb hX hbl hbA hS dL_law_20 ?_
      refine xt_i (v := 6) (by decide +kernel) ?_
      refine lv_bipush (v := 6) hx hb dL_law_21 (by decide +kernel) ?_
      refine lv_isub hx hb dL_law_23 ?_
      refine xt_i (v := 0) (by decide +kernel) ?_
      refine lv_icmp_gt (tgt := 1533) hx hb dL_law_24 (by decide) (fun _ => ?_) (fun h => absurd h (by decide +kernel))
      refine lv_iconst (v := 1) hx hb dL_law_1533 (by decide +kernel) ?_
      refine va_forget (fun q hq => by have z := hS.2.2 q hq; rw [hAe] at z; exact z) ?_
      refine W.widen (k := 600000) (n := 7302250) (Nat.le_of_ble_eq_true rfl) (Nat.le_of_ble_eq_true rfl) ?_
      exact lw_ret hx hb hr hlocks dL_law_1534
    by_cases c_166 : v_157 = 8
    · subst c_166
      have hP := hP.sub (ws' := [(q_1, .inr (9, [.ref q_2, .ref q_3, .ref q_4, .ref q_5, .ref q_6, .ref q_7, .ref q_8, .ref q_9, .ref q_10, .ref q_11, .ref q_12, .ref q_13, .int 0])), (q_4, .inr (8, [.int 0, .int 0, .int 0, .ref q_16, .ref q_17, .ref q_18, .ref q_19, .ref q_20, .ref q_21, .ref q_22, .ref q_23, .ref q_24, .ref q_25, .int 0, .int 1, .int 0, .int 0, .int 0])), (q_102, .inr (10, ((.ref q_103) :: (.ref q_104) :: (.int 0) :: (.int 0) :: (.int 0) :: (.int (-1)) :: (.int 0) :: (.int 0) :: (.int 0) :: (.int 0) :: (.long 0) :: (.ref q_105) :: (.ref q_106) :: (.ref q_107) :: (.ref q_108) :: (.ref q_109) :: (.ref q_110) :: (.ref q_111) :: (.ref q_112) :: (.ref q_113) :: (.ref q_114) :: (.ref q_115) :: (.ref q_116) :: (.ref q_117) :: (.ref q_118) :: (.ref q_119) :: (.ref q_120) :: (.ref q_121) :: (.ref q_122) :: (.ref q_123) :: (.ref q_124) :: (.ref q_125) :: (.ref q_126) :: (.ref q_127) :: (.ref q_128) :: (.ref q_129) :: (.ref q_130) :: (.ref q_131) :: (.ref q_132) :: (.ref q_133) :: (.ref q_134) :: (.int 0) :: (.int 0) :: (.int 0) :: (.int 0) :: (.int 0) :: (.int 0) :: (.int 0) :: (.int 0) :: (.int 0) :: (.ref q_135) :: (.ref q_136) :: (.int 0) :: (.ref q_137) :: (.int 0) :: (.int 0) :: (.int 0) :: (.int 0) :: (.int 0) :: (.int 0) :: (.ref q_138) :: (.int 0) :: (.ref q_139) :: (.ref q_140) :: (.ref q_141) :: (.ref q_142) :: (.ref q_143) :: (.ref q_144) :: (.ref q_145) :: (.ref q_146) :: (.ref q_147) :: (.ref q_148) :: (.int 0) :: (.int 0) :: (.ref q_149) :: (.ref q_150) :: []))), (q_105, .inl (cI, 2, .inl (lst [0, 0])))]) [0, 3, 67, 70] rfl
      have hD := hD.sub (ws' := [(q_1, .inr (9, [.ref q_2, .ref q_3, .ref q_4, .ref q_5, .ref q_6, .ref q_7, .ref q_8, .ref q_9, .ref q_10, .ref q_11, .ref q_12, .ref q_13, .int 0])), (q_4, .inr (8, [.int 0, .int 0, .int 0, .ref q_16, .ref q_17, .ref q_18, .ref q_19, .ref q_20, .ref q_21, .ref q_22, .ref q_23, .ref q_24, .ref q_25, .int 0, .int 1, .int 0, .int 0, .int 0])), (q_102, .inr (10, ((.ref q_103) :: (.ref q_104) :: (.int 0) :: (.int 0) :: (.int 0) :: (.int (-1)) :: (.int 0) :: (.int 0) :: (.int 0) :: (.int 0) :: (.long 0) :: (.ref q_105) :: (.ref q_106) :: (.ref q_107) :: (.ref q_108) :: (.ref q_109) :: (.ref q_110) :: (.ref q_111) :: (.ref q_112) :: (.ref q_113) :: (.ref q_114) :: (.ref q_115) :: (.ref q_116) :: (.ref q_117) :: (.ref q_118) :: (.ref q_119) :: (.ref q_120) :: (.ref q_121) :: (.ref q_122) :: (.ref q_123) :: (.ref q_124) :: (.ref q_125) :: (.ref q_126) :: (.ref q_127) :: (.ref q_128) :: (.ref q_129) :: (.ref q_130) :: (.ref q_131) :: (.ref q_132) :: (.ref q_133) :: (.ref q_134) :: (.int 0) :: (.int 0) :: (.int 0) :: (.int 0) :: (.int 0) :: (.int 0) :: (.int 0) :: (.int 0) :: (.int 0) :: (.ref q_135) :: (.ref q_136) :: (.int 0) :: (.ref q_137) :: (.int 0) :: (.int 0) :: (.int 0) :: (.int 0) :: (.int 0) :: (.int 0) :: (.ref q_138) :: (.int 0) :: (.ref q_139) :: (.ref q_140) :: (.ref q_141) :: (.ref q_142) :: (.ref q_143) :: (.ref q_144) :: (.ref q_145) :: (.ref q_146) :: (.ref q_147) :: (.ref q_148) :: (.int 0) :: (.int 0) :: (.ref q_149) :: (.ref q_150) :: []))), (q_105, .inl (cI, 2, .inl (lst [0, 0])))]) [0, 3, 67, 70] (by decide) rfl
      refine lv_tableIn (off := 449) (tgt := 482) hx hb dL_law_33 (by decide) (by decide) (by decide +kernel) (by decide) ?_
      refine lv_aload_n hx hb dL_law_482 rfl (lv_at hl 2 rfl) ?_
      refine lv_aload_n hx hb dL_law_483 rfl (lv_at hl 3 rfl) ?_
      refine lv_iload_n hx hb dL_law_484 rfl (lv_at hl 0 rfl) ?_
      refine lv_iconst (v := 1) hx hb dL_law_485 (by decide +kernel) ?_
      refine lv_iadd hx hb dL_law_486 ?_
      refine xt_i (v := 1) (by decide +kernel) ?_
      refine va_sld hx hb hX hbl hbA hS (vin (by decide +kernel)) dL_law_487 ?_
      refine xt_i (v := xs 1) rfl ?_
      refine lv_aload_n hx hb dL_law_488 rfl (lv_at hl 3 rfl) ?_
      refine lv_iload_n hx hb dL_law_489 rfl (lv_at hl 0 rfl) ?_
      refine lv_iconst (v := 2) hx hb dL_law_490 (by decide +kernel) ?_
      refine lv_iadd hx hb dL_law_491 ?_
      refine xt_i (v := 2) (by decide +kernel) ?_
      refine va_sld hx hb hX hbl hbA hS (vin (by decide +kernel)) dL_law_492 ?_
      refine xt_i (v := xs 2) rfl ?_
      refine xc_core (wr := [(q_102, .inr (10, ((.ref q_103) :: (.ref q_104) :: (.int 0) :: (.int 0) :: (.int 0) :: (.int (-1)) :: (.int 0) :: (.int 0) :: (.int 0) :: (.int 0) :: (.long 0) :: (.ref q_105) :: (.ref q_106) :: (.ref q_107) :: (.ref q_108) :: (.ref q_109) :: (.ref q_110) :: (.ref q_111) :: (.ref q_112) :: (.ref q_113) :: (.ref q_114) :: (.ref q_115) :: (.ref q_116) :: (.ref q_117) :: (.ref q_118) :: (.ref q_119) :: (.ref q_120) :: (.ref q_121) :: (.ref q_122) :: (.ref q_123) :: (.ref q_124) :: (.ref q_125) :: (.ref q_126) :: (.ref q_127) :: (.ref q_128) :: (.ref q_129) :: (.ref q_130) :: (.ref q_131) :: (.ref q_132) :: (.ref q_133) :: (.ref q_134) :: (.int 0) :: (.int 0) :: (.int 0) :: (.int 0) :: (.int 0) :: (.int 0) :: (.int 0) :: (.int 0) :: (.int 0) :: (.ref q_135) :: (.ref q_136) :: (.int 0) :: (.ref q_137) :: (.int 0) :: (.int 0) :: (.int 0) :: (.int 0) :: (.int 0) :: (.int 0) :: (.ref q_138) :: (.int 0) :: (.ref q_139) :: (.ref q_140) :: (.ref q_141) :: (.ref q_142) :: (.ref q_143) :: (.ref q_144) :: (.ref q_145) :: (.ref q_146) :: (.ref q_147) :: (.ref q_148) :: (.int 0) :: (.int 0) :: (.ref q_149) :: (.ref q_150) :: []))), (q_105, .inl (cI, 2, .inl (lst [0, 0])))]) (k := 116) (n := 11963) (xc_runV (As := [.int (xs 1), .int (xs 2)]) (rest := []) hx hb hml hown hts hG hE hP hD hS hA [0, 1] (by decide) rfl (cX9_worth_1 l D cB cI cJ cZ aK aV q_1 ((xs 1)) ((xs 2)) q_2 q_3 q_4 q_5 q_6 q_7 q_8 q_9 q_10 q_11 q_12 q_13 q_16 q_17 q_18 q_19 q_20 q_21 q_22 q_23 q_24 q_25) kw939 kw936 kw937 kw938 kw112 (show XD yX9_worth 2 from by decide +kernel) (by decide) rfl rfl 0 rfl hl.1 rfl (Nat.le_of_ble_eq_true rfl) dL_law_493 (by decide)) hP hD hS hA [0, 1] [2, 3] rfl rfl (by decide) (by decide) (Nat.le_of_ble_eq_true rfl) (Nat.le_of_ble_eq_true rfl) (fun r w1 H locs hpost hP hD hS => ?_)
      obtain rfl := hpost
      have hP := hP.sub (ws' := [(q_102, .inr (10, ((.ref q_103) :: (.ref q_104) :: (.int 0) :: (.int 0) :: (.int 0) :: (.int (-1)) :: (.int 0) :: (.int 0) :: (.int 0) :: (.int 0) :: (.long 0) :: (.ref q_105) :: (.ref q_106) :: (.ref q_107) :: (.ref q_108) :: (.ref q_109) :: (.ref q_110) :: (.ref q_111) :: (.ref q_112) :: (.ref q_113) :: (.ref q_114) :: (.ref q_115) :: (.ref q_116) :: (.ref q_117) :: (.ref q_118) :: (.ref q_119) :: (.ref q_120) :: (.ref q_121) :: (.ref q_122) :: (.ref q_123) :: (.ref q_124) :: (.ref q_125) :: (.ref q_126) :: (.ref q_127) :: (.ref q_128) :: (.ref q_129) :: (.ref q_130) :: (.ref q_131) :: (.ref q_132) :: (.ref q_133) :: (.ref q_134) :: (.int 0) :: (.int 0) :: (.int 0) :: (.int 0) :: (.int 0) :: (.int 0) :: (.int 0) :: (.int 0) :: (.int 0) :: (.ref q_135) :: (.ref q_136) :: (.int 0) :: (.ref q_137) :: (.int 0) :: (.int 0) :: (.int 0) :: (.int 0) :: (.int 0) :: (.int 0) :: (.ref q_138) :: (.int 0) :: (.ref q_139) :: (.ref q_140) :: (.ref q_141) :: (.ref q_142) :: (.ref q_143) :: (.ref q_144) :: (.ref q_145) :: (.ref q_146) :: (.ref q_147) :: (.ref q_148) :: (.int 0) :: (.int 0) :: (.ref q_149) :: (.ref q_150) :: []))), (q_105, .inl (cI, 2, .inl (lst [0, 0])))]) [0, 1] rfl
      have hD := hD.sub (ws' := [(q_102, .inr (10, ((.ref q_103) :: (.ref q_104) :: (.int 0) :: (.int 0) :: (.int 0) :: (.int (-1)) :: (.int 0) :: (.int 0) :: (.int 0) :: (.int 0) :: (.long 0) :: (.ref q_105) :: (.ref q_106) :: (.ref q_107) :: (.ref q_108) :: (.ref q_109) :: (.ref q_110) :: (.ref q_111) :: (.ref q_112) :: (.ref q_113) :: (.ref q_114) :: (.ref q_115) :: (.ref q_116) :: (.ref q_117) :: (.ref q_118) :: (.ref q_119) :: (.ref q_120) :: (.ref q_121) :: (.ref q_122) :: (.ref q_123) :: (.ref q_124) :: (.ref q_125) :: (.ref q_126) :: (.ref q_127) :: (.ref q_128) :: (.ref q_129) :: (.ref q_130) :: (.ref q_131) :: (.ref q_132) :: (.ref q_133) :: (.ref q_134) :: (.int 0) :: (.int 0) :: (.int 0) :: (.int 0) :: (.int 0) :: (.int 0) :: (.int 0) :: (.int 0) :: (.int 0) :: (.ref q_135) :: (.ref q_136) :: (.int 0) :: (.ref q_137) :: (.int 0) :: (.int 0) :: (.int 0) :: (.int 0) :: (.int 0) :: (.int 0) :: (.ref q_138) :: (.int 0) :: (.ref q_139) :: (.ref q_140) :: (.ref q_141) :: (.ref q_142) :: (.ref q_143) :: (.ref q_144) :: (.ref q_145) :: (.ref q_146) :: (.ref q_147) :: (.ref q_148) :: (.int 0) :: (.int 0) :: (.ref q_149) :: (.ref q_150) :: []))), (q_105, .inl (cI, 2, .inl (lst [0, 0])))]) [0, 1] (by decide) rfl
      refine lv_aload_n hx hb dL_law_496 rfl (lv_at hl 1 rfl) ?_
      refine lv_aload_n hx hb dL_law_497 rfl (lv_at hl 3 rfl) ?_
      refine lv_iload_n hx hb dL_law_498 rfl (lv_at hl 0 rfl) ?_
      refine lv_iconst (v := 1) hx hb dL_law_499 (by decide +kernel) ?_
      refine lv_iadd hx hb dL_law_500 ?_
      refine xt_i (v := 1) (by decide +kernel) ?_
      refine va_sld hx hb hX hbl hbA hS (vin (by decide +kernel)) dL_law_501 ?_
      refine xt_i (v := xs 1) rfl ?_
      refine lv_aload_n hx hb dL_law_502 rfl (lv_at hl 3 rfl) ?_
      refine lv_iload_n hx hb dL_law_503 rfl (lv_at hl 0 rfl) ?_
      refine lv_iconst (v := 2) hx hb dL_law_504 (by decide +kernel) ?_
      refine lv_iadd hx hb dL_law_505 ?_
      refine xt_i (v := 2) (by decide +kernel) ?_
      refine va_sld hx hb hX hbl hbA hS (vin (by decide +kernel)) dL_law_506 ?_
      refine xt_i (v := xs 2) rfl ?_
      refine xc_core (wr := []) (k := 116) (n := 11963) (xc_runV (As := [.int (xs 1), .int (xs 2)]) (rest := [.int (-1000000000)]) hx hb hml hown hts hG hE hP hD hS hA [0, 1] (by decide) rfl (cX10_worth_1 l D cB cI cJ cZ aK aV q_102 ((xs 1)) ((xs 2)) q_103 q_104 q_105 q_106 q_107 q_108 q_109 q_110 q_111 q_112 q_113 q_114 q_115 q_116 q_117 q_118 q_119 q_120 q_121 q_122 q_123 q_124 q_125 q_126 q_127 q_128 q_129 q_130 q_131 q_132 q_133 q_134 q_135 q_136 q_137 q_138 q_139 q_140 q_141 q_142 q_143 q_144 q_145 q_146 q_147 q_148 q_149 q_150) kw1762 kw1759 kw1760 kw1761 kw127 (show XD yX10_worth 2 from by decide +kernel) (by decide) rfl rfl 0 rfl hl.1 rfl (Nat.le_of_ble_eq_true rfl) dL_law_507 (by decide)) hP hD hS hA [0, 1] [] rfl rfl (by decide) (by decide) (Nat.le_of_ble_eq_true rfl) (Nat.le_of_ble_eq_true rfl) (fun r w1 H locs hpost hP hD hS => ?_)
      obtain rfl := hpost
      have hP := hP.sub (ws' := []) [] rfl
      have hD := hD.sub (ws' := []) [] (by decide) rfl
      refine lv_icmp_eq (tgt := 1527) hx hb dL_law_510 (by decide) (fun _ => ?_) (fun h => absurd h (by decide +kernel))
      refine lv_iinc (v := 6) (lv' := [(3, .int 6), (2, .ref q_102), (1, .ref q_1), (0, .ref b)]) hx hb dL_law_1527 hl (k := 0) rfl (by decide +kernel) (by decide) rfl (fun ls hl => ?_)
      refine lv_goto (tgt := 18) hx hb dL_law_1530 (by decide) ?_
      refine lv_iload_n hx hb dL_law_18 rfl (lv_at hl 0 rfl) ?_
      refine lv_aload_n hx hb dL_law_19 rfl (lv_at hl 3 rfl) ?_
      refine va_slen hx hb hX hbl hbA hS dL_law_20 ?_
      refine xt_i (v := 6) (by decide +kernel) ?_
      refine lv_bipush (v := 6) hx hb dL_law_21 (by decide +kernel) ?_
      refine lv_isub hx hb dL_law_23 ?_
      refine xt_i (v := 0) (by decide +kernel) ?_
      refine lv_icmp_gt (tgt := 1533) hx hb dL_law_24 (by decide) (fun _ => ?_) (fun h => absurd h (by decide +kernel))
      refine lv_iconst (v := 1) hx hb dL_law_1533 (by decide +kernel) ?_
      refine va_forget (fun q hq => by have z := hS.2.2 q hq; rw [hAe] at z; exact z) ?_
      refine W.widen (k := 600000) (n := 7302250) (Nat.le_of_ble_eq_true rfl) (Nat.le_of_ble_eq_true rfl) ?_
      exact lw_ret hx hb hr hlocks dL_law_1534
    by_cases c_167 : v_157 = 9
    · subst c_167
      have hP := hP.sub (ws' := [(q_1, .inr (9, [.ref q_2, .ref q_3, .ref q_4, .ref q_5, .ref q_6, .ref q_7, .ref q_8, .ref q_9, .ref q_10, .ref q_11, .ref q_12, .ref q_13, .int 0])), (q_4, .inr (8, [.int 0, .int 0, .int 0, .ref q_16, .ref q_17, .ref q_18, .ref q_19, .ref q_20, .ref q_21, .ref q_22, .ref q_23, .ref q_24, .ref q_25, .int 0, .int 1, .int 0, .int 0, .int 0])), (q_102, .inr (10, ((.ref q_103) :: (.ref q_104) :: (.int 0) :: (.int 0) :: (.int 0) :: (.int (-1)) :: (.int 0) :: (.int 0) :: (.int 0) :: (.int 0) :: (.long 0) :: (.ref q_105) :: (.ref q_106) :: (.ref q_107) :: (.ref q_108) :: (.ref q_109) :: (.ref q_110) :: (.ref q_111) :: (.ref q_112) :: (.ref q_113) :: (.ref q_114) :: (.ref q_115) :: (.ref q_116) :: (.ref q_117) :: (.ref q_118) :: (.ref q_119) :: (.ref q_120) :: (.ref q_121) :: (.ref q_122) :: (.ref q_123) :: (.ref q_124) :: (.ref q_125) :: (.ref q_126) :: (.ref q_127) :: (.ref q_128) :: (.ref q_129) :: (.ref q_130) :: (.ref q_131) :: (.ref q_132) :: (.ref q_133) :: (.ref q_134) :: (.int 0) :: (.int 0) :: (.int 0) :: (.int 0) :: (.int 0) :: (.int 0) :: (.int 0) :: (.int 0) :: (.int 0) :: (.ref q_135) :: (.ref q_136) :: (.int 0) :: (.ref q_137) :: (.int 0) :: (.int 0) :: (.int 0) :: (.int 0) :: (.int 0) :: (.int 0) :: (.ref q_138) :: (.int 0) :: (.ref q_139) :: (.ref q_140) :: (.ref q_141) :: (.ref q_142) :: (.ref q_143) :: (.ref q_144) :: (.ref q_145) :: (.ref q_146) :: (.ref q_147) :: (.ref q_148) :: (.int 0) :: (.int 0) :: (.ref q_149) :: (.ref q_150) :: []))), (q_107, .inl (cI, 2, .inl (lst [0, 0])))]) [0, 3, 67, 72] rfl
      have hD := hD.sub (ws' := [(q_1, .inr (9, [.ref q_2, .ref q_3, .ref q_4, .ref q_5, .ref q_6, .ref q_7, .ref q_8, .ref q_9, .ref q_10, .ref q_11, .ref q_12, .ref q_13, .int 0])), (q_4, .inr (8, [.int 0, .int 0, .int 0, .ref q_16, .ref q_17, .ref q_18, .ref q_19, .ref q_20, .ref q_21, .ref q_22, .ref q_23, .ref q_24, .ref q_25, .int 0, .int 1, .int 0, .int 0, .int 0])), (q_102, .inr (10, ((.ref q_103) :: (.ref q_104) :: (.int 0) :: (.int 0) :: (.int 0) :: (.int (-1)) :: (.int 0) :: (.int 0) :: (.int 0) :: (.int 0) :: (.long 0) :: (.ref q_105) :: (.ref q_106) :: (.ref q_107) :: (.ref q_108) :: (.ref q_109) :: (.ref q_110) :: (.ref q_111) :: (.ref q_112) :: (.ref q_113) :: (.ref q_114) :: (.ref q_115) :: (.ref q_116) :: (.ref q_117) :: (.ref q_118) :: (.ref q_119) :: (.ref q_120) :: (.ref q_121) :: (.ref q_122) :: (.ref q_123) :: (.ref q_124) :: (.ref q_125) :: (.ref q_126) :: (.ref q_127) :: (.ref q_128) :: (.ref q_129) :: (.ref q_130) :: (.ref q_131) :: (.ref q_132) :: (.ref q_133) :: (.ref q_134) :: (.int 0) :: (.int 0) :: (.int 0) :: (.int 0) :: (.int 0) :: (.int 0) :: (.int 0) :: (.int 0) :: (.int 0) :: (.ref q_135) :: (.ref q_136) :: (.int 0) :: (.ref q_137) :: (.int 0) :: (.int 0) :: (.int 0) :: (.int 0) :: (.int 0) :: (.int 0) :: (.ref q_138) :: (.int 0) :: (.ref q_139) :: (.ref q_140) :: (.ref q_141) :: (.ref q_142) :: (.ref q_143) :: (.ref q_144) :: (.ref q_145) :: (.ref q_146) :: (.ref q_147) :: (.ref q_148) :: (.int 0) :: (.int 0) :: (.ref q_149) :: (.ref q_150) :: []))), (q_107, .inl (cI, 2, .inl (lst [0, 0])))]) [0, 3, 67, 72] (by decide) rfl
      refine lv_tableIn (off := 482) (tgt := 515) hx hb dL_law_33 (by decide) (by decide) (by decide +kernel) (by decide) ?_
      refine lv_aload_n hx hb dL_law_515 rfl (lv_at hl 2 rfl) ?_
      refine lv_aload_n hx hb dL_law_516 rfl (lv_at hl 3 rfl) ?_
      refine lv_iload_n hx hb dL_law_517 rfl (lv_at hl 0 rfl) ?_
      refine lv_iconst (v := 1) hx hb dL_law_518 (by decide +kernel) ?_
      refine lv_iadd hx hb dL_law_519 ?_
      refine xt_i (v := 1) (by decide +kernel) ?_
      refine va_sld hx hb hX hbl hbA hS (vin (by decide +kernel)) dL_law_520 ?_
      refine xt_i (v := xs 1) rfl ?_
      refine lv_aload_n hx hb dL_law_521 rfl (lv_at hl 3 rfl) ?_
      refine lv_iload_n hx hb dL_law_522 rfl (lv_at hl 0 rfl) ?_
      refine lv_iconst (v := 2) hx hb dL_law_523 (by decide +kernel) ?_
      refine lv_iadd hx hb dL_law_524 ?_
      refine xt_i (v := 2) (by decide +kernel) ?_
      refine va_sld hx hb hX hbl hbA hS (vin (by decide +kernel)) dL_law_525 ?_
      refine xt_i (v := xs 2) rfl ?_
      refine xc_core (wr := [(q_102, .inr (10, ((.ref q_103) :: (.ref q_104) :: (.int 0) :: (.int 0) :: (.int 0) :: (.int (-1)) :: (.int 0) :: (.int 0) :: (.int 0) :: (.int 0) :: (.long 0) :: (.ref q_105) :: (.ref q_106) :: (.ref q_107) :: (.ref q_108) :: (.ref q_109) :: (.ref q_110) :: (.ref q_111) :: (.ref q_112) :: (.ref q_113) :: (.ref q_114) :: (.ref q_115) :: (.ref q_116) :: (.ref q_117) :: (.ref q_118) :: (.ref q_119) :: (.ref q_120) :: (.ref q_121) :: (.ref q_122) :: (.ref q_123) :: (.ref q_124) :: (.ref q_125) :: (.ref q_126) :: (.ref q_127) :: (.ref q_128) :: (.ref q_129) :: (.ref q_130) :: (.ref q_131) :: (.ref q_132) :: (.ref q_133) :: (.ref q_134) :: (.int 0) :: (.int 0) :: (.int 0) :: (.int 0) :: (.int 0) :: (.int 0) :: (.int 0) :: (.int 0) :: (.int 0) :: (.ref q_135) :: (.ref q_136) :: (.int 0) :: (.ref q_137) :: (.int 0) :: (.int 0) :: (.int 0) :: (.int 0) :: (.int 0) :: (.int 0) :: (.ref q_138) :: (.int 0) :: (.ref q_139) :: (.ref q_140) :: (.ref q_141) :: (.ref q_142) :: (.ref q_143) :: (.ref q_144) :: (.ref q_145) :: (.ref q_146) :: (.ref q_147) :: (.ref q_148) :: (.int 0) :: (.int 0) :: (.ref q_149) :: (.ref q_150) :: []))), (q_107, .inl (cI, 2, .inl (lst [0, 0])))]) (k := 116) (n := 11963) (xc_runV (As := [.int (xs 1), .int (xs 2)]) (rest := []) hx hb hml hown hts hG hE hP hD hS hA [0, 1] (by decide) rfl (cX9_swap_1 l D cB cI cJ cZ aK aV q_1 ((xs 1)) ((xs 2)) q_2 q_3 q_4 q_5 q_6 q_7 q_8 q_9 q_10 q_11 q_12 q_13 q_16 q_17 q_18 q_19 q_20 q_21 q_22 q_23 q_24 q_25) kw944 kw941 kw942 kw943 kw112 (show XD yX9_swap 2 from by decide +kernel) (by decide) rfl rfl 0 rfl hl.1 rfl (Nat.le_of_ble_eq_true rfl) dL_law_526 (by decide)) hP hD hS hA [0, 1] [2, 3] rfl rfl (by decide) (by decide) (Nat.le_of_ble_eq_true rfl) (Nat.le_of_ble_eq_true rfl) (fun r w1 H locs hpost hP hD hS => ?_)
      obtain rfl := hpost
      have hP := hP.sub (ws' := [(q_102, .inr (10, ((.ref q_103) :: (.ref q_104) :: (.int 0) :: (.int 0) :: (.int 0) :: (.int (-1)) :: (.int 0) :: (.int 0) :: (.int 0) :: (.int 0) :: (.long 0) :: (.ref q_105) :: (.ref q_106) :: (.ref q_107) :: (.ref q_108) :: (.ref q_109) :: (.ref q_110) :: (.ref q_111) :: (.ref q_112) :: (.ref q_113) :: (.ref q_114) :: (.ref q_115) :: (.ref q_116) :: (.ref q_117) :: (.ref q_118) :: (.ref q_119) :: (.ref q_120) :: (.ref q_121) :: (.ref q_122) :: (.ref q_123) :: (.ref q_124) :: (.ref q_125) :: (.ref q_126) :: (.ref q_127) :: (.ref q_128) :: (.ref q_129) :: (.ref q_130) :: (.ref q_131) :: (.ref q_132) :: (.ref q_133) :: (.ref q_134) :: (.int 0) :: (.int 0) :: (.int 0) :: (.int 0) :: (.int 0) :: (.int 0) :: (.int 0) :: (.int 0) :: (.int 0) :: (.ref q_135) :: (.ref q_136) :: (.int 0) :: (.ref q_137) :: (.int 0) :: (.int 0) :: (.int 0) :: (.int 0) :: (.int 0) :: (.int 0) :: (.ref q_138) :: (.int 0) :: (.ref q_139) :: (.ref q_140) :: (.ref q_141) :: (.ref q_142) :: (.ref q_143) :: (.ref q_144) :: (.ref q_145) :: (.ref q_146) :: (.ref q_147) :: (.ref q_148) :: (.int 0) :: (.int 0) :: (.ref q_149) :: (.ref q_150) :: []))), (q_107, .inl (cI, 2, .inl (lst [0, 0])))]) [0, 1] rfl
      have hD := hD.sub (ws' := [(q_102, .inr (10, ((.ref q_103) :: (.ref q_104) :: (.int 0) :: (.int 0) :: (.int 0) :: (.int (-1)) :: (.int 0) :: (.int 0) :: (.int 0) :: (.int 0) :: (.long 0) :: (.ref q_105) :: (.ref q_106) :: (.ref q_107) :: (.ref q_108) :: (.ref q_109) :: (.ref q_110) :: (.ref q_111) :: (.ref q_112) :: (.ref q_113) :: (.ref q_114) :: (.ref q_115) :: (.ref q_116) :: (.ref q_117) :: (.ref q_118) :: (.ref q_119) :: (.ref q_120) :: (.ref q_121) :: (.ref q_122) :: (.ref q_123) :: (.ref q_124) :: (.ref q_125) :: (.ref q_126) :: (.ref q_127) :: (.ref q_128) :: (.ref q_129) :: (.ref q_130) :: (.ref q_131) :: (.ref q_132) :: (.ref q_133) :: (.ref q_134) :: (.int 0) :: (.int 0) :: (.int 0) :: (.int 0) :: (.int 0) :: (.int 0) :: (.int 0) :: (.int 0) :: (.int 0) :: (.ref q_135) :: (.ref q_136) :: (.int 0) :: (.ref q_137) :: (.int 0) :: (.int 0) :: (.int 0) :: (.int 0) :: (.int 0) :: (.int 0) :: (.ref q_138) :: (.int 0) :: (.ref q_139) :: (.ref q_140) :: (.ref q_141) :: (.ref q_142) :: (.ref q_143) :: (.ref q_144) :: (.ref q_145) :: (.ref q_146) :: (.ref q_147) :: (.ref q_148) :: (.int 0) :: (.int 0) :: (.ref q_149) :: (.ref q_150) :: []))), (q_107, .inl (cI, 2, .inl (lst [0, 0])))]) [0, 1] (by decide) rfl
      refine lv_aload_n hx hb dL_law_529 rfl (lv_at hl 1 rfl) ?_
      refine lv_aload_n hx hb dL_law_530 rfl (lv_at hl 3 rfl) ?_
      refine lv_iload_n hx hb dL_law_531 rfl (lv_at hl 0 rfl) ?_
      refine lv_iconst (v := 1) hx hb dL_law_532 (by decide +kernel) ?_
      refine lv_iadd hx hb dL_law_533 ?_
      refine xt_i (v := 1) (by decide +kernel) ?_
      refine va_sld hx hb hX hbl hbA hS (vin (by decide +kernel)) dL_law_534 ?_
      refine xt_i (v := xs 1) rfl ?_
      refine lv_aload_n hx hb dL_law_535 rfl (lv_at hl 3 rfl) ?_
      refine lv_iload_n hx hb dL_law_536 rfl (lv_at hl 0 rfl) ?_
      refine lv_iconst (v := 2) hx hb dL_law_537 (by decide +kernel) ?_
      refine lv_iadd hx hb dL_law_538 ?_
      refine xt_i (v := 2) (by decide +kernel) ?_
      refine va_sld hx hb hX hbl hbA hS (vin (by decide +kernel)) dL_law_539 ?_
      refine xt_i (v := xs 2) rfl ?_
      refine xc_core (wr := []) (k := 116) (n := 11963) (xc_runV (As := [.int (xs 1), .int (xs 2)]) (rest := [.int 0]) hx hb hml hown hts hG hE hP hD hS hA [0, 1] (by decide) rfl (cX10_swap_1 l D cB cI cJ cZ aK aV q_102 ((xs 1)) ((xs 2)) q_103 q_104 q_105 q_106 q_107 q_108 q_109 q_110 q_111 q_112 q_113 q_114 q_115 q_116 q_117 q_118 q_119 q_120 q_121 q_122 q_123 q_124 q_125 q_126 q_127 q_128 q_129 q_130 q_131 q_132 q_133 q_134 q_135 q_136 q_137 q_138 q_139 q_140 q_141 q_142 q_143 q_144 q_145 q_146 q_147 q_148 q_149 q_150) kw1778 kw1775 kw1776 kw1777 kw127 (show XD yX10_swap 2 from by decide +kernel) (by decide) rfl rfl 0 rfl hl.1 rfl (Nat.le_of_ble_eq_true rfl) dL_law_540 (by decide)) hP hD hS hA [0, 1] [] rfl rfl (by decide) (by decide) (Nat.le_of_ble_eq_true rfl) (Nat.le_of_ble_eq_true rfl) (fun r w1 H locs hpost hP hD hS => ?_)
      obtain rfl := hpost
      have hP := hP.sub (ws' := []) [] rfl
      have hD := hD.sub (ws' := []) [] (by decide) rfl
      refine lv_icmp_eq (tgt := 1527) hx hb dL_law_543 (by decide) (fun _ => ?_) (fun h => absurd h (by decide +kernel))
      refine lv_iinc (v := 6) (lv' := [(3, .int 6), (2, .ref q_102), (1, .ref q_1), (0, .ref b)]) hx hb dL_law_1527 hl (k := 0) rfl (by decide +kernel) (by decide) rfl (fun ls hl => ?_)
      refine lv_goto (tgt := 18) hx hb dL_law_1530 (by decide) ?_
      refine lv_iload_n hx hb dL_law_18 rfl (lv_at hl 0 rfl) ?_
      refine lv_aload_n hx hb dL_law_19 rfl (lv_at hl 3 rfl) ?_
      refine va_slen hx hb hX hbl hbA hS dL_law_20 ?_
      refine xt_i (v := 6) (by decide +kernel) ?_
      refine lv_bipush (v := 6) hx hb dL_law_21 (by decide +kernel) ?_
      refine lv_isub hx hb dL_law_23 ?_
      refine xt_i (v := 0) (by decide +kernel) ?_
      refine lv_icmp_gt (tgt := 1533) hx hb dL_law_24 (by decide) (fun _ => ?_) (fun h => absurd h (by decide +kernel))
      refine lv_iconst (v := 1) hx hb dL_law_1533 (by decide +kernel) ?_
      refine va_forget (fun q hq => by have z := hS.2.2 q hq; rw [hAe] at z; exact z) ?_
      refine W.widen (k := 600000) (n := 7302250) (Nat.le_of_ble_eq_true rfl) (Nat.le_of_ble_eq_true rfl) ?_
      exact lw_ret hx hb hr hlocks dL_law_1534
    by_cases c_168 : v_157 = 10
    · subst c_168
      have hP := hP.sub (ws' := [(q_1, .inr (9, [.ref q_2, .ref q_3, .ref q_4, .ref q_5, .ref q_6, .ref q_7, .ref q_8, .ref q_9, .ref q_10, .ref q_11, .ref q_12, .ref q_13, .int 0])), (q_4, .inr (8, [.int 0, .int 0, .int 0, .ref q_16, .ref q_17, .ref q_18, .ref q_19, .ref q_20, .ref q_21, .ref q_22, .ref q_23, .ref q_24, .ref q_25, .int 0, .int 1, .int 0, .int 0, .int 0])), (q_102, .inr (10, ((.ref q_103) :: (.ref q_104) :: (.int 0) :: (.int 0) :: (.int 0) :: (.int (-1)) :: (.int 0) :: (.int 0) :: (.int 0) :: (.int 0) :: (.long 0) :: (.ref q_105) :: (.ref q_106) :: (.ref q_107) :: (.ref q_108) :: (.ref q_109) :: (.ref q_110) :: (.ref q_111) :: (.ref q_112) :: (.ref q_113) :: (.ref q_114) :: (.ref q_115) :: (.ref q_116) :: (.ref q_117) :: (.ref q_118) :: (.ref q_119) :: (.ref q_120) :: (.ref q_121) :: (.ref q_122) :: (.ref q_123) :: (.ref q_124) :: (.ref q_125) :: (.ref q_126) :: (.ref q_127) :: (.ref q_128) :: (.ref q_129) :: (.ref q_130) :: (.ref q_131) :: (.ref q_132) :: (.ref q_133) :: (.ref q_134) :: (.int 0) :: (.int 0) :: (.int 0) :: (.int 0) :: (.int 0) :: (.int 0) :: (.int 0) :: (.int 0) :: (.int 0) :: (.ref q_135) :: (.ref q_136) :: (.int 0) :: (.ref q_137) :: (.int 0) :: (.int 0) :: (.int 0) :: (.int 0) :: (.int 0) :: (.int 0) :: (.ref q_138) :: (.int 0) :: (.ref q_139) :: (.ref q_140) :: (.ref q_141) :: (.ref q_142) :: (.ref q_143) :: (.ref q_144) :: (.ref q_145) :: (.ref q_146) :: (.ref q_147) :: (.ref q_148) :: (.int 0) :: (.int 0) :: (.ref q_149) :: (.ref q_150) :: []))), (q_107, .inl (cI, 2, .inl (lst [0, 0])))]) [0, 3, 67, 72] rfl
      have hD := hD.sub (ws' := [(q_1, .inr (9, [.ref q_2, .ref q_3, .ref q_4, .ref q_5, .ref q_6, .ref q_7, .ref q_8, .ref q_9, .ref q_10, .ref q_11, .ref q_12, .ref q_13, .int 0])), (q_4, .inr (8, [.int 0, .int 0, .int 0, .ref q_16, .ref q_17, .ref q_18, .ref q_19, .ref q_20, .ref q_21, .ref q_22, .ref q_23, .ref q_24, .ref q_25, .int 0, .int 1, .int 0, .int 0, .int 0])), (q_102, .inr (10, ((.ref q_103) :: (.ref q_104) :: (.int 0) :: (.int 0) :: (.int 0) :: (.int (-1)) :: (.int 0) :: (.int 0) :: (.int 0) :: (.int 0) :: (.long 0) :: (.ref q_105) :: (.ref q_106) :: (.ref q_107) :: (.ref q_108) :: (.ref q_109) :: (.ref q_110) :: (.ref q_111) :: (.ref q_112) :: (.ref q_113) :: (.ref q_114) :: (.ref q_115) :: (.ref q_116) :: (.ref q_117) :: (.ref q_118) :: (.ref q_119) :: (.ref q_120) :: (.ref q_121) :: (.ref q_122) :: (.ref q_123) :: (.ref q_124) :: (.ref q_125) :: (.ref q_126) :: (.ref q_127) :: (.ref q_128) :: (.ref q_129) :: (.ref q_130) :: (.ref q_131) :: (.ref q_132) :: (.ref q_133) :: (.ref q_134) :: (.int 0) :: (.int 0) :: (.int 0) :: (.int 0) :: (.int 0) :: (.int 0) :: (.int 0) :: (.int 0) :: (.int 0) :: (.ref q_135) :: (.ref q_136) :: (.int 0) :: (.ref q_137) :: (.int 0) :: (.int 0) :: (.int 0) :: (.int 0) :: (.int 0) :: (.int 0) :: (.ref q_138) :: (.int 0) :: (.ref q_139) :: (.ref q_140) :: (.ref q_141) :: (.ref q_142) :: (.ref q_143) :: (.ref q_144) :: (.ref q_145) :: (.ref q_146) :: (.ref q_147) :: (.ref q_148) :: (.int 0) :: (.int 0) :: (.ref q_149) :: (.ref q_150) :: []))), (q_107, .inl (cI, 2, .inl (lst [0, 0])))]) [0, 3, 67, 72] (by decide) rfl
      refine lv_tableIn (off := 515) (tgt := 548) hx hb dL_law_33 (by decide) (by decide) (by decide +kernel) (by decide) ?_
      refine lv_aload_n hx hb dL_law_548 rfl (lv_at hl 2 rfl) ?_
      refine lv_aload_n hx hb dL_law_549 rfl (lv_at hl 3 rfl) ?_
      refine lv_iload_n hx hb dL_law_550 rfl (lv_at hl 0 rfl) ?_
      refine lv_iconst (v := 1) hx hb dL_law_551 (by decide +kernel) ?_
      refine lv_iadd hx hb dL_law_552 ?_
      refine xt_i (v := 1) (by decide +kernel) ?_
      refine va_sld hx hb hX hbl hbA hS (vin (by decide +kernel)) dL_law_553 ?_
      refine xt_i (v := xs 1) rfl ?_
      refine lv_aload_n hx hb dL_law_554 rfl (lv_at hl 3 rfl) ?_
      refine lv_iload_n hx hb dL_law_555 rfl (lv_at hl 0 rfl) ?_
      refine lv_iconst (v := 2) hx hb dL_law_556 (by decide +kernel) ?_
      refine lv_iadd hx hb dL_law_557 ?_
      refine xt_i (v := 2) (by decide +kernel) ?_
      refine va_sld hx hb hX hbl hbA hS (vin (by decide +kernel)) dL_law_558 ?_
      refine xt_i (v := xs 2) rfl ?_
      refine xc_core (wr := [(q_102, .inr (10, ((.ref q_103) :: (.ref q_104) :: (.int 0) :: (.int 0) :: (.int 0) :: (.int (-1)) :: (.int 0) :: (.int 0) :: (.int 0) :: (.int 0) :: (.long 0) :: (.ref q_105) :: (.ref q_106) :: (.ref q_107) :: (.ref q_108) :: (.ref q_109) :: (.ref q_110) :: (.ref q_111) :: (.ref q_112) :: (.ref q_113) :: (.ref q_114) :: (.ref q_115) :: (.ref q_116) :: (.ref q_117) :: (.ref q_118) :: (.ref q_119) :: (.ref q_120) :: (.ref q_121) :: (.ref q_122) :: (.ref q_123) :: (.ref q_124) :: (.ref q_125) :: (.ref q_126) :: (.ref q_127) :: (.ref q_128) :: (.ref q_129) :: (.ref q_130) :: (.ref q_131) :: (.ref q_132) :: (.ref q_133) :: (.ref q_134) :: (.int 0) :: (.int 0) :: (.int 0) :: (.int 0) :: (.int 0) :: (.int 0) :: (.int 0) :: (.int 0) :: (.int 0) :: (.ref q_135) :: (.ref q_136) :: (.int 0) :: (.ref q_137) :: (.int 0) :: (.int 0) :: (.int 0) :: (.int 0) :: (.int 0) :: (.int 0) :: (.ref q_138) :: (.int 0) :: (.ref q_139) :: (.ref q_140) :: (.ref q_141) :: (.ref q_142) :: (.ref q_143) :: (.ref q_144) :: (.ref q_145) :: (.ref q_146) :: (.ref q_147) :: (.ref q_148) :: (.int 0) :: (.int 0) :: (.ref q_149) :: (.ref q_150) :: []))), (q_107, .inl (cI, 2, .inl (lst [0, 0])))]) (k := 116) (n := 11963) (xc_runV (As := [.int (xs 1), .int (xs 2)]) (rest := []) hx hb hml hown hts hG hE hP hD hS hA [0, 1] (by decide) rfl (cX9_cede_1 l D cB cI cJ cZ aK aV q_1 ((xs 1)) ((xs 2)) q_2 q_3 q_4 q_5 q_6 q_7 q_8 q_9 q_10 q_11 q_12 q_13 q_16 q_17 q_18 q_19 q_20 q_21 q_22 q_23 q_24 q_25) kw964 kw961 kw962 kw963 kw112 (show XD yX9_cede 2 from by decide +kernel) (by decide) rfl rfl 0 rfl hl.1 rfl (Nat.le_of_ble_eq_true rfl) dL_law_559 (by decide)) hP hD hS hA [0, 1] [2, 3] rfl rfl (by decide) (by decide) (Nat.le_of_ble_eq_true rfl) (Nat.le_of_ble_eq_true rfl) (fun r w1 H locs hpost hP hD hS => ?_)
      obtain rfl := hpost
      have hP := hP.sub (ws' := [(q_102, .inr (10, ((.ref q_103) :: (.ref q_104) :: (.int 0) :: (.int 0) :: (.int 0) :: (.int (-1)) :: (.int 0) :: (.int 0) :: (.int 0) :: (.int 0) :: (.long 0) :: (.ref q_105) :: (.ref q_106) :: (.ref q_107) :: (.ref q_108) :: (.ref q_109) :: (.ref q_110) :: (.ref q_111) :: (.ref q_112) :: (.ref q_113) :: (.ref q_114) :: (.ref q_115) :: (.ref q_116) :: (.ref q_117) :: (.ref q_118) :: (.ref q_119) :: (.ref q_120) :: (.ref q_121) :: (.ref q_122) :: (.ref q_123) :: (.ref q_124) :: (.ref q_125) :: (.ref q_126) :: (.ref q_127) :: (.ref q_128) :: (.ref q_129) :: (.ref q_130) :: (.ref q_131) :: (.ref q_132) :: (.ref q_133) :: (.ref q_134) :: (.int 0) :: (.int 0) :: (.int 0) :: (.int 0) :: (.int 0) :: (.int 0) :: (.int 0) :: (.int 0) :: (.int 0) :: (.ref q_135) :: (.ref q_136) :: (.int 0) :: (.ref q_137) :: (.int 0) :: (.int 0) :: (.int 0) :: (.int 0) :: (.int 0) :: (.int 0) :: (.ref q_138) :: (.int 0) :: (.ref q_139) :: (.ref q_140) :: (.ref q_141) :: (.ref q_142) :: (.ref q_143) :: (.ref q_144) :: (.ref q_145) :: (.ref q_146) :: (.ref q_147) :: (.ref q_148) :: (.int 0) :: (.int 0) :: (.ref q_149) :: (.ref q_150) :: []))), (q_107, .inl (cI, 2, .inl (lst [0, 0])))]) [0, 1] rfl
      have hD := hD.sub (ws' := [(q_102, .inr (10, ((.ref q_103) :: (.ref q_104) :: (.int 0) :: (.int 0) :: (.int 0) :: (.int (-1)) :: (.int 0) :: (.int 0) :: (.int 0) :: (.int 0) :: (.long 0) :: (.ref q_105) :: (.ref q_106) :: (.ref q_107) :: (.ref q_108) :: (.ref q_109) :: (.ref q_110) :: (.ref q_111) :: (.ref q_112) :: (.ref q_113) :: (.ref q_114) :: (.ref q_115) :: (.ref q_116) :: (.ref q_117) :: (.ref q_118) :: (.ref q_119) :: (.ref q_120) :: (.ref q_121) :: (.ref q_122) :: (.ref q_123) :: (.ref q_124) :: (.ref q_125) :: (.ref q_126) :: (.ref q_127) :: (.ref q_128) :: (.ref q_129) :: (.ref q_130) :: (.ref q_131) :: (.ref q_132) :: (.ref q_133) :: (.ref q_134) :: (.int 0) :: (.int 0) :: (.int 0) :: (.int 0) :: (.int 0) :: (.int 0) :: (.int 0) :: (.int 0) :: (.int 0) :: (.ref q_135) :: (.ref q_136) :: (.int 0) :: (.ref q_137) :: (.int 0) :: (.int 0) :: (.int 0) :: (.int 0) :: (.int 0) :: (.int 0) :: (.ref q_138) :: (.int 0) :: (.ref q_139) :: (.ref q_140) :: (.ref q_141) :: (.ref q_142) :: (.ref q_143) :: (.ref q_144) :: (.ref q_145) :: (.ref q_146) :: (.ref q_147) :: (.ref q_148) :: (.int 0) :: (.int 0) :: (.ref q_149) :: (.ref q_150) :: []))), (q_107, .inl (cI, 2, .inl (lst [0, 0])))]) [0, 1] (by decide) rfl
      refine lv_aload_n hx hb dL_law_562 rfl (lv_at hl 1 rfl) ?_
      refine lv_aload_n hx hb dL_law_563 rfl (lv_at hl 3 rfl) ?_
      refine lv_iload_n hx hb dL_law_564 rfl (lv_at hl 0 rfl) ?_
      refine lv_iconst (v := 1) hx hb dL_law_565 (by decide +kernel) ?_
      refine lv_iadd hx hb dL_law_566 ?_
      refine xt_i (v := 1) (by decide +kernel) ?_
      refine va_sld hx hb hX hbl hbA hS (vin (by decide +kernel)) dL_law_567 ?_
      refine xt_i (v := xs 1) rfl ?_
      refine lv_aload_n hx hb dL_law_568 rfl (lv_at hl 3 rfl) ?_
      refine lv_iload_n hx hb dL_law_569 rfl (lv_at hl 0 rfl) ?_
      refine lv_iconst (v := 2) hx hb dL_law_570 (by decide +kernel) ?_
      refine lv_iadd hx hb dL_law_571 ?_
      refine xt_i (v := 2) (by decide +kernel) ?_
      refine va_sld hx hb hX hbl hbA hS (vin (by decide +kernel)) dL_law_572 ?_
      refine xt_i (v := xs 2) rfl ?_
      refine xc_core (wr := []) (k := 116) (n := 11963) (xc_runV (As := [.int (xs 1), .int (xs 2)]) (rest := [.int (-1)]) hx hb hml hown hts hG hE hP hD hS hA [0, 1] (by decide) rfl (cX10_cede_1 l D cB cI cJ cZ aK aV q_102 ((xs 1)) ((xs 2)) q_103 q_104 q_105 q_106 q_107 q_108 q_109 q_110 q_111 q_112 q_113 q_114 q_115 q_116 q_117 q_118 q_119 q_120 q_121 q_122 q_123 q_124 q_125 q_126 q_127 q_128 q_129 q_130 q_131 q_132 q_133 q_134 q_135 q_136 q_137 q_138 q_139 q_140 q_141 q_142 q_143 q_144 q_145 q_146 q_147 q_148 q_149 q_150) kw1794 kw1791 kw1792 kw1793 kw127 (show XD yX10_cede 2 from by decide +kernel) (by decide) rfl rfl 0 rfl hl.1 rfl (Nat.le_of_ble_eq_true rfl) dL_law_573 (by decide)) hP hD hS hA [0, 1] [] rfl rfl (by decide) (by decide) (Nat.le_of_ble_eq_true rfl) (Nat.le_of_ble_eq_true rfl) (fun r w1 H locs hpost hP hD hS => ?_)
      obtain rfl := hpost
      have hP := hP.sub (ws' := []) [] rfl
      have hD := hD.sub (ws' := []) [] (by decide) rfl
      refine lv_icmp_eq (tgt := 1527) hx hb dL_law_576 (by decide) (fun _ => ?_) (fun h => absurd h (by decide +kernel))
      refine lv_iinc (v := 6) (lv' := [(3, .int 6), (2, .ref q_102), (1, .ref q_1), (0, .ref b)]) hx hb dL_law_1527 hl (k := 0) rfl (by decide +kernel) (by decide) rfl (fun ls hl => ?_)
      refine lv_goto (tgt := 18) hx hb dL_law_1530 (by decide) ?_
      refine lv_iload_n hx hb dL_law_18 rfl (lv_at hl 0 rfl) ?_
      refine lv_aload_n hx hb dL_law_19 rfl (lv_at hl 3 rfl) ?_
      refine va_slen hx hb hX hbl hbA hS dL_law_20 ?_
      refine xt_i (v := 6) (by decide +kernel) ?_
      refine lv_bipush (v := 6) hx hb dL_law_21 (by decide +kernel) ?_
      refine lv_isub hx hb dL_law_23 ?_
      refine xt_i (v := 0) (by decide +kernel) ?_
      refine lv_icmp_gt (tgt := 1533) hx hb dL_law_24 (by decide) (fun _ => ?_) (fun h => absurd h (by decide +kernel))
      refine lv_iconst (v := 1) hx hb dL_law_1533 (by decide +kernel) ?_
      refine va_forget (fun q hq => by have z := hS.2.2 q hq; rw [hAe] at z; exact z) ?_
      refine W.widen (k := 600000) (n := 7302250) (Nat.le_of_ble_eq_true rfl) (Nat.le_of_ble_eq_true rfl) ?_
      exact lw_ret hx hb hr hlocks dL_law_1534
    by_cases c_169 : v_157 = 11
    · subst c_169
      have hP := hP.sub (ws' := [(q_1, .inr (9, [.ref q_2, .ref q_3, .ref q_4, .ref q_5, .ref q_6, .ref q_7, .ref q_8, .ref q_9, .ref q_10, .ref q_11, .ref q_12, .ref q_13, .int 0])), (q_4, .inr (8, [.int 0, .int 0, .int 0, .ref q_16, .ref q_17, .ref q_18, .ref q_19, .ref q_20, .ref q_21, .ref q_22, .ref q_23, .ref q_24, .ref q_25, .int 0, .int 1, .int 0, .int 0, .int 0])), (q_102, .inr (10, ((.ref q_103) :: (.ref q_104) :: (.int 0) :: (.int 0) :: (.int 0) :: (.int (-1)) :: (.int 0) :: (.int 0) :: (.int 0) :: (.int 0) :: (.long 0) :: (.ref q_105) :: (.ref q_106) :: (.ref q_107) :: (.ref q_108) :: (.ref q_109) :: (.ref q_110) :: (.ref q_111) :: (.ref q_112) :: (.ref q_113) :: (.ref q_114) :: (.ref q_115) :: (.ref q_116) :: (.ref q_117) :: (.ref q_118) :: (.ref q_119) :: (.ref q_120) :: (.ref q_121) :: (.ref q_122) :: (.ref q_123) :: (.ref q_124) :: (.ref q_125) :: (.ref q_126) :: (.ref q_127) :: (.ref q_128) :: (.ref q_129) :: (.ref q_130) :: (.ref q_131) :: (.ref q_132) :: (.ref q_133) :: (.ref q_134) :: (.int 0) :: (.int 0) :: (.int 0) :: (.int 0) :: (.int 0) :: (.int 0) :: (.int 0) :: (.int 0) :: (.int 0) :: (.ref q_135) :: (.ref q_136) :: (.int 0) :: (.ref q_137) :: (.int 0) :: (.int 0) :: (.int 0) :: (.int 0) :: (.int 0) :: (.int 0) :: (.ref q_138) :: (.int 0) :: (.ref q_139) :: (.ref q_140) :: (.ref q_141) :: (.ref q_142) :: (.ref q_143) :: (.ref q_144) :: (.ref q_145) :: (.ref q_146) :: (.ref q_147) :: (.ref q_148) :: (.int 0) :: (.int 0) :: (.ref q_149) :: (.ref q_150) :: []))), (q_106, .inl (cI, 2, .inl (lst [0, 0])))]) [0, 3, 67, 71] rfl
      have hD := hD.sub (ws' := [(q_1, .inr (9, [.ref q_2, .ref q_3, .ref q_4, .ref q_5, .ref q_6, .ref q_7, .ref q_8, .ref q_9, .ref q_10, .ref q_11, .ref q_12, .ref q_13, .int 0])), (q_4, .inr (8, [.int 0, .int 0, .int 0, .ref q_16, .ref q_17, .ref q_18, .ref q_19, .ref q_20, .ref q_21, .ref q_22, .ref q_23, .ref q_24, .ref q_25, .int 0, .int 1, .int 0, .int 0, .int 0])), (q_102, .inr (10, ((.ref q_103) :: (.ref q_104) :: (.int 0) :: (.int 0) :: (.int 0) :: (.int (-1)) :: (.int 0) :: (.int 0) :: (.int 0) :: (.int 0) :: (.long 0) :: (.ref q_105) :: (.ref q_106) :: (.ref q_107) :: (.ref q_108) :: (.ref q_109) :: (.ref q_110) :: (.ref q_111) :: (.ref q_112) :: (.ref q_113) :: (.ref q_114) :: (.ref q_115) :: (.ref q_116) :: (.ref q_117) :: (.ref q_118) :: (.ref q_119) :: (.ref q_120) :: (.ref q_121) :: (.ref q_122) :: (.ref q_123) :: (.ref q_124) :: (.ref q_125) :: (.ref q_126) :: (.ref q_127) :: (.ref q_128) :: (.ref q_129) :: (.ref q_130) :: (.ref q_131) :: (.ref q_132) :: (.ref q_133) :: (.ref q_134) :: (.int 0) :: (.int 0) :: (.int 0) :: (.int 0) :: (.int 0) :: (.int 0) :: (.int 0) :: (.int 0) :: (.int 0) :: (.ref q_135) :: (.ref q_136) :: (.int 0) :: (.ref q_137) :: (.int 0) :: (.int 0) :: (.int 0) :: (.int 0) :: (.int 0) :: (.int 0) :: (.ref q_138) :: (.int 0) :: (.ref q_139) :: (.ref q_140) :: (.ref q_141) :: (.ref q_142) :: (.ref q_143) :: (.ref q_144) :: (.ref q_145) :: (.ref q_146) :: (.ref q_147) :: (.ref q_148) :: (.int 0) :: (.int 0) :: (.ref q_149) :: (.ref q_150) :: []))), (q_106, .inl (cI, 2, .inl (lst [0, 0])))]) [0, 3, 67, 71] (by decide) rfl
      refine lv_tableIn (off := 548) (tgt := 581) hx hb dL_law_33 (by decide) (by decide) (by decide +kernel) (by decide) ?_
      refine lv_aload_n hx hb dL_law_581 rfl (lv_at hl 2 rfl) ?_
      refine lv_aload_n hx hb dL_law_582 rfl (lv_at hl 3 rfl) ?_
      refine lv_iload_n hx hb dL_law_583 rfl (lv_at hl 0 rfl) ?_
      refine lv_iconst (v := 1) hx hb dL_law_584 (by decide +kernel) ?_
      refine lv_iadd hx hb dL_law_585 ?_
      refine xt_i (v := 1) (by decide +kernel) ?_
      refine va_sld hx hb hX hbl hbA hS (vin (by decide +kernel)) dL_law_586 ?_
      refine xt_i (v := xs 1) rfl ?_
      refine lv_aload_n hx hb dL_law_587 rfl (lv_at hl 3 rfl) ?_
      refine lv_iload_n hx hb dL_law_588 rfl (lv_at hl 0 rfl) ?_
      refine lv_iconst (v := 2) hx hb dL_law_589 (by decide +kernel) ?_
      refine lv_iadd hx hb dL_law_590 ?_
      refine xt_i (v := 2) (by decide +kernel) ?_
      refine va_sld hx hb hX hbl hbA hS (vin (by decide +kernel)) dL_law_591 ?_
      refine xt_i (v := xs 2) rfl ?_
      refine xc_core (wr := [(q_102, .inr (10, ((.ref q_103) :: (.ref q_104) :: (.int 0) :: (.int 0) :: (.int 0) :: (.int (-1)) :: (.int 0) :: (.int 0) :: (.int 0) :: (.int 0) :: (.long 0) :: (.ref q_105) :: (.ref q_106) :: (.ref q_107) :: (.ref q_108) :: (.ref q_109) :: (.ref q_110) :: (.ref q_111) :: (.ref q_112) :: (.ref q_113) :: (.ref q_114) :: (.ref q_115) :: (.ref q_116) :: (.ref q_117) :: (.ref q_118) :: (.ref q_119) :: (.ref q_120) :: (.ref q_121) :: (.ref q_122) :: (.ref q_123) :: (.ref q_124) :: (.ref q_125) :: (.ref q_126) :: (.ref q_127) :: (.ref q_128) :: (.ref q_129) :: (.ref q_130) :: (.ref q_131) :: (.ref q_132) :: (.ref q_133) :: (.ref q_134) :: (.int 0) :: (.int 0) :: (.int 0) :: (.int 0) :: (.int 0) :: (.int 0) :: (.int 0) :: (.int 0) :: (.int 0) :: (.ref q_135) :: (.ref q_136) :: (.int 0) :: (.ref q_137) :: (.int 0) :: (.int 0) :: (.int 0) :: (.int 0) :: (.int 0) :: (.int 0) :: (.ref q_138) :: (.int 0) :: (.ref q_139) :: (.ref q_140) :: (.ref q_141) :: (.ref q_142) :: (.ref q_143) :: (.ref q_144) :: (.ref q_145) :: (.ref q_146) :: (.ref q_147) :: (.ref q_148) :: (.int 0) :: (.int 0) :: (.ref q_149) :: (.ref q_150) :: []))), (q_106, .inl (cI, 2, .inl (lst [0, 0])))]) (k := 116) (n := 11963) (xc_runV (As := [.int (xs 1), .int (xs 2)]) (rest := []) hx hb hml hown hts hG hE hP hD hS hA [0, 1] (by decide) rfl (cX9_carry_1 l D cB cI cJ cZ aK aV q_1 ((xs 1)) ((xs 2)) q_2 q_3 q_4 q_5 q_6 q_7 q_8 q_9 q_10 q_11 q_12 q_13 q_16 q_17 q_18 q_19 q_20 q_21 q_22 q_23 q_24 q_25) kw968 kw965 kw966 kw967 kw112 (show XD yX9_carry 2 from by decide +kernel) (by decide) rfl rfl 0 rfl hl.1 rfl (Nat.le_of_ble_eq_true rfl) dL_law_592 (by decide)) hP hD hS hA [0, 1] [2, 3] rfl rfl (by decide) (by decide) (Nat.le_of_ble_eq_true rfl) (Nat.le_of_ble_eq_true rfl) (fun r w1 H locs hpost hP hD hS => ?_)
      obtain rfl := hpost
      have hP := hP.sub (ws' := [(q_102, .inr (10, ((.ref q_103) :: (.ref q_104) :: (.int 0) :: (.int 0) :: (.int 0) :: (.int (-1)) :: (.int 0) :: (.int 0) :: (.int 0) :: (.int 0) :: (.long 0) :: (.ref q_105) :: (.ref q_106) :: (.ref q_107) :: (.ref q_108) :: (.ref q_109) :: (.ref q_110) :: (.ref q_111) :: (.ref q_112) :: (.ref q_113) :: (.ref q_114) :: (.ref q_115) :: (.ref q_116) :: (.ref q_117) :: (.ref q_118) :: (.ref q_119) :: (.ref q_120) :: (.ref q_121) :: (.ref q_122) :: (.ref q_123) :: (.ref q_124) :: (.ref q_125) :: (.ref q_126) :: (.ref q_127) :: (.ref q_128) :: (.ref q_129) :: (.ref q_130) :: (.ref q_131) :: (.ref q_132) :: (.ref q_133) :: (.ref q_134) :: (.int 0) :: (.int 0) :: (.int 0) :: (.int 0) :: (.int 0) :: (.int 0) :: (.int 0) :: (.int 0) :: (.int 0) :: (.ref q_135) :: (.ref q_136) :: (.int 0) :: (.ref q_137) :: (.int 0) :: (.int 0) :: (.int 0) :: (.int 0) :: (.int 0) :: (.int 0) :: (.ref q_138) :: (.int 0) :: (.ref q_139) :: (.ref q_140) :: (.ref q_141) :: (.ref q_142) :: (.ref q_143) :: (.ref q_144) :: (.ref q_145) :: (.ref q_146) :: (.ref q_147) :: (.ref q_148) :: (.int 0) :: (.int 0) :: (.ref q_149) :: (.ref q_150) :: []))), (q_106, .inl (cI, 2, .inl (lst [0, 0])))]) [0, 1] rfl
      have hD := hD.sub (ws' := [(q_102, .inr (10, ((.ref q_103) :: (.ref q_104) :: (.int 0) :: (.int 0) :: (.int 0) :: (.int (-1)) :: (.int 0) :: (.int 0) :: (.int 0) :: (.int 0) :: (.long 0) :: (.ref q_105) :: (.ref q_106) :: (.ref q_107) :: (.ref q_108) :: (.ref q_109) :: (.ref q_110) :: (.ref q_111) :: (.ref q_112) :: (.ref q_113) :: (.ref q_114) :: (.ref q_115) :: (.ref q_116) :: (.ref q_117) :: (.ref q_118) :: (.ref q_119) :: (.ref q_120) :: (.ref q_121) :: (.ref q_122) :: (.ref q_123) :: (.ref q_124) :: (.ref q_125) :: (.ref q_126) :: (.ref q_127) :: (.ref q_128) :: (.ref q_129) :: (.ref q_130) :: (.ref q_131) :: (.ref q_132) :: (.ref q_133) :: (.ref q_134) :: (.int 0) :: (.int 0) :: (.int 0) :: (.int 0) :: (.int 0) :: (.int 0) :: (.int 0) :: (.int 0) :: (.int 0) :: (.ref q_135) :: (.ref q_136) :: (.int 0) :: (.ref q_137) :: (.int 0) :: (.int 0) :: (.int 0) :: (.int 0) :: (.int 0) :: (.int 0) :: (.ref q_138) :: (.int 0) :: (.ref q_139) :: (.ref q_140) :: (.ref q_141) :: (.ref q_142) :: (.ref q_143) :: (.ref q_144) :: (.ref q_145) :: (.ref q_146) :: (.ref q_147) :: (.ref q_148) :: (.int 0) :: (.int 0) :: (.ref q_149) :: (.ref q_150) :: []))), (q_106, .inl (cI, 2, .inl (lst [0, 0])))]) [0, 1] (by decide) rfl
      refine lv_aload_n hx hb dL_law_595 rfl (lv_at hl 1 rfl) ?_
      refine lv_aload_n hx hb dL_law_596 rfl (lv_at hl 3 rfl) ?_
      refine lv_iload_n hx hb dL_law_597 rfl (lv_at hl 0 rfl) ?_
      refine lv_iconst (v := 1) hx hb dL_law_598 (by decide +kernel) ?_
      refine lv_iadd hx hb dL_law_599 ?_
      refine xt_i (v := 1) (by decide +kernel) ?_
      refine va_sld hx hb hX hbl hbA hS (vin (by decide +kernel)) dL_law_600 ?_
      refine xt_i (v := xs 1) rfl ?_
      refine lv_aload_n hx hb dL_law_601 rfl (lv_at hl 3 rfl) ?_
      refine lv_iload_n hx hb dL_law_602 rfl (lv_at hl 0 rfl) ?_
      refine lv_iconst (v := 2) hx hb dL_law_603 (by decide +kernel) ?_
      refine lv_iadd hx hb dL_law_604 ?_
      refine xt_i (v := 2) (by decide +kernel) ?_
      refine va_sld hx hb hX hbl hbA hS (vin (by decide +kernel)) dL_law_605 ?_
      refine xt_i (v := xs 2) rfl ?_
      refine xc_core (wr := []) (k := 116) (n := 11963) (xc_runV (As := [.int (xs 1), .int (xs 2)]) (rest := [.int (-1)]) hx hb hml hown hts hG hE hP hD hS hA [0, 1] (by decide) rfl (cX10_carry_1 l D cB cI cJ cZ aK aV q_102 ((xs 1)) ((xs 2)) q_103 q_104 q_105 q_106 q_107 q_108 q_109 q_110 q_111 q_112 q_113 q_114 q_115 q_116 q_117 q_118 q_119 q_120 q_121 q_122 q_123 q_124 q_125 q_126 q_127 q_128 q_129 q_130 q_131 q_132 q_133 q_134 q_135 q_136 q_137 q_138 q_139 q_140 q_141 q_142 q_143 q_144 q_145 q_146 q_147 q_148 q_149 q_150) kw1798 kw1795 kw1796 kw1797 kw127 (show XD yX10_carry 2 from by decide +kernel) (by decide) rfl rfl 0 rfl hl.1 rfl (Nat.le_of_ble_eq_true rfl) dL_law_606 (by decide)) hP hD hS hA [0, 1] [] rfl rfl (by decide) (by decide) (Nat.le_of_ble_eq_true rfl) (Nat.le_of_ble_eq_true rfl) (fun r w1 H locs hpost hP hD hS => ?_)
      obtain rfl := hpost
      have hP := hP.sub (ws' := []) [] rfl
      have hD := hD.sub (ws' := []) [] (by decide) rfl
      refine lv_icmp_eq (tgt := 1527) hx hb dL_law_609 (by decide) (fun _ => ?_) (fun h => absurd h (by decide +kernel))
      refine lv_iinc (v := 6) (lv' := [(3, .int 6), (2, .ref q_102), (1, .ref q_1), (0, .ref b)]) hx hb dL_law_1527 hl (k := 0) rfl (by decide +kernel) (by decide) rfl (fun ls hl => ?_)
      refine lv_goto (tgt := 18) hx hb dL_law_1530 (by decide) ?_
      refine lv_iload_n hx hb dL_law_18 rfl (lv_at hl 0 rfl) ?_
      refine lv_aload_n hx hb dL_law_19 rfl (lv_at hl 3 rfl) ?_
      refine va_slen hx hb hX hbl hbA hS dL_law_20 ?_
      refine xt_i (v := 6) (by decide +kernel) ?_
      refine lv_bipush (v := 6) hx hb dL_law_21 (by decide +kernel) ?_
      refine lv_isub hx hb dL_law_23 ?_
      refine xt_i (v := 0) (by decide +kernel) ?_
      refine lv_icmp_gt (tgt := 1533) hx hb dL_law_24 (by decide) (fun _ => ?_) (fun h => absurd h (by decide +kernel))
      refine lv_iconst (v := 1) hx hb dL_law_1533 (by decide +kernel) ?_
      refine va_forget (fun q hq => by have z := hS.2.2 q hq; rw [hAe] at z; exact z) ?_
      refine W.widen (k := 600000) (n := 7302250) (Nat.le_of_ble_eq_true rfl) (Nat.le_of_ble_eq_true rfl) ?_
      exact lw_ret hx hb hr hlocks dL_law_1534
    by_cases c_170 : v_157 = 12
    · subst c_170
      have hP := hP.sub (ws' := [(q_1, .inr (9, [.ref q_2, .ref q_3, .ref q_4, .ref q_5, .ref q_6, .ref q_7, .ref q_8, .ref q_9, .ref q_10, .ref q_11, .ref q_12, .ref q_13, .int 0])), (q_4, .inr (8, [.int 0, .int 0, .int 0, .ref q_16, .ref q_17, .ref q_18, .ref q_19, .ref q_20, .ref q_21, .ref q_22, .ref q_23, .ref q_24, .ref q_25, .int 0, .int 1, .int 0, .int 0, .int 0])), (q_6, .inr (3, [.ref q_4, .ref q_73, .ref q_74, .ref q_75, .ref q_76, .ref q_77, .int 0, .int 0])), (q_73, .inl (cI, 7, .inl f_78)), (q_74, .inl (cI, 7, .inl f_79)), (q_75, .inl (cI, 7, .inl f_80)), (q_76, .inl (cI, 4, .inl f_81)), (q_8, .inr (2, [.ref q_91, .int 0, .int 0, .int 0])), (q_91, .inl (cI, 1107, .inl (fun _ => 0))), (q_102, .inr (10, ((.ref q_103) :: (.ref q_104) :: (.int 0) :: (.int 0) :: (.int 0) :: (.int (-1)) :: (.int 0) :: (.int 0) :: (.int 0) :: (.int 0) :: (.long 0) :: (.ref q_105) :: (.ref q_106) :: (.ref q_107) :: (.ref q_108) :: (.ref q_109) :: (.ref q_110) :: (.ref q_111) :: (.ref q_112) :: (.ref q_113) :: (.ref q_114) :: (.ref q_115) :: (.ref q_116) :: (.ref q_117) :: (.ref q_118) :: (.ref q_119) :: (.ref q_120) :: (.ref q_121) :: (.ref q_122) :: (.ref q_123) :: (.ref q_124) :: (.ref q_125) :: (.ref q_126) :: (.ref q_127) :: (.ref q_128) :: (.ref q_129) :: (.ref q_130) :: (.ref q_131) :: (.ref q_132) :: (.ref q_133) :: (.ref q_134) :: (.int 0) :: (.int 0) :: (.int 0) :: (.int 0) :: (.int 0) :: (.int 0) :: (.int 0) :: (.int 0) :: (.int 0) :: (.ref q_135) :: (.ref q_136) :: (.int 0) :: (.ref q_137) :: (.int 0) :: (.int 0) :: (.int 0) :: (.int 0) :: (.int 0) :: (.int 0) :: (.ref q_138) :: (.int 0) :: (.ref q_139) :: (.ref q_140) :: (.ref q_141) :: (.ref q_142) :: (.ref q_143) :: (.ref q_144) :: (.ref q_145) :: (.ref q_146) :: (.ref q_147) :: (.ref q_148) :: (.int 0) :: (.int 0) :: (.ref q_149) :: (.ref q_150) :: []))), (q_105, .inl (cI, 2, .inl (lst [0, 0]))), (q_107, .inl (cI, 2, .inl (lst [0, 0]))), (q_135, .inl (cI, 27, .inl (lst [(-1), (-1), (-1), (-1), (-1), (-1), (-1), 0, 0, 0, 0, 0, 0, 0, (-1), (-1), (-1), (-1), (-1), (-1), (-1), 0, 0, 0, 0, 0, 0]))), (q_137, .inl (cI, 1107, .inl (fun _ => 0)))]) [0, 3, 38, 39, 40, 41, 42, 50, 51, 67, 70, 72, 100, 102] rfl
      have hD := hD.sub (ws' := [(q_1, .inr (9, [.ref q_2, .ref q_3, .ref q_4, .ref q_5, .ref q_6, .ref q_7, .ref q_8, .ref q_9, .ref q_10, .ref q_11, .ref q_12, .ref q_13, .int 0])), (q_4, .inr (8, [.int 0, .int 0, .int 0, .ref q_16, .ref q_17, .ref q_18, .ref q_19, .ref q_20, .ref q_21, .ref q_22, .ref q_23, .ref q_24, .ref q_25, .int 0, .int 1, .int 0, .int 0, .int 0])), (q_6, .inr (3, [.ref q_4, .ref q_73, .ref q_74, .ref q_75, .ref q_76, .ref q_77, .int 0, .int 0])), (q_73, .inl (cI, 7, .inl f_78)), (q_74, .inl (cI, 7, .inl f_79)), (q_75, .inl (cI, 7, .inl f_80)), (q_76, .inl (cI, 4, .inl f_81)), (q_8, .inr (2, [.ref q_91, .int 0, .int 0, .int 0])), (q_91, .inl (cI, 1107, .inl (fun _ => 0))), (q_102, .inr (10, ((.ref q_103) :: (.ref q_104) :: (.int 0) :: (.int 0) :: (.int 0) :: (.int (-1)) :: (.int 0) :: (.int 0) :: (.int 0) :: (.int 0) :: (.long 0) :: (.ref q_105) :: (.ref q_106) :: (.ref q_107) :: (.ref q_108) :: (.ref q_109) :: (.ref q_110) :: (.ref q_111) :: (.ref q_112) :: (.ref q_113) :: (.ref q_114) :: (.ref q_115) :: (.ref q_116) :: (.ref q_117) :: (.ref q_118) :: (.ref q_119) :: (.ref q_120) :: (.ref q_121) :: (.ref q_122) :: (.ref q_123) :: (.ref q_124) :: (.ref q_125) :: (.ref q_126) :: (.ref q_127) :: (.ref q_128) :: (.ref q_129) :: (.ref q_130) :: (.ref q_131) :: (.ref q_132) :: (.ref q_133) :: (.ref q_134) :: (.int 0) :: (.int 0) :: (.int 0) :: (.int 0) :: (.int 0) :: (.int 0) :: (.int 0) :: (.int 0) :: (.int 0) :: (.ref q_135) :: (.ref q_136) :: (.int 0) :: (.ref q_137) :: (.int 0) :: (.int 0) :: (.int 0) :: (.int 0) :: (.int 0) :: (.int 0) :: (.ref q_138) :: (.int 0) :: (.ref q_139) :: (.ref q_140) :: (.ref q_141) :: (.ref q_142) :: (.ref q_143) :: (.ref q_144) :: (.ref q_145) :: (.ref q_146) :: (.ref q_147) :: (.ref q_148) :: (.int 0) :: (.int 0) :: (.ref q_149) :: (.ref q_150) :: []))), (q_105, .inl (cI, 2, .inl (lst [0, 0]))), (q_107, .inl (cI, 2, .inl (lst [0, 0]))), (q_135, .inl (cI, 27, .inl (lst [(-1), (-1), (-1), (-1), (-1), (-1), (-1), 0, 0, 0, 0, 0, 0, 0, (-1), (-1), (-1), (-1), (-1), (-1), (-1), 0, 0, 0, 0, 0, 0]))), (q_137, .inl (cI, 1107, .inl (fun _ => 0)))]) [0, 3, 38, 39, 40, 41, 42, 50, 51, 67, 70, 72, 100, 102] (by decide) rfl
      refine lv_tableIn (off := 581) (tgt := 614) hx hb dL_law_33 (by decide) (by decide) (by decide +kernel) (by decide) ?_
      refine lv_aload_n hx hb dL_law_614 rfl (lv_at hl 2 rfl) ?_
      refine xc_core (wr := [(q_102, .inr (10, ((.ref q_103) :: (.ref q_104) :: (.int 0) :: (.int 0) :: (.int 0) :: (.int (-1)) :: (.int 0) :: (.int 0) :: (.int 0) :: (.int 0) :: (.long 0) :: (.ref q_105) :: (.ref q_106) :: (.ref q_107) :: (.ref q_108) :: (.ref q_109) :: (.ref q_110) :: (.ref q_111) :: (.ref q_112) :: (.ref q_113) :: (.ref q_114) :: (.ref q_115) :: (.ref q_116) :: (.ref q_117) :: (.ref q_118) :: (.ref q_119) :: (.ref q_120) :: (.ref q_121) :: (.ref q_122) :: (.ref q_123) :: (.ref q_124) :: (.ref q_125) :: (.ref q_126) :: (.ref q_127) :: (.ref q_128) :: (.ref q_129) :: (.ref q_130) :: (.ref q_131) :: (.ref q_132) :: (.ref q_133) :: (.ref q_134) :: (.int 0) :: (.int 0) :: (.int 0) :: (.int 0) :: (.int 0) :: (.int 0) :: (.int 0) :: (.int 0) :: (.int 0) :: (.ref q_135) :: (.ref q_136) :: (.int 0) :: (.ref q_137) :: (.int 0) :: (.int 0) :: (.int 0) :: (.int 0) :: (.int 0) :: (.int 0) :: (.ref q_138) :: (.int 0) :: (.ref q_139) :: (.ref q_140) :: (.ref q_141) :: (.ref q_142) :: (.ref q_143) :: (.ref q_144) :: (.ref q_145) :: (.ref q_146) :: (.ref q_147) :: (.ref q_148) :: (.int 0) :: (.int 0) :: (.ref q_149) :: (.ref q_150) :: []))), (q_105, .inl (cI, 2, .inl (lst [0, 0]))), (q_107, .inl (cI, 2, .inl (lst [0, 0]))), (q_135, .inl (cI, 27, .inl (lst [(-1), (-1), (-1), (-1), (-1), (-1), (-1), 0, 0, 0, 0, 0, 0, 0, (-1), (-1), (-1), (-1), (-1), (-1), (-1), 0, 0, 0, 0, 0, 0]))), (q_137, .inl (cI, 1107, .inl (fun _ => 0)))]) (k := 116) (n := 11963) (xc_runV (As := []) (rest := []) hx hb hml hown hts hG hE hP hD hS hA [0, 1, 2, 3, 4, 5, 6, 7, 8] (by decide) rfl (cX9_year_1 l D cB cI cJ cZ aK aV q_1 q_2 q_3 q_4 q_5 q_6 q_7 q_8 q_9 q_10 q_11 q_12 q_13 q_16 q_17 q_18 q_19 q_20 q_21 q_22 q_23 q_24 q_25 q_73 q_74 q_75 q_76 q_77 f_78 f_79 f_80 f_81 q_91 ((fun _ => 0))) kw973 kw970 kw971 kw972 kw112 (show XD yX9_year 0 from by decide +kernel) (by decide) rfl rfl 0 rfl hl.1 rfl (Nat.le_of_ble_eq_true rfl) dL_law_615 (by decide)) hP hD hS hA [0, 1, 2, 3, 4, 5, 6, 7, 8] [9, 10, 11, 12, 13] rfl rfl (by decide) (by decide) (Nat.le_of_ble_eq_true rfl) (Nat.le_of_ble_eq_true rfl) (fun r w1 H locs hpost hP hD hS => ?_)
      obtain rfl := hpost
      have hP := hP.sub (ws' := [(q_102, .inr (10, ((.ref q_103) :: (.ref q_104) :: (.int 0) :: (.int 0) :: (.int 0) :: (.int (-1)) :: (.int 0) :: (.int 0) :: (.int 0) :: (.int 0) :: (.long 0) :: (.ref q_105) :: (.ref q_106) :: (.ref q_107) :: (.ref q_108) :: (.ref q_109) :: (.ref q_110) :: (.ref q_111) :: (.ref q_112) :: (.ref q_113) :: (.ref q_114) :: (.ref q_115) :: (.ref q_116) :: (.ref q_117) :: (.ref q_118) :: (.ref q_119) :: (.ref q_120) :: (.ref q_121) :: (.ref q_122) :: (.ref q_123) :: (.ref q_124) :: (.ref q_125) :: (.ref q_126) :: (.ref q_127) :: (.ref q_128) :: (.ref q_129) :: (.ref q_130) :: (.ref q_131) :: (.ref q_132) :: (.ref q_133) :: (.ref q_134) :: (.int 0) :: (.int 0) :: (.int 0) :: (.int 0) :: (.int 0) :: (.int 0) :: (.int 0) :: (.int 0) :: (.int 0) :: (.ref q_135) :: (.ref q_136) :: (.int 0) :: (.ref q_137) :: (.int 0) :: (.int 0) :: (.int 0) :: (.int 0) :: (.int 0) :: (.int 0) :: (.ref q_138) :: (.int 0) :: (.ref q_139) :: (.ref q_140) :: (.ref q_141) :: (.ref q_142) :: (.ref q_143) :: (.ref q_144) :: (.ref q_145) :: (.ref q_146) :: (.ref q_147) :: (.ref q_148) :: (.int 0) :: (.int 0) :: (.ref q_149) :: (.ref q_150) :: []))), (q_105, .inl (cI, 2, .inl (lst [0, 0]))), (q_107, .inl (cI, 2, .inl (lst [0, 0]))), (q_135, .inl (cI, 27, .inl (lst [(-1), (-1), (-1), (-1), (-1), (-1), (-1), 0, 0, 0, 0, 0, 0, 0, (-1), (-1), (-1), (-1), (-1), (-1), (-1), 0, 0, 0, 0, 0, 0]))), (q_137, .inl (cI, 1107, .inl (fun _ => 0)))]) [0, 1, 2, 3, 4] rfl
      have hD := hD.sub (ws' := [(q_102, .inr (10, ((.ref q_103) :: (.ref q_104) :: (.int 0) :: (.int 0) :: (.int 0) :: (.int (-1)) :: (.int 0) :: (.int 0) :: (.int 0) :: (.int 0) :: (.long 0) :: (.ref q_105) :: (.ref q_106) :: (.ref q_107) :: (.ref q_108) :: (.ref q_109) :: (.ref q_110) :: (.ref q_111) :: (.ref q_112) :: (.ref q_113) :: (.ref q_114) :: (.ref q_115) :: (.ref q_116) :: (.ref q_117) :: (.ref q_118) :: (.ref q_119) :: (.ref q_120) :: (.ref q_121) :: (.ref q_122) :: (.ref q_123) :: (.ref q_124) :: (.ref q_125) :: (.ref q_126) :: (.ref q_127) :: (.ref q_128) :: (.ref q_129) :: (.ref q_130) :: (.ref q_131) :: (.ref q_132) :: (.ref q_133) :: (.ref q_134) :: (.int 0) :: (.int 0) :: (.int 0) :: (.int 0) :: (.int 0) :: (.int 0) :: (.int 0) :: (.int 0) :: (.int 0) :: (.ref q_135) :: (.ref q_136) :: (.int 0) :: (.ref q_137) :: (.int 0) :: (.int 0) :: (.int 0) :: (.int 0) :: (.int 0) :: (.int 0) :: (.ref q_138) :: (.int 0) :: (.ref q_139) :: (.ref q_140) :: (.ref q_141) :: (.ref q_142) :: (.ref q_143) :: (.ref q_144) :: (.ref q_145) :: (.ref q_146) :: (.ref q_147) :: (.ref q_148) :: (.int 0) :: (.int 0) :: (.ref q_149) :: (.ref q_150) :: []))), (q_105, .inl (cI, 2, .inl (lst [0, 0]))), (q_107, .inl (cI, 2, .inl (lst [0, 0]))), (q_135, .inl (cI, 27, .inl (lst [(-1), (-1), (-1), (-1), (-1), (-1), (-1), 0, 0, 0, 0, 0, 0, 0, (-1), (-1), (-1), (-1), (-1), (-1), (-1), 0, 0, 0, 0, 0, 0]))), (q_137, .inl (cI, 1107, .inl (fun _ => 0)))]) [0, 1, 2, 3, 4] (by decide) rfl
      refine lv_aload_n hx hb dL_law_618 rfl (lv_at hl 1 rfl) ?_
      refine xc_core (wr := []) (k := 116) (n := 11963) (xc_runV (As := []) (rest := [.int 0]) hx hb hml hown hts hG hE hP hD hS hA [0, 1, 2, 3, 4] (by decide) rfl (cX10_year_1 l D cB cI cJ cZ aK aV q_102 q_103 q_104 q_105 q_106 q_107 q_108 q_109 q_110 q_111 q_112 q_113 q_114 q_115 q_116 q_117 q_118 q_119 q_120 q_121 q_122 q_123 q_124 q_125 q_126 q_127 q_128 q_129 q_130 q_131 q_132 q_133 q_134 q_135 q_136 q_137 q_138 q_139 q_140 q_141 q_142 q_143 q_144 q_145 q_146 q_147 q_148 q_149 q_150 ((fun _ => 0))) kw1802 kw1799 kw1800 kw1801 kw127 (show XD yX10_year 0 from by decide +kernel) (by decide) rfl rfl 0 rfl hl.1 rfl (Nat.le_of_ble_eq_true rfl) dL_law_619 (by decide)) hP hD hS hA [0, 1, 2, 3, 4] [] rfl rfl (by decide) (by decide) (Nat.le_of_ble_eq_true rfl) (Nat.le_of_ble_eq_true rfl) (fun r w1 H locs hpost hP hD hS => ?_)
      obtain rfl := hpost
      have hP := hP.sub (ws' := []) [] rfl
      have hD := hD.sub (ws' := []) [] (by decide) rfl
      refine lv_icmp_eq (tgt := 1527) hx hb dL_law_622 (by decide) (fun _ => ?_) (fun h => absurd h (by decide +kernel))
      refine lv_iinc (v := 6) (lv' := [(3, .int 6), (2, .ref q_102), (1, .ref q_1), (0, .ref b)]) hx hb dL_law_1527 hl (k := 0) rfl (by decide +kernel) (by decide) rfl (fun ls hl => ?_)
      refine lv_goto (tgt := 18) hx hb dL_law_1530 (by decide) ?_
      refine lv_iload_n hx hb dL_law_18 rfl (lv_at hl 0 rfl) ?_
      refine lv_aload_n hx hb dL_law_19 rfl (lv_at hl 3 rfl) ?_
      refine va_slen hx hb hX hbl hbA hS dL_law_20 ?_
      refine xt_i (v := 6) (by decide +kernel) ?_
      refine lv_bipush (v := 6) hx hb dL_law_21 (by decide +kernel) ?_
      refine lv_isub hx hb dL_law_23 ?_
      refine xt_i (v := 0) (by decide +kernel) ?_
      refine lv_icmp_gt (tgt := 1533) hx hb dL_law_24 (by decide) (fun _ => ?_) (fun h => absurd h (by decide +kernel))
      refine lv_iconst (v := 1) hx hb dL_law_1533 (by decide +kernel) ?_
      refine va_forget (fun q hq => by have z := hS.2.2 q hq; rw [hAe] at z; exact z) ?_
      refine W.widen (k := 600000) (n := 7302250) (Nat.le_of_ble_eq_true rfl) (Nat.le_of_ble_eq_true rfl) ?_
      exact lw_ret hx hb hr hlocks dL_law_1534
    by_cases c_171 : v_157 = 13
    · subst c_171
      have hP := hP.sub (ws' := [(q_1, .inr (9, [.ref q_2, .ref q_3, .ref q_4, .ref q_5, .ref q_6, .ref q_7, .ref q_8, .ref q_9, .ref q_10, .ref q_11, .ref q_12, .ref q_13, .int 0])), (q_8, .inr (2, [.ref q_91, .int 0, .int 0, .int 0])), (q_102, .inr (10, ((.ref q_103) :: (.ref q_104) :: (.int 0) :: (.int 0) :: (.int 0) :: (.int (-1)) :: (.int 0) :: (.int 0) :: (.int 0) :: (.int 0) :: (.long 0) :: (.ref q_105) :: (.ref q_106) :: (.ref q_107) :: (.ref q_108) :: (.ref q_109) :: (.ref q_110) :: (.ref q_111) :: (.ref q_112) :: (.ref q_113) :: (.ref q_114) :: (.ref q_115) :: (.ref q_116) :: (.ref q_117) :: (.ref q_118) :: (.ref q_119) :: (.ref q_120) :: (.ref q_121) :: (.ref q_122) :: (.ref q_123) :: (.ref q_124) :: (.ref q_125) :: (.ref q_126) :: (.ref q_127) :: (.ref q_128) :: (.ref q_129) :: (.ref q_130) :: (.ref q_131) :: (.ref q_132) :: (.ref q_133) :: (.ref q_134) :: (.int 0) :: (.int 0) :: (.int 0) :: (.int 0) :: (.int 0) :: (.int 0) :: (.int 0) :: (.int 0) :: (.int 0) :: (.ref q_135) :: (.ref q_136) :: (.int 0) :: (.ref q_137) :: (.int 0) :: (.int 0) :: (.int 0) :: (.int 0) :: (.int 0) :: (.int 0) :: (.ref q_138) :: (.int 0) :: (.ref q_139) :: (.ref q_140) :: (.ref q_141) :: (.ref q_142) :: (.ref q_143) :: (.ref q_144) :: (.ref q_145) :: (.ref q_146) :: (.ref q_147) :: (.ref q_148) :: (.int 0) :: (.int 0) :: (.ref q_149) :: (.ref q_150) :: [])))]) [0, 50, 67] rfl
      have hD := hD.sub (ws' := [(q_1, .inr (9, [.ref q_2, .ref q_3, .ref q_4, .ref q_5, .ref q_6, .ref q_7, .ref q_8, .ref q_9, .ref q_10, .ref q_11, .ref q_12, .ref q_13, .int 0])), (q_8, .inr (2, [.ref q_91, .int 0, .int 0, .int 0])), (q_102, .inr (10, ((.ref q_103) :: (.ref q_104) :: (.int 0) :: (.int 0) :: (.int 0) :: (.int (-1)) :: (.int 0) :: (.int 0) :: (.int 0) :: (.int 0) :: (.long 0) :: (.ref q_105) :: (.ref q_106) :: (.ref q_107) :: (.ref q_108) :: (.ref q_109) :: (.ref q_110) :: (.ref q_111) :: (.ref q_112) :: (.ref q_113) :: (.ref q_114) :: (.ref q_115) :: (.ref q_116) :: (.ref q_117) :: (.ref q_118) :: (.ref q_119) :: (.ref q_120) :: (.ref q_121) :: (.ref q_122) :: (.ref q_123) :: (.ref q_124) :: (.ref q_125) :: (.ref q_126) :: (.ref q_127) :: (.ref q_128) :: (.ref q_129) :: (.ref q_130) :: (.ref q_131) :: (.ref q_132) :: (.ref q_133) :: (.ref q_134) :: (.int 0) :: (.int 0) :: (.int 0) :: (.int 0) :: (.int 0) :: (.int 0) :: (.int 0) :: (.int 0) :: (.int 0) :: (.ref q_135) :: (.ref q_136) :: (.int 0) :: (.ref q_137) :: (.int 0) :: (.int 0) :: (.int 0) :: (.int 0) :: (.int 0) :: (.int 0) :: (.ref q_138) :: (.int 0) :: (.ref q_139) :: (.ref q_140) :: (.ref q_141) :: (.ref q_142) :: (.ref q_143) :: (.ref q_144) :: (.ref q_145) :: (.ref q_146) :: (.ref q_147) :: (.ref q_148) :: (.int 0) :: (.int 0) :: (.ref q_149) :: (.ref q_150) :: [])))]) [0, 50, 67] (by decide) rfl
      refine lv_tableIn (off := 594) (tgt := 627) hx hb dL_law_33 (by decide) (by decide) (by decide +kernel) (by decide) ?_
      refine lv_aload_n hx hb dL_law_627 rfl (lv_at hl 2 rfl) ?_
      refine xc_core (wr := [(q_102, .inr (10, ((.ref q_103) :: (.ref q_104) :: (.int 0) :: (.int 0) :: (.int 0) :: (.int (-1)) :: (.int 0) :: (.int 0) :: (.int 0) :: (.int 0) :: (.long 0) :: (.ref q_105) :: (.ref q_106) :: (.ref q_107) :: (.ref q_108) :: (.ref q_109) :: (.ref q_110) :: (.ref q_111) :: (.ref q_112) :: (.ref q_113) :: (.ref q_114) :: (.ref q_115) :: (.ref q_116) :: (.ref q_117) :: (.ref q_118) :: (.ref q_119) :: (.ref q_120) :: (.ref q_121) :: (.ref q_122) :: (.ref q_123) :: (.ref q_124) :: (.ref q_125) :: (.ref q_126) :: (.ref q_127) :: (.ref q_128) :: (.ref q_129) :: (.ref q_130) :: (.ref q_131) :: (.ref q_132) :: (.ref q_133) :: (.ref q_134) :: (.int 0) :: (.int 0) :: (.int 0) :: (.int 0) :: (.int 0) :: (.int 0) :: (.int 0) :: (.int 0) :: (.int 0) :: (.ref q_135) :: (.ref q_136) :: (.int 0) :: (.ref q_137) :: (.int 0) :: (.int 0) :: (.int 0) :: (.int 0) :: (.int 0) :: (.int 0) :: (.ref q_138) :: (.int 0) :: (.ref q_139) :: (.ref q_140) :: (.ref q_141) :: (.ref q_142) :: (.ref q_143) :: (.ref q_144) :: (.ref q_145) :: (.ref q_146) :: (.ref q_147) :: (.ref q_148) :: (.int 0) :: (.int 0) :: (.ref q_149) :: (.ref q_150) :: [])))]) (k := 116) (n := 11963) (xc_runV (As := []) (rest := []) hx hb hml hown hts hG hE hP hD hS hA [0, 1] (by decide) rfl (cX9_undo_1 l D cB cI cJ cZ aK aV q_1 q_2 q_3 q_4 q_5 q_6 q_7 q_8 q_9 q_10 q_11 q_12 q_13 q_91) kw990 kw987 kw988 kw989 kw112 (show XD yX9_undo 0 from by decide +kernel) (by decide) rfl rfl 0 rfl hl.1 rfl (Nat.le_of_ble_eq_true rfl) dL_law_628 (by decide)) hP hD hS hA [0, 1] [2] rfl rfl (by decide) (by decide) (Nat.le_of_ble_eq_true rfl) (Nat.le_of_ble_eq_true rfl) (fun r w1 H locs hpost hP hD hS => ?_)
      obtain rfl := hpost
      have hP := hP.sub (ws' := [(q_102, .inr (10, ((.ref q_103) :: (.ref q_104) :: (.int 0) :: (.int 0) :: (.int 0) :: (.int (-1)) :: (.int 0) :: (.int 0) :: (.int 0) :: (.int 0) :: (.long 0) :: (.ref q_105) :: (.ref q_106) :: (.ref q_107) :: (.ref q_108) :: (.ref q_109) :: (.ref q_110) :: (.ref q_111) :: (.ref q_112) :: (.ref q_113) :: (.ref q_114) :: (.ref q_115) :: (.ref q_116) :: (.ref q_117) :: (.ref q_118) :: (.ref q_119) :: (.ref q_120) :: (.ref q_121) :: (.ref q_122) :: (.ref q_123) :: (.ref q_124) :: (.ref q_125) :: (.ref q_126) :: (.ref q_127) :: (.ref q_128) :: (.ref q_129) :: (.ref q_130) :: (.ref q_131) :: (.ref q_132) :: (.ref q_133) :: (.ref q_134) :: (.int 0) :: (.int 0) :: (.int 0) :: (.int 0) :: (.int 0) :: (.int 0) :: (.int 0) :: (.int 0) :: (.int 0) :: (.ref q_135) :: (.ref q_136) :: (.int 0) :: (.ref q_137) :: (.int 0) :: (.int 0) :: (.int 0) :: (.int 0) :: (.int 0) :: (.int 0) :: (.ref q_138) :: (.int 0) :: (.ref q_139) :: (.ref q_140) :: (.ref q_141) :: (.ref q_142) :: (.ref q_143) :: (.ref q_144) :: (.ref q_145) :: (.ref q_146) :: (.ref q_147) :: (.ref q_148) :: (.int 0) :: (.int 0) :: (.ref q_149) :: (.ref q_150) :: [])))]) [0] rfl
      have hD := hD.sub (ws' := [(q_102, .inr (10, ((.ref q_103) :: (.ref q_104) :: (.int 0) :: (.int 0) :: (.int 0) :: (.int (-1)) :: (.int 0) :: (.int 0) :: (.int 0) :: (.int 0) :: (.long 0) :: (.ref q_105) :: (.ref q_106) :: (.ref q_107) :: (.ref q_108) :: (.ref q_109) :: (.ref q_110) :: (.ref q_111) :: (.ref q_112) :: (.ref q_113) :: (.ref q_114) :: (.ref q_115) :: (.ref q_116) :: (.ref q_117) :: (.ref q_118) :: (.ref q_119) :: (.ref q_120) :: (.ref q_121) :: (.ref q_122) :: (.ref q_123) :: (.ref q_124) :: (.ref q_125) :: (.ref q_126) :: (.ref q_127) :: (.ref q_128) :: (.ref q_129) :: (.ref q_130) :: (.ref q_131) :: (.ref q_132) :: (.ref q_133) :: (.ref q_134) :: (.int 0) :: (.int 0) :: (.int 0) :: (.int 0) :: (.int 0) :: (.int 0) :: (.int 0) :: (.int 0) :: (.int 0) :: (.ref q_135) :: (.ref q_136) :: (.int 0) :: (.ref q_137) :: (.int 0) :: (.int 0) :: (.int 0) :: (.int 0) :: (.int 0) :: (.int 0) :: (.ref q_138) :: (.int 0) :: (.ref q_139) :: (.ref q_140) :: (.ref q_141) :: (.ref q_142) :: (.ref q_143) :: (.ref q_144) :: (.ref q_145) :: (.ref q_146) :: (.ref q_147) :: (.ref q_148) :: (.int 0) :: (.int 0) :: (.ref q_149) :: (.ref q_150) :: [])))]) [0] (by decide) rfl
      refine lv_aload_n hx hb dL_law_631 rfl (lv_at hl 1 rfl) ?_
      refine xc_core (wr := []) (k := 116) (n := 11963) (xc_runV (As := []) (rest := [.int 0]) hx hb hml hown hts hG hE hP hD hS hA [0] (by decide) rfl (cX10_undo_1 l D cB cI cJ cZ aK aV q_102 q_103 q_104 q_105 q_106 q_107 q_108 q_109 q_110 q_111 q_112 q_113 q_114 q_115 q_116 q_117 q_118 q_119 q_120 q_121 q_122 q_123 q_124 q_125 q_126 q_127 q_128 q_129 q_130 q_131 q_132 q_133 q_134 q_135 q_136 q_137 q_138 q_139 q_140 q_141 q_142 q_143 q_144 q_145 q_146 q_147 q_148 q_149 q_150) kw1814 kw1811 kw1812 kw1813 kw127 (show XD yX10_undo 0 from by decide +kernel) (by decide) rfl rfl 0 rfl hl.1 rfl (Nat.le_of_ble_eq_true rfl) dL_law_632 (by decide)) hP hD hS hA [0] [] rfl rfl (by decide) (by decide) (Nat.le_of_ble_eq_true rfl) (Nat.le_of_ble_eq_true rfl) (fun r w1 H locs hpost hP hD hS => ?_)
      obtain rfl := hpost
      have hP := hP.sub (ws' := []) [] rfl
      have hD := hD.sub (ws' := []) [] (by decide) rfl
      refine lv_icmp_eq (tgt := 1527) hx hb dL_law_635 (by decide) (fun _ => ?_) (fun h => absurd h (by decide +kernel))
      refine lv_iinc (v := 6) (lv' := [(3, .int 6), (2, .ref q_102), (1, .ref q_1), (0, .ref b)]) hx hb dL_law_1527 hl (k := 0) rfl (by decide +kernel) (by decide) rfl (fun ls hl => ?_)
      refine lv_goto (tgt := 18) hx hb dL_law_1530 (by decide) ?_
      refine lv_iload_n hx hb dL_law_18 rfl (lv_at hl 0 rfl) ?_
      refine lv_aload_n hx hb dL_law_19 rfl (lv_at hl 3 rfl) ?_
      refine va_slen hx hb hX hbl hbA hS dL_law_20 ?_
      refine xt_i (v := 6) (by decide +kernel) ?_
      refine lv_bipush (v := 6) hx hb dL_law_21 (by decide +kernel) ?_
      refine lv_isub hx hb dL_law_23 ?_
      refine xt_i (v := 0) (by decide +kernel) ?_
      refine lv_icmp_gt (tgt := 1533) hx hb dL_law_24 (by decide) (fun _ => ?_) (fun h => absurd h (by decide +kernel))
      refine lv_iconst (v := 1) hx hb dL_law_1533 (by decide +kernel) ?_
      refine va_forget (fun q hq => by have z := hS.2.2 q hq; rw [hAe] at z; exact z) ?_
      refine W.widen (k := 600000) (n := 7302250) (Nat.le_of_ble_eq_true rfl) (Nat.le_of_ble_eq_true rfl) ?_
      exact lw_ret hx hb hr hlocks dL_law_1534
    by_cases c_172 : v_157 = 14
    · subst c_172
      have hP := hP.sub (ws' := [(q_1, .inr (9, [.ref q_2, .ref q_3, .ref q_4, .ref q_5, .ref q_6, .ref q_7, .ref q_8, .ref q_9, .ref q_10, .ref q_11, .ref q_12, .ref q_13, .int 0])), (q_8, .inr (2, [.ref q_91, .int 0, .int 0, .int 0])), (q_102, .inr (10, ((.ref q_103) :: (.ref q_104) :: (.int 0) :: (.int 0) :: (.int 0) :: (.int (-1)) :: (.int 0) :: (.int 0) :: (.int 0) :: (.int 0) :: (.long 0) :: (.ref q_105) :: (.ref q_106) :: (.ref q_107) :: (.ref q_108) :: (.ref q_109) :: (.ref q_110) :: (.ref q_111) :: (.ref q_112) :: (.ref q_113) :: (.ref q_114) :: (.ref q_115) :: (.ref q_116) :: (.ref q_117) :: (.ref q_118) :: (.ref q_119) :: (.ref q_120) :: (.ref q_121) :: (.ref q_122) :: (.ref q_123) :: (.ref q_124) :: (.ref q_125) :: (.ref q_126) :: (.ref q_127) :: (.ref q_128) :: (.ref q_129) :: (.ref q_130) :: (.ref q_131) :: (.ref q_132) :: (.ref q_133) :: (.ref q_134) :: (.int 0) :: (.int 0) :: (.int 0) :: (.int 0) :: (.int 0) :: (.int 0) :: (.int 0) :: (.int 0) :: (.int 0) :: (.ref q_135) :: (.ref q_136) :: (.int 0) :: (.ref q_137) :: (.int 0) :: (.int 0) :: (.int 0) :: (.int 0) :: (.int 0) :: (.int 0) :: (.ref q_138) :: (.int 0) :: (.ref q_139) :: (.ref q_140) :: (.ref q_141) :: (.ref q_142) :: (.ref q_143) :: (.ref q_144) :: (.ref q_145) :: (.ref q_146) :: (.ref q_147) :: (.ref q_148) :: (.int 0) :: (.int 0) :: (.ref q_149) :: (.ref q_150) :: [])))]) [0, 50, 67] rfl
      have hD := hD.sub (ws' := [(q_1, .inr (9, [.ref q_2, .ref q_3, .ref q_4, .ref q_5, .ref q_6, .ref q_7, .ref q_8, .ref q_9, .ref q_10, .ref q_11, .ref q_12, .ref q_13, .int 0])), (q_8, .inr (2, [.ref q_91, .int 0, .int 0, .int 0])), (q_102, .inr (10, ((.ref q_103) :: (.ref q_104) :: (.int 0) :: (.int 0) :: (.int 0) :: (.int (-1)) :: (.int 0) :: (.int 0) :: (.int 0) :: (.int 0) :: (.long 0) :: (.ref q_105) :: (.ref q_106) :: (.ref q_107) :: (.ref q_108) :: (.ref q_109) :: (.ref q_110) :: (.ref q_111) :: (.ref q_112) :: (.ref q_113) :: (.ref q_114) :: (.ref q_115) :: (.ref q_116) :: (.ref q_117) :: (.ref q_118) :: (.ref q_119) :: (.ref q_120) :: (.ref q_121) :: (.ref q_122) :: (.ref q_123) :: (.ref q_124) :: (.ref q_125) :: (.ref q_126) :: (.ref q_127) :: (.ref q_128) :: (.ref q_129) :: (.ref q_130) :: (.ref q_131) :: (.ref q_132) :: (.ref q_133) :: (.ref q_134) :: (.int 0) :: (.int 0) :: (.int 0) :: (.int 0) :: (.int 0) :: (.int 0) :: (.int 0) :: (.int 0) :: (.int 0) :: (.ref q_135) :: (.ref q_136) :: (.int 0) :: (.ref q_137) :: (.int 0) :: (.int 0) :: (.int 0) :: (.int 0) :: (.int 0) :: (.int 0) :: (.ref q_138) :: (.int 0) :: (.ref q_139) :: (.ref q_140) :: (.ref q_141) :: (.ref q_142) :: (.ref q_143) :: (.ref q_144) :: (.ref q_145) :: (.ref q_146) :: (.ref q_147) :: (.ref q_148) :: (.int 0) :: (.int 0) :: (.ref q_149) :: (.ref q_150) :: [])))]) [0, 50, 67] (by decide) rfl
      refine lv_tableIn (off := 607) (tgt := 640) hx hb dL_law_33 (by decide) (by decide) (by decide +kernel) (by decide) ?_
      refine lv_aload_n hx hb dL_law_640 rfl (lv_at hl 2 rfl) ?_
      refine xc_core (wr := [(q_102, .inr (10, ((.ref q_103) :: (.ref q_104) :: (.int 0) :: (.int 0) :: (.int 0) :: (.int (-1)) :: (.int 0) :: (.int 0) :: (.int 0) :: (.int 0) :: (.long 0) :: (.ref q_105) :: (.ref q_106) :: (.ref q_107) :: (.ref q_108) :: (.ref q_109) :: (.ref q_110) :: (.ref q_111) :: (.ref q_112) :: (.ref q_113) :: (.ref q_114) :: (.ref q_115) :: (.ref q_116) :: (.ref q_117) :: (.ref q_118) :: (.ref q_119) :: (.ref q_120) :: (.ref q_121) :: (.ref q_122) :: (.ref q_123) :: (.ref q_124) :: (.ref q_125) :: (.ref q_126) :: (.ref q_127) :: (.ref q_128) :: (.ref q_129) :: (.ref q_130) :: (.ref q_131) :: (.ref q_132) :: (.ref q_133) :: (.ref q_134) :: (.int 0) :: (.int 0) :: (.int 0) :: (.int 0) :: (.int 0) :: (.int 0) :: (.int 0) :: (.int 0) :: (.int 0) :: (.ref q_135) :: (.ref q_136) :: (.int 0) :: (.ref q_137) :: (.int 0) :: (.int 0) :: (.int 0) :: (.int 0) :: (.int 0) :: (.int 0) :: (.ref q_138) :: (.int 0) :: (.ref q_139) :: (.ref q_140) :: (.ref q_141) :: (.ref q_142) :: (.ref q_143) :: (.ref q_144) :: (.ref q_145) :: (.ref q_146) :: (.ref q_147) :: (.ref q_148) :: (.int 0) :: (.int 0) :: (.ref q_149) :: (.ref q_150) :: [])))]) (k := 116) (n := 11963) (xc_runV (As := []) (rest := []) hx hb hml hown hts hG hE hP hD hS hA [0, 1] (by decide) rfl (cX9_redo_1 l D cB cI cJ cZ aK aV q_1 q_2 q_3 q_4 q_5 q_6 q_7 q_8 q_9 q_10 q_11 q_12 q_13 q_91) kw1002 kw999 kw1000 kw1001 kw112 (show XD yX9_redo 0 from by decide +kernel) (by decide) rfl rfl 0 rfl hl.1 rfl (Nat.le_of_ble_eq_true rfl) dL_law_641 (by decide)) hP hD hS hA [0, 1] [2] rfl rfl (by decide) (by decide) (Nat.le_of_ble_eq_true rfl) (Nat.le_of_ble_eq_true rfl) (fun r w1 H locs hpost hP hD hS => ?_)
      obtain rfl := hpost
      have hP := hP.sub (ws' := [(q_102, .inr (10, ((.ref q_103) :: (.ref q_104) :: (.int 0) :: (.int 0) :: (.int 0) :: (.int (-1)) :: (.int 0) :: (.int 0) :: (.int 0) :: (.int 0) :: (.long 0) :: (.ref q_105) :: (.ref q_106) :: (.ref q_107) :: (.ref q_108) :: (.ref q_109) :: (.ref q_110) :: (.ref q_111) :: (.ref q_112) :: (.ref q_113) :: (.ref q_114) :: (.ref q_115) :: (.ref q_116) :: (.ref q_117) :: (.ref q_118) :: (.ref q_119) :: (.ref q_120) :: (.ref q_121) :: (.ref q_122) :: (.ref q_123) :: (.ref q_124) :: (.ref q_125) :: (.ref q_126) :: (.ref q_127) :: (.ref q_128) :: (.ref q_129) :: (.ref q_130) :: (.ref q_131) :: (.ref q_132) :: (.ref q_133) :: (.ref q_134) :: (.int 0) :: (.int 0) :: (.int 0) :: (.int 0) :: (.int 0) :: (.int 0) :: (.int 0) :: (.int 0) :: (.int 0) :: (.ref q_135) :: (.ref q_136) :: (.int 0) :: (.ref q_137) :: (.int 0) :: (.int 0) :: (.int 0) :: (.int 0) :: (.int 0) :: (.int 0) :: (.ref q_138) :: (.int 0) :: (.ref q_139) :: (.ref q_140) :: (.ref q_141) :: (.ref q_142) :: (.ref q_143) :: (.ref q_144) :: (.ref q_145) :: (.ref q_146) :: (.ref q_147) :: (.ref q_148) :: (.int 0) :: (.int 0) :: (.ref q_149) :: (.ref q_150) :: [])))]) [0] rfl
      have hD := hD.sub (ws' := [(q_102, .inr (10, ((.ref q_103) :: (.ref q_104) :: (.int 0) :: (.int 0) :: (.int 0) :: (.int (-1)) :: (.int 0) :: (.int 0) :: (.int 0) :: (.int 0) :: (.long 0) :: (.ref q_105) :: (.ref q_106) :: (.ref q_107) :: (.ref q_108) :: (.ref q_109) :: (.ref q_110) :: (.ref q_111) :: (.ref q_112) :: (.ref q_113) :: (.ref q_114) :: (.ref q_115) :: (.ref q_116) :: (.ref q_117) :: (.ref q_118) :: (.ref q_119) :: (.ref q_120) :: (.ref q_121) :: (.ref q_122) :: (.ref q_123) :: (.ref q_124) :: (.ref q_125) :: (.ref q_126) :: (.ref q_127) :: (.ref q_128) :: (.ref q_129) :: (.ref q_130) :: (.ref q_131) :: (.ref q_132) :: (.ref q_133) :: (.ref q_134) :: (.int 0) :: (.int 0) :: (.int 0) :: (.int 0) :: (.int 0) :: (.int 0) :: (.int 0) :: (.int 0) :: (.int 0) :: (.ref q_135) :: (.ref q_136) :: (.int 0) :: (.ref q_137) :: (.int 0) :: (.int 0) :: (.int 0) :: (.int 0) :: (.int 0) :: (.int 0) :: (.ref q_138) :: (.int 0) :: (.ref q_139) :: (.ref q_140) :: (.ref q_141) :: (.ref q_142) :: (.ref q_143) :: (.ref q_144) :: (.ref q_145) :: (.ref q_146) :: (.ref q_147) :: (.ref q_148) :: (.int 0) :: (.int 0) :: (.ref q_149) :: (.ref q_150) :: [])))]) [0] (by decide) rfl
      refine lv_aload_n hx hb dL_law_644 rfl (lv_at hl 1 rfl) ?_
      refine xc_core (wr := []) (k := 116) (n := 11963) (xc_runV (As := []) (rest := [.int 0]) hx hb hml hown hts hG hE hP hD hS hA [0] (by decide) rfl (cX10_redo_1 l D cB cI cJ cZ aK aV q_102 q_103 q_104 q_105 q_106 q_107 q_108 q_109 q_110 q_111 q_112 q_113 q_114 q_115 q_116 q_117 q_118 q_119 q_120 q_121 q_122 q_123 q_124 q_125 q_126 q_127 q_128 q_129 q_130 q_131 q_132 q_133 q_134 q_135 q_136 q_137 q_138 q_139 q_140 q_141 q_142 q_143 q_144 q_145 q_146 q_147 q_148 q_149 q_150) kw1822 kw1819 kw1820 kw1821 kw127 (show XD yX10_redo 0 from by decide +kernel) (by decide) rfl rfl 0 rfl hl.1 rfl (Nat.le_of_ble_eq_true rfl) dL_law_645 (by decide)) hP hD hS hA [0] [] rfl rfl (by decide) (by decide) (Nat.le_of_ble_eq_true rfl) (Nat.le_of_ble_eq_true rfl) (fun r w1 H locs hpost hP hD hS => ?_)
      obtain rfl := hpost
      have hP := hP.sub (ws' := []) [] rfl
      have hD := hD.sub (ws' := []) [] (by decide) rfl
      refine lv_icmp_eq (tgt := 1527) hx hb dL_law_648 (by decide) (fun _ => ?_) (fun h => absurd h (by decide +kernel))
      refine lv_iinc (v := 6) (lv' := [(3, .int 6), (2, .ref q_102), (1, .ref q_1), (0, .ref b)]) hx hb dL_law_1527 hl (k := 0) rfl (by decide +kernel) (by decide) rfl (fun ls hl => ?_)
      refine lv_goto (tgt := 18) hx hb dL_law_1530 (by decide) ?_
      refine lv_iload_n hx hb dL_law_18 rfl (lv_at hl 0 rfl) ?_
      refine lv_aload_n hx hb dL_law_19 rfl (lv_at hl 3 rfl) ?_
      refine va_slen hx hb hX hbl hbA hS dL_law_20 ?_
      refine xt_i (v := 6) (by decide +kernel) ?_
      refine lv_bipush (v := 6) hx hb dL_law_21 (by decide +kernel) ?_
      refine lv_isub hx hb dL_law_23 ?_
      refine xt_i (v := 0) (by decide +kernel) ?_
      refine lv_icmp_gt (tgt := 1533) hx hb dL_law_24 (by decide) (fun _ => ?_) (fun h => absurd h (by decide +kernel))
      refine lv_iconst (v := 1) hx hb dL_law_1533 (by decide +kernel) ?_
      refine va_forget (fun q hq => by have z := hS.2.2 q hq; rw [hAe] at z; exact z) ?_
      refine W.widen (k := 600000) (n := 7302250) (Nat.le_of_ble_eq_true rfl) (Nat.le_of_ble_eq_true rfl) ?_
      exact lw_ret hx hb hr hlocks dL_law_1534
    by_cases c_173 : v_157 = 15
    · subst c_173
      have hP := hP.sub (ws' := [(q_1, .inr (9, [.ref q_2, .ref q_3, .ref q_4, .ref q_5, .ref q_6, .ref q_7, .ref q_8, .ref q_9, .ref q_10, .ref q_11, .ref q_12, .ref q_13, .int 0])), (q_4, .inr (8, [.int 0, .int 0, .int 0, .ref q_16, .ref q_17, .ref q_18, .ref q_19, .ref q_20, .ref q_21, .ref q_22, .ref q_23, .ref q_24, .ref q_25, .int 0, .int 1, .int 0, .int 0, .int 0])), (q_102, .inr (10, ((.ref q_103) :: (.ref q_104) :: (.int 0) :: (.int 0) :: (.int 0) :: (.int (-1)) :: (.int 0) :: (.int 0) :: (.int 0) :: (.int 0) :: (.long 0) :: (.ref q_105) :: (.ref q_106) :: (.ref q_107) :: (.ref q_108) :: (.ref q_109) :: (.ref q_110) :: (.ref q_111) :: (.ref q_112) :: (.ref q_113) :: (.ref q_114) :: (.ref q_115) :: (.ref q_116) :: (.ref q_117) :: (.ref q_118) :: (.ref q_119) :: (.ref q_120) :: (.ref q_121) :: (.ref q_122) :: (.ref q_123) :: (.ref q_124) :: (.ref q_125) :: (.ref q_126) :: (.ref q_127) :: (.ref q_128) :: (.ref q_129) :: (.ref q_130) :: (.ref q_131) :: (.ref q_132) :: (.ref q_133) :: (.ref q_134) :: (.int 0) :: (.int 0) :: (.int 0) :: (.int 0) :: (.int 0) :: (.int 0) :: (.int 0) :: (.int 0) :: (.int 0) :: (.ref q_135) :: (.ref q_136) :: (.int 0) :: (.ref q_137) :: (.int 0) :: (.int 0) :: (.int 0) :: (.int 0) :: (.int 0) :: (.int 0) :: (.ref q_138) :: (.int 0) :: (.ref q_139) :: (.ref q_140) :: (.ref q_141) :: (.ref q_142) :: (.ref q_143) :: (.ref q_144) :: (.ref q_145) :: (.ref q_146) :: (.ref q_147) :: (.ref q_148) :: (.int 0) :: (.int 0) :: (.ref q_149) :: (.ref q_150) :: []))), (q_107, .inl (cI, 2, .inl (lst [0, 0])))]) [0, 3, 67, 72] rfl
      have hD := hD.sub (ws' := [(q_1, .inr (9, [.ref q_2, .ref q_3, .ref q_4, .ref q_5, .ref q_6, .ref q_7, .ref q_8, .ref q_9, .ref q_10, .ref q_11, .ref q_12, .ref q_13, .int 0])), (q_4, .inr (8, [.int 0, .int 0, .int 0, .ref q_16, .ref q_17, .ref q_18, .ref q_19, .ref q_20, .ref q_21, .ref q_22, .ref q_23, .ref q_24, .ref q_25, .int 0, .int 1, .int 0, .int 0, .int 0])), (q_102, .inr (10, ((.ref q_103) :: (.ref q_104) :: (.int 0) :: (.int 0) :: (.int 0) :: (.int (-1)) :: (.int 0) :: (.int 0) :: (.int 0) :: (.int 0) :: (.long 0) :: (.ref q_105) :: (.ref q_106) :: (.ref q_107) :: (.ref q_108) :: (.ref q_109) :: (.ref q_110) :: (.ref q_111) :: (.ref q_112) :: (.ref q_113) :: (.ref q_114) :: (.ref q_115) :: (.ref q_116) :: (.ref q_117) :: (.ref q_118) :: (.ref q_119) :: (.ref q_120) :: (.ref q_121) :: (.ref q_122) :: (.ref q_123) :: (.ref q_124) :: (.ref q_125) :: (.ref q_126) :: (.ref q_127) :: (.ref q_128) :: (.ref q_129) :: (.ref q_130) :: (.ref q_131) :: (.ref q_132) :: (.ref q_133) :: (.ref q_134) :: (.int 0) :: (.int 0) :: (.int 0) :: (.int 0) :: (.int 0) :: (.int 0) :: (.int 0) :: (.int 0) :: (.int 0) :: (.ref q_135) :: (.ref q_136) :: (.int 0) :: (.ref q_137) :: (.int 0) :: (.int 0) :: (.int 0) :: (.int 0) :: (.int 0) :: (.int 0) :: (.ref q_138) :: (.int 0) :: (.ref q_139) :: (.ref q_140) :: (.ref q_141) :: (.ref q_142) :: (.ref q_143) :: (.ref q_144) :: (.ref q_145) :: (.ref q_146) :: (.ref q_147) :: (.ref q_148) :: (.int 0) :: (.int 0) :: (.ref q_149) :: (.ref q_150) :: []))), (q_107, .inl (cI, 2, .inl (lst [0, 0])))]) [0, 3, 67, 72] (by decide) rfl
      refine lv_tableIn (off := 620) (tgt := 653) hx hb dL_law_33 (by decide) (by decide) (by decide +kernel) (by decide) ?_
      refine lv_aload_n hx hb dL_law_653 rfl (lv_at hl 2 rfl) ?_
      refine lv_aload_n hx hb dL_law_654 rfl (lv_at hl 3 rfl) ?_
      refine lv_iload_n hx hb dL_law_655 rfl (lv_at hl 0 rfl) ?_
      refine lv_iconst (v := 1) hx hb dL_law_656 (by decide +kernel) ?_
      refine lv_iadd hx hb dL_law_657 ?_
      refine xt_i (v := 1) (by decide +kernel) ?_
      refine va_sld hx hb hX hbl hbA hS (vin (by decide +kernel)) dL_law_658 ?_
      refine xt_i (v := xs 1) rfl ?_
      refine lv_aload_n hx hb dL_law_659 rfl (lv_at hl 3 rfl) ?_
      refine lv_iload_n hx hb dL_law_660 rfl (lv_at hl 0 rfl) ?_
      refine lv_iconst (v := 2) hx hb dL_law_661 (by decide +kernel) ?_
      refine lv_iadd hx hb dL_law_662 ?_
      refine xt_i (v := 2) (by decide +kernel) ?_
      refine va_sld hx hb hX hbl hbA hS (vin (by decide +kernel)) dL_law_663 ?_
      refine xt_i (v := xs 2) rfl ?_
      refine xc_core (wr := [(q_102, .inr (10, ((.ref q_103) :: (.ref q_104) :: (.int 0) :: (.int 0) :: (.int 0) :: (.int (-1)) :: (.int 0) :: (.int 0) :: (.int 0) :: (.int 0) :: (.long 0) :: (.ref q_105) :: (.ref q_106) :: (.ref q_107) :: (.ref q_108) :: (.ref q_109) :: (.ref q_110) :: (.ref q_111) :: (.ref q_112) :: (.ref q_113) :: (.ref q_114) :: (.ref q_115) :: (.ref q_116) :: (.ref q_117) :: (.ref q_118) :: (.ref q_119) :: (.ref q_120) :: (.ref q_121) :: (.ref q_122) :: (.ref q_123) :: (.ref q_124) :: (.ref q_125) :: (.ref q_126) :: (.ref q_127) :: (.ref q_128) :: (.ref q_129) :: (.ref q_130) :: (.ref q_131) :: (.ref q_132) :: (.ref q_133) :: (.ref q_134) :: (.int 0) :: (.int 0) :: (.int 0) :: (.int 0) :: (.int 0) :: (.int 0) :: (.int 0) :: (.int 0) :: (.int 0) :: (.ref q_135) :: (.ref q_136) :: (.int 0) :: (.ref q_137) :: (.int 0) :: (.int 0) :: (.int 0) :: (.int 0) :: (.int 0) :: (.int 0) :: (.ref q_138) :: (.int 0) :: (.ref q_139) :: (.ref q_140) :: (.ref q_141) :: (.ref q_142) :: (.ref q_143) :: (.ref q_144) :: (.ref q_145) :: (.ref q_146) :: (.ref q_147) :: (.ref q_148) :: (.int 0) :: (.int 0) :: (.ref q_149) :: (.ref q_150) :: []))), (q_107, .inl (cI, 2, .inl (lst [0, 0])))]) (k := 116) (n := 11963) (xc_runV (As := [.int (xs 1), .int (xs 2)]) (rest := []) hx hb hml hown hts hG hE hP hD hS hA [0, 1] (by decide) rfl (cX9_gain_1 l D cB cI cJ cZ aK aV q_1 ((xs 1)) ((xs 2)) q_2 q_3 q_4 q_5 q_6 q_7 q_8 q_9 q_10 q_11 q_12 q_13 q_16 q_17 q_18 q_19 q_20 q_21 q_22 q_23 q_24 q_25) kw1010 kw1007 kw1008 kw1009 kw112 (show XD yX9_gain 2 from by decide +kernel) (by decide) rfl rfl 0 rfl hl.1 rfl (Nat.le_of_ble_eq_true rfl) dL_law_664 (by decide)) hP hD hS hA [0, 1] [2, 3] rfl rfl (by decide) (by decide) (Nat.le_of_ble_eq_true rfl) (Nat.le_of_ble_eq_true rfl) (fun r w1 H locs hpost hP hD hS => ?_)
      obtain rfl := hpost
      have hP := hP.sub (ws' := [(q_102, .inr (10, ((.ref q_103) :: (.ref q_104) :: (.int 0) :: (.int 0) :: (.int 0) :: (.int (-1)) :: (.int 0) :: (.int 0) :: (.int 0) :: (.int 0) :: (.long 0) :: (.ref q_105) :: (.ref q_106) :: (.ref q_107) :: (.ref q_108) :: (.ref q_109) :: (.ref q_110) :: (.ref q_111) :: (.ref q_112) :: (.ref q_113) :: (.ref q_114) :: (.ref q_115) :: (.ref q_116) :: (.ref q_117) :: (.ref q_118) :: (.ref q_119) :: (.ref q_120) :: (.ref q_121) :: (.ref q_122) :: (.ref q_123) :: (.ref q_124) :: (.ref q_125) :: (.ref q_126) :: (.ref q_127) :: (.ref q_128) :: (.ref q_129) :: (.ref q_130) :: (.ref q_131) :: (.ref q_132) :: (.ref q_133) :: (.ref q_134) :: (.int 0) :: (.int 0) :: (.int 0) :: (.int 0) :: (.int 0) :: (.int 0) :: (.int 0) :: (.int 0) :: (.int 0) :: (.ref q_135) :: (.ref q_136) :: (.int 0) :: (.ref q_137) :: (.int 0) :: (.int 0) :: (.int 0) :: (.int 0) :: (.int 0) :: (.int 0) :: (.ref q_138) :: (.int 0) :: (.ref q_139) :: (.ref q_140) :: (.ref q_141) :: (.ref q_142) :: (.ref q_143) :: (.ref q_144) :: (.ref q_145) :: (.ref q_146) :: (.ref q_147) :: (.ref q_148) :: (.int 0) :: (.int 0) :: (.ref q_149) :: (.ref q_150) :: []))), (q_107, .inl (cI, 2, .inl (lst [0, 0])))]) [0, 1] rfl
      have hD := hD.sub (ws' := [(q_102, .inr (10, ((.ref q_103) :: (.ref q_104) :: (.int 0) :: (.int 0) :: (.int 0) :: (.int (-1)) :: (.int 0) :: (.int 0) :: (.int 0) :: (.int 0) :: (.long 0) :: (.ref q_105) :: (.ref q_106) :: (.ref q_107) :: (.ref q_108) :: (.ref q_109) :: (.ref q_110) :: (.ref q_111) :: (.ref q_112) :: (.ref q_113) :: (.ref q_114) :: (.ref q_115) :: (.ref q_116) :: (.ref q_117) :: (.ref q_118) :: (.ref q_119) :: (.ref q_120) :: (.ref q_121) :: (.ref q_122) :: (.ref q_123) :: (.ref q_124) :: (.ref q_125) :: (.ref q_126) :: (.ref q_127) :: (.ref q_128) :: (.ref q_129) :: (.ref q_130) :: (.ref q_131) :: (.ref q_132) :: (.ref q_133) :: (.ref q_134) :: (.int 0) :: (.int 0) :: (.int 0) :: (.int 0) :: (.int 0) :: (.int 0) :: (.int 0) :: (.int 0) :: (.int 0) :: (.ref q_135) :: (.ref q_136) :: (.int 0) :: (.ref q_137) :: (.int 0) :: (.int 0) :: (.int 0) :: (.int 0) :: (.int 0) :: (.int 0) :: (.ref q_138) :: (.int 0) :: (.ref q_139) :: (.ref q_140) :: (.ref q_141) :: (.ref q_142) :: (.ref q_143) :: (.ref q_144) :: (.ref q_145) :: (.ref q_146) :: (.ref q_147) :: (.ref q_148) :: (.int 0) :: (.int 0) :: (.ref q_149) :: (.ref q_150) :: []))), (q_107, .inl (cI, 2, .inl (lst [0, 0])))]) [0, 1] (by decide) rfl
      refine lv_aload_n hx hb dL_law_667 rfl (lv_at hl 1 rfl) ?_
      refine lv_aload_n hx hb dL_law_668 rfl (lv_at hl 3 rfl) ?_
      refine lv_iload_n hx hb dL_law_669 rfl (lv_at hl 0 rfl) ?_
      refine lv_iconst (v := 1) hx hb dL_law_670 (by decide +kernel) ?_
      refine lv_iadd hx hb dL_law_671 ?_
      refine xt_i (v := 1) (by decide +kernel) ?_
      refine va_sld hx hb hX hbl hbA hS (vin (by decide +kernel)) dL_law_672 ?_
      refine xt_i (v := xs 1) rfl ?_
      refine lv_aload_n hx hb dL_law_673 rfl (lv_at hl 3 rfl) ?_
      refine lv_iload_n hx hb dL_law_674 rfl (lv_at hl 0 rfl) ?_
      refine lv_iconst (v := 2) hx hb dL_law_675 (by decide +kernel) ?_
      refine lv_iadd hx hb dL_law_676 ?_
      refine xt_i (v := 2) (by decide +kernel) ?_
      refine va_sld hx hb hX hbl hbA hS (vin (by decide +kernel)) dL_law_677 ?_
      refine xt_i (v := xs 2) rfl ?_
      refine xc_core (wr := []) (k := 116) (n := 11963) (xc_runV (As := [.int (xs 1), .int (xs 2)]) (rest := [.int (-1000000000)]) hx hb hml hown hts hG hE hP hD hS hA [0, 1] (by decide) rfl (cX10_gain_1 l D cB cI cJ cZ aK aV q_102 ((xs 1)) ((xs 2)) q_103 q_104 q_105 q_106 q_107 q_108 q_109 q_110 q_111 q_112 q_113 q_114 q_115 q_116 q_117 q_118 q_119 q_120 q_121 q_122 q_123 q_124 q_125 q_126 q_127 q_128 q_129 q_130 q_131 q_132 q_133 q_134 q_135 q_136 q_137 q_138 q_139 q_140 q_141 q_142 q_143 q_144 q_145 q_146 q_147 q_148 q_149 q_150) kw1826 kw1823 kw1824 kw1825 kw127 (show XD yX10_gain 2 from by decide +kernel) (by decide) rfl rfl 0 rfl hl.1 rfl (Nat.le_of_ble_eq_true rfl) dL_law_678 (by decide)) hP hD hS hA [0, 1] [] rfl rfl (by decide) (by decide) (Nat.le_of_ble_eq_true rfl) (Nat.le_of_ble_eq_true rfl) (fun r w1 H locs hpost hP hD hS => ?_)
      obtain rfl := hpost
      have hP := hP.sub (ws' := []) [] rfl
      have hD := hD.sub (ws' := []) [] (by decide) rfl
      refine lv_icmp_eq (tgt := 1527) hx hb dL_law_681 (by decide) (fun _ => ?_) (fun h => absurd h (by decide +kernel))
      refine lv_iinc (v := 6) (lv' := [(3, .int 6), (2, .ref q_102), (1, .ref q_1), (0, .ref b)]) hx hb dL_law_1527 hl (k := 0) rfl (by decide +kernel) (by decide) rfl (fun ls hl => ?_)
      refine lv_goto (tgt := 18) hx hb dL_law_1530 (by decide) ?_
      refine lv_iload_n hx hb dL_law_18 rfl (lv_at hl 0 rfl) ?_
      refine lv_aload_n hx hb dL_law_19 rfl (lv_at hl 3 rfl) ?_
      refine va_slen hx hb hX hbl hbA hS dL_law_20 ?_
      refine xt_i (v := 6) (by decide +kernel) ?_
      refine lv_bipush (v := 6) hx hb dL_law_21 (by decide +kernel) ?_
      refine lv_isub hx hb dL_law_23 ?_
      refine xt_i (v := 0) (by decide +kernel) ?_
      refine lv_icmp_gt (tgt := 1533) hx hb dL_law_24 (by decide) (fun _ => ?_) (fun h => absurd h (by decide +kernel))
      refine lv_iconst (v := 1) hx hb dL_law_1533 (by decide +kernel) ?_
      refine va_forget (fun q hq => by have z := hS.2.2 q hq; rw [hAe] at z; exact z) ?_
      refine W.widen (k := 600000) (n := 7302250) (Nat.le_of_ble_eq_true rfl) (Nat.le_of_ble_eq_true rfl) ?_
      exact lw_ret hx hb hr hlocks dL_law_1534
    by_cases c_174 : v_157 = 16
    · subst c_174
      have hP := hP.sub (ws' := [(q_1, .inr (9, [.ref q_2, .ref q_3, .ref q_4, .ref q_5, .ref q_6, .ref q_7, .ref q_8, .ref q_9, .ref q_10, .ref q_11, .ref q_12, .ref q_13, .int 0])), (q_4, .inr (8, [.int 0, .int 0, .int 0, .ref q_16, .ref q_17, .ref q_18, .ref q_19, .ref q_20, .ref q_21, .ref q_22, .ref q_23, .ref q_24, .ref q_25, .int 0, .int 1, .int 0, .int 0, .int 0])), (q_6, .inr (3, [.ref q_4, .ref q_73, .ref q_74, .ref q_75, .ref q_76, .ref q_77, .int 0, .int 0])), (q_9, .inr (0, [.int 0, .int 0, .ref q_92, .ref q_93, .int 0, .int 0, .int 0, .ref q_94, .ref q_95, .int 0, .int 0, .int 0, .int 0, .int 0])), (q_102, .inr (10, ((.ref q_103) :: (.ref q_104) :: (.int 0) :: (.int 0) :: (.int 0) :: (.int (-1)) :: (.int 0) :: (.int 0) :: (.int 0) :: (.int 0) :: (.long 0) :: (.ref q_105) :: (.ref q_106) :: (.ref q_107) :: (.ref q_108) :: (.ref q_109) :: (.ref q_110) :: (.ref q_111) :: (.ref q_112) :: (.ref q_113) :: (.ref q_114) :: (.ref q_115) :: (.ref q_116) :: (.ref q_117) :: (.ref q_118) :: (.ref q_119) :: (.ref q_120) :: (.ref q_121) :: (.ref q_122) :: (.ref q_123) :: (.ref q_124) :: (.ref q_125) :: (.ref q_126) :: (.ref q_127) :: (.ref q_128) :: (.ref q_129) :: (.ref q_130) :: (.ref q_131) :: (.ref q_132) :: (.ref q_133) :: (.ref q_134) :: (.int 0) :: (.int 0) :: (.int 0) :: (.int 0) :: (.int 0) :: (.int 0) :: (.int 0) :: (.int 0) :: (.int 0) :: (.ref q_135) :: (.ref q_136) :: (.int 0) :: (.ref q_137) :: (.int 0) :: (.int 0) :: (.int 0) :: (.int 0) :: (.int 0) :: (.int 0) :: (.ref q_138) :: (.int 0) :: (.ref q_139) :: (.ref q_140) :: (.ref q_141) :: (.ref q_142) :: (.ref q_143) :: (.ref q_144) :: (.ref q_145) :: (.ref q_146) :: (.ref q_147) :: (.ref q_148) :: (.int 0) :: (.int 0) :: (.ref q_149) :: (.ref q_150) :: []))), (q_107, .inl (cI, 2, .inl (lst [0, 0])))]) [0, 3, 38, 52, 67, 72] rfl
      have hD := hD.sub (ws' := [(q_1, .inr (9, [.ref q_2, .ref q_3, .ref q_4, .ref q_5, .ref q_6, .ref q_7, .ref q_8, .ref q_9, .ref q_10, .ref q_11, .ref q_12, .ref q_13, .int 0])), (q_4, .inr (8, [.int 0, .int 0, .int 0, .ref q_16, .ref q_17, .ref q_18, .ref q_19, .ref q_20, .ref q_21, .ref q_22, .ref q_23, .ref q_24, .ref q_25, .int 0, .int 1, .int 0, .int 0, .int 0])), (q_6, .inr (3, [.ref q_4, .ref q_73, .ref q_74, .ref q_75, .ref q_76, .ref q_77, .int 0, .int 0])), (q_9, .inr (0, [.int 0, .int 0, .ref q_92, .ref q_93, .int 0, .int 0, .int 0, .ref q_94, .ref q_95, .int 0, .int 0, .int 0, .int 0, .int 0])), (q_102, .inr (10, ((.ref q_103) :: (.ref q_104) :: (.int 0) :: (.int 0) :: (.int 0) :: (.int (-1)) :: (.int 0) :: (.int 0) :: (.int 0) :: (.int 0) :: (.long 0) :: (.ref q_105) :: (.ref q_106) :: (.ref q_107) :: (.ref q_108) :: (.ref q_109) :: (.ref q_110) :: (.ref q_111) :: (.ref q_112) :: (.ref q_113) :: (.ref q_114) :: (.ref q_115) :: (.ref q_116) :: (.ref q_117) :: (.ref q_118) :: (.ref q_119) :: (.ref q_120) :: (.ref q_121) :: (.ref q_122) :: (.ref q_123) :: (.ref q_124) :: (.ref q_125) :: (.ref q_126) :: (.ref q_127) :: (.ref q_128) :: (.ref q_129) :: (.ref q_130) :: (.ref q_131) :: (.ref q_132) :: (.ref q_133) :: (.ref q_134) :: (.int 0) :: (.int 0) :: (.int 0) :: (.int 0) :: (.int 0) :: (.int 0) :: (.int 0) :: (.int 0) :: (.int 0) :: (.ref q_135) :: (.ref q_136) :: (.int 0) :: (.ref q_137) :: (.int 0) :: (.int 0) :: (.int 0) :: (.int 0) :: (.int 0) :: (.int 0) :: (.ref q_138) :: (.int 0) :: (.ref q_139) :: (.ref q_140) :: (.ref q_141) :: (.ref q_142) :: (.ref q_143) :: (.ref q_144) :: (.ref q_145) :: (.ref q_146) :: (.ref q_147) :: (.ref q_148) :: (.int 0) :: (.int 0) :: (.ref q_149) :: (.ref q_150) :: []))), (q_107, .inl (cI, 2, .inl (lst [0, 0])))]) [0, 3, 38, 52, 67, 72] (by decide) rfl
      refine lv_tableIn (off := 653) (tgt := 686) hx hb dL_law_33 (by decide) (by decide) (by decide +kernel) (by decide) ?_
      refine lv_aload_n hx hb dL_law_686 rfl (lv_at hl 2 rfl) ?_
      refine lv_aload_n hx hb dL_law_687 rfl (lv_at hl 3 rfl) ?_
      refine lv_iload_n hx hb dL_law_688 rfl (lv_at hl 0 rfl) ?_
      refine lv_iconst (v := 1) hx hb dL_law_689 (by decide +kernel) ?_
      refine lv_iadd hx hb dL_law_690 ?_
      refine xt_i (v := 1) (by decide +kernel) ?_
      refine va_sld hx hb hX hbl hbA hS (vin (by decide +kernel)) dL_law_691 ?_
      refine xt_i (v := xs 1) rfl ?_
      refine xc_core (wr := [(q_102, .inr (10, ((.ref q_103) :: (.ref q_104) :: (.int 0) :: (.int 0) :: (.int 0) :: (.int (-1)) :: (.int 0) :: (.int 0) :: (.int 0) :: (.int 0) :: (.long 0) :: (.ref q_105) :: (.ref q_106) :: (.ref q_107) :: (.ref q_108) :: (.ref q_109) :: (.ref q_110) :: (.ref q_111) :: (.ref q_112) :: (.ref q_113) :: (.ref q_114) :: (.ref q_115) :: (.ref q_116) :: (.ref q_117) :: (.ref q_118) :: (.ref q_119) :: (.ref q_120) :: (.ref q_121) :: (.ref q_122) :: (.ref q_123) :: (.ref q_124) :: (.ref q_125) :: (.ref q_126) :: (.ref q_127) :: (.ref q_128) :: (.ref q_129) :: (.ref q_130) :: (.ref q_131) :: (.ref q_132) :: (.ref q_133) :: (.ref q_134) :: (.int 0) :: (.int 0) :: (.int 0) :: (.int 0) :: (.int 0) :: (.int 0) :: (.int 0) :: (.int 0) :: (.int 0) :: (.ref q_135) :: (.ref q_136) :: (.int 0) :: (.ref q_137) :: (.int 0) :: (.int 0) :: (.int 0) :: (.int 0) :: (.int 0) :: (.int 0) :: (.ref q_138) :: (.int 0) :: (.ref q_139) :: (.ref q_140) :: (.ref q_141) :: (.ref q_142) :: (.ref q_143) :: (.ref q_144) :: (.ref q_145) :: (.ref q_146) :: (.ref q_147) :: (.ref q_148) :: (.int 0) :: (.int 0) :: (.ref q_149) :: (.ref q_150) :: []))), (q_107, .inl (cI, 2, .inl (lst [0, 0])))]) (k := 116) (n := 11963) (xc_runV (As := [.int (xs 1)]) (rest := []) hx hb hml hown hts hG hE hP hD hS hA [0, 1, 2, 3] (by decide) rfl (cX9_best_1 l D cB cI cJ cZ aK aV q_1 ((xs 1)) q_2 q_3 q_4 q_5 q_6 q_7 q_8 q_9 q_10 q_11 q_12 q_13 q_16 q_17 q_18 q_19 q_20 q_21 q_22 q_23 q_24 q_25 q_73 q_74 q_75 q_76 q_77 q_92 q_93 q_94 q_95) kw1014 kw1011 kw1012 kw1013 kw112 (show XD yX9_best 1 from by decide +kernel) (by decide) rfl rfl 0 rfl hl.1 rfl (Nat.le_of_ble_eq_true rfl) dL_law_692 (by decide)) hP hD hS hA [0, 1, 2, 3] [4, 5] rfl rfl (by decide) (by decide) (Nat.le_of_ble_eq_true rfl) (Nat.le_of_ble_eq_true rfl) (fun r w1 H locs hpost hP hD hS => ?_)
      obtain rfl := hpost
      have hP := hP.sub (ws' := [(q_102, .inr (10, ((.ref q_103) :: (.ref q_104) :: (.int 0) :: (.int 0) :: (.int 0) :: (.int (-1)) :: (.int 0) :: (.int 0) :: (.int 0) :: (.int 0) :: (.long 0) :: (.ref q_105) :: (.ref q_106) :: (.ref q_107) :: (.ref q_108) :: (.ref q_109) :: (.ref q_110) :: (.ref q_111) :: (.ref q_112) :: (.ref q_113) :: (.ref q_114) :: (.ref q_115) :: (.ref q_116) :: (.ref q_117) :: (.ref q_118) :: (.ref q_119) :: (.ref q_120) :: (.ref q_121) :: (.ref q_122) :: (.ref q_123) :: (.ref q_124) :: (.ref q_125) :: (.ref q_126) :: (.ref q_127) :: (.ref q_128) :: (.ref q_129) :: (.ref q_130) :: (.ref q_131) :: (.ref q_132) :: (.ref q_133) :: (.ref q_134) :: (.int 0) :: (.int 0) :: (.int 0) :: (.int 0) :: (.int 0) :: (.int 0) :: (.int 0) :: (.int 0) :: (.int 0) :: (.ref q_135) :: (.ref q_136) :: (.int 0) :: (.ref q_137) :: (.int 0) :: (.int 0) :: (.int 0) :: (.int 0) :: (.int 0) :: (.int 0) :: (.ref q_138) :: (.int 0) :: (.ref q_139) :: (.ref q_140) :: (.ref q_141) :: (.ref q_142) :: (.ref q_143) :: (.ref q_144) :: (.ref q_145) :: (.ref q_146) :: (.ref q_147) :: (.ref q_148) :: (.int 0) :: (.int 0) :: (.ref q_149) :: (.ref q_150) :: []))), (q_107, .inl (cI, 2, .inl (lst [0, 0])))]) [0, 1] rfl
      have hD := hD.sub (ws' := [(q_102, .inr (10, ((.ref q_103) :: (.ref q_104) :: (.int 0) :: (.int 0) :: (.int 0) :: (.int (-1)) :: (.int 0) :: (.int 0) :: (.int 0) :: (.int 0) :: (.long 0) :: (.ref q_105) :: (.ref q_106) :: (.ref q_107) :: (.ref q_108) :: (.ref q_109) :: (.ref q_110) :: (.ref q_111) :: (.ref q_112) :: (.ref q_113) :: (.ref q_114) :: (.ref q_115) :: (.ref q_116) :: (.ref q_117) :: (.ref q_118) :: (.ref q_119) :: (.ref q_120) :: (.ref q_121) :: (.ref q_122) :: (.ref q_123) :: (.ref q_124) :: (.ref q_125) :: (.ref q_126) :: (.ref q_127) :: (.ref q_128) :: (.ref q_129) :: (.ref q_130) :: (.ref q_131) :: (.ref q_132) :: (.ref q_133) :: (.ref q_134) :: (.int 0) :: (.int 0) :: (.int 0) :: (.int 0) :: (.int 0) :: (.int 0) :: (.int 0) :: (.int 0) :: (.int 0) :: (.ref q_135) :: (.ref q_136) :: (.int 0) :: (.ref q_137) :: (.int 0) :: (.int 0) :: (.int 0) :: (.int 0) :: (.int 0) :: (.int 0) :: (.ref q_138) :: (.int 0) :: (.ref q_139) :: (.ref q_140) :: (.ref q_141) :: (.ref q_142) :: (.ref q_143) :: (.ref q_144) :: (.ref q_145) :: (.ref q_146) :: (.ref q_147) :: (.ref q_148) :: (.int 0) :: (.int 0) :: (.ref q_149) :: (.ref q_150) :: []))), (q_107, .inl (cI, 2, .inl (lst [0, 0])))]) [0, 1] (by decide) rfl
      refine lv_aload_n hx hb dL_law_695 rfl (lv_at hl 1 rfl) ?_
      refine lv_aload_n hx hb dL_law_696 rfl (lv_at hl 3 rfl) ?_
      refine lv_iload_n hx hb dL_law_697 rfl (lv_at hl 0 rfl) ?_
      refine lv_iconst (v := 1) hx hb dL_law_698 (by decide +kernel) ?_
      refine lv_iadd hx hb dL_law_699 ?_
      refine xt_i (v := 1) (by decide +kernel) ?_
      refine va_sld hx hb hX hbl hbA hS (vin (by decide +kernel)) dL_law_700 ?_
      refine xt_i (v := xs 1) rfl ?_
      refine xc_core (wr := []) (k := 116) (n := 11963) (xc_runV (As := [.int (xs 1)]) (rest := [.int (-1000000000)]) hx hb hml hown hts hG hE hP hD hS hA [0, 1] (by decide) rfl (cX10_best_1 l D cB cI cJ cZ aK aV q_102 ((xs 1)) q_103 q_104 q_105 q_106 q_107 q_108 q_109 q_110 q_111 q_112 q_113 q_114 q_115 q_116 q_117 q_118 q_119 q_120 q_121 q_122 q_123 q_124 q_125 q_126 q_127 q_128 q_129 q_130 q_131 q_132 q_133 q_134 q_135 q_136 q_137 q_138 q_139 q_140 q_141 q_142 q_143 q_144 q_145 q_146 q_147 q_148 q_149 q_150) kw1834 kw1831 kw1832 kw1833 kw127 (show XD yX10_best 1 from by decide +kernel) (by decide) rfl rfl 0 rfl hl.1 rfl (Nat.le_of_ble_eq_true rfl) dL_law_701 (by decide)) hP hD hS hA [0, 1] [] rfl rfl (by decide) (by decide) (Nat.le_of_ble_eq_true rfl) (Nat.le_of_ble_eq_true rfl) (fun r w1 H locs hpost hP hD hS => ?_)
      obtain rfl := hpost
      have hP := hP.sub (ws' := []) [] rfl
      have hD := hD.sub (ws' := []) [] (by decide) rfl
      refine lv_icmp_eq (tgt := 1527) hx hb dL_law_704 (by decide) (fun _ => ?_) (fun h => absurd h (by decide +kernel))
      refine lv_iinc (v := 6) (lv' := [(3, .int 6), (2, .ref q_102), (1, .ref q_1), (0, .ref b)]) hx hb dL_law_1527 hl (k := 0) rfl (by decide +kernel) (by decide) rfl (fun ls hl => ?_)
      refine lv_goto (tgt := 18) hx hb dL_law_1530 (by decide) ?_
      refine lv_iload_n hx hb dL_law_18 rfl (lv_at hl 0 rfl) ?_
      refine lv_aload_n hx hb dL_law_19 rfl (lv_at hl 3 rfl) ?_
      refine va_slen hx hb hX hbl hbA hS dL_law_20 ?_
      refine xt_i (v := 6) (by decide +kernel) ?_
      refine lv_bipush (v := 6) hx hb dL_law_21 (by decide +kernel) ?_
      refine lv_isub hx hb dL_law_23 ?_
      refine xt_i (v := 0) (by decide +kernel) ?_
      refine lv_icmp_gt (tgt := 1533) hx hb dL_law_24 (by decide) (fun _ => ?_) (fun h => absurd h (by decide +kernel))
      refine lv_iconst (v := 1) hx hb dL_law_1533 (by decide +kernel) ?_
      refine va_forget (fun q hq => by have z := hS.2.2 q hq; rw [hAe] at z; exact z) ?_
      refine W.widen (k := 600000) (n := 7302250) (Nat.le_of_ble_eq_true rfl) (Nat.le_of_ble_eq_true rfl) ?_
      exact lw_ret hx hb hr hlocks dL_law_1534
    by_cases c_175 : v_157 = 17
    · subst c_175
      have hP := hP.sub (ws' := [(q_1, .inr (9, [.ref q_2, .ref q_3, .ref q_4, .ref q_5, .ref q_6, .ref q_7, .ref q_8, .ref q_9, .ref q_10, .ref q_11, .ref q_12, .ref q_13, .int 0])), (q_4, .inr (8, [.int 0, .int 0, .int 0, .ref q_16, .ref q_17, .ref q_18, .ref q_19, .ref q_20, .ref q_21, .ref q_22, .ref q_23, .ref q_24, .ref q_25, .int 0, .int 1, .int 0, .int 0, .int 0])), (q_6, .inr (3, [.ref q_4, .ref q_73, .ref q_74, .ref q_75, .ref q_76, .ref q_77, .int 0, .int 0])), (q_9, .inr (0, [.int 0, .int 0, .ref q_92, .ref q_93, .int 0, .int 0, .int 0, .ref q_94, .ref q_95, .int 0, .int 0, .int 0, .int 0, .int 0])), (q_102, .inr (10, ((.ref q_103) :: (.ref q_104) :: (.int 0) :: (.int 0) :: (.int 0) :: (.int (-1)) :: (.int 0) :: (.int 0) :: (.int 0) :: (.int 0) :: (.long 0) :: (.ref q_105) :: (.ref q_106) :: (.ref q_107) :: (.ref q_108) :: (.ref q_109) :: (.ref q_110) :: (.ref q_111) :: (.ref q_112) :: (.ref q_113) :: (.ref q_114) :: (.ref q_115) :: (.ref q_116) :: (.ref q_117) :: (.ref q_118) :: (.ref q_119) :: (.ref q_120) :: (.ref q_121) :: (.ref q_122) :: (.ref q_123) :: (.ref q_124) :: (.ref q_125) :: (.ref q_126) :: (.ref q_127) :: (.ref q_128) :: (.ref q_129) :: (.ref q_130) :: (.ref q_131) :: (.ref q_132) :: (.ref q_133) :: (.ref q_134) :: (.int 0) :: (.int 0) :: (.int 0) :: (.int 0) :: (.int 0) :: (.int 0) :: (.int 0) :: (.int 0) :: (.int 0) :: (.ref q_135) :: (.ref q_136) :: (.int 0) :: (.ref q_137) :: (.int 0) :: (.int 0) :: (.int 0) :: (.int 0) :: (.int 0) :: (.int 0) :: (.ref q_138) :: (.int 0) :: (.ref q_139) :: (.ref q_140) :: (.ref q_141) :: (.ref q_142) :: (.ref q_143) :: (.ref q_144) :: (.ref q_145) :: (.ref q_146) :: (.ref q_147) :: (.ref q_148) :: (.int 0) :: (.int 0) :: (.ref q_149) :: (.ref q_150) :: []))), (q_107, .inl (cI, 2, .inl (lst [0, 0])))]) [0, 3, 38, 52, 67, 72] rfl
      have hD := hD.sub (ws' := [(q_1, .inr (9, [.ref q_2, .ref q_3, .ref q_4, .ref q_5, .ref q_6, .ref q_7, .ref q_8, .ref q_9, .ref q_10, .ref q_11, .ref q_12, .ref q_13, .int 0])), (q_4, .inr (8, [.int 0, .int 0, .int 0, .ref q_16, .ref q_17, .ref q_18, .ref q_19, .ref q_20, .ref q_21, .ref q_22, .ref q_23, .ref q_24, .ref q_25, .int 0, .int 1, .int 0, .int 0, .int 0])), (q_6, .inr (3, [.ref q_4, .ref q_73, .ref q_74, .ref q_75, .ref q_76, .ref q_77, .int 0, .int 0])), (q_9, .inr (0, [.int 0, .int 0, .ref q_92, .ref q_93, .int 0, .int 0, .int 0, .ref q_94, .ref q_95, .int 0, .int 0, .int 0, .int 0, .int 0])), (q_102, .inr (10, ((.ref q_103) :: (.ref q_104) :: (.int 0) :: (.int 0) :: (.int 0) :: (.int (-1)) :: (.int 0) :: (.int 0) :: (.int 0) :: (.int 0) :: (.long 0) :: (.ref q_105) :: (.ref q_106) :: (.ref q_107) :: (.ref q_108) :: (.ref q_109) :: (.ref q_110) :: (.ref q_111) :: (.ref q_112) :: (.ref q_113) :: (.ref q_114) :: (.ref q_115) :: (.ref q_116) :: (.ref q_117) :: (.ref q_118) :: (.ref q_119) :: (.ref q_120) :: (.ref q_121) :: (.ref q_122) :: (.ref q_123) :: (.ref q_124) :: (.ref q_125) :: (.ref q_126) :: (.ref q_127) :: (.ref q_128) :: (.ref q_129) :: (.ref q_130) :: (.ref q_131) :: (.ref q_132) :: (.ref q_133) :: (.ref q_134) :: (.int 0) :: (.int 0) :: (.int 0) :: (.int 0) :: (.int 0) :: (.int 0) :: (.int 0) :: (.int 0) :: (.int 0) :: (.ref q_135) :: (.ref q_136) :: (.int 0) :: (.ref q_137) :: (.int 0) :: (.int 0) :: (.int 0) :: (.int 0) :: (.int 0) :: (.int 0) :: (.ref q_138) :: (.int 0) :: (.ref q_139) :: (.ref q_140) :: (.ref q_141) :: (.ref q_142) :: (.ref q_143) :: (.ref q_144) :: (.ref q_145) :: (.ref q_146) :: (.ref q_147) :: (.ref q_148) :: (.int 0) :: (.int 0) :: (.ref q_149) :: (.ref q_150) :: []))), (q_107, .inl (cI, 2, .inl (lst [0, 0])))]) [0, 3, 38, 52, 67, 72] (by decide) rfl
      refine lv_tableIn (off := 676) (tgt := 709) hx hb dL_law_33 (by decide) (by decide) (by decide +kernel) (by decide) ?_
      refine lv_aload_n hx hb dL_law_709 rfl (lv_at hl 2 rfl) ?_
      refine xc_core (wr := [(q_102, .inr (10, ((.ref q_103) :: (.ref q_104) :: (.int 0) :: (.int 0) :: (.int 0) :: (.int (-1)) :: (.int 0) :: (.int 0) :: (.int 0) :: (.int 0) :: (.long 0) :: (.ref q_105) :: (.ref q_106) :: (.ref q_107) :: (.ref q_108) :: (.ref q_109) :: (.ref q_110) :: (.ref q_111) :: (.ref q_112) :: (.ref q_113) :: (.ref q_114) :: (.ref q_115) :: (.ref q_116) :: (.ref q_117) :: (.ref q_118) :: (.ref q_119) :: (.ref q_120) :: (.ref q_121) :: (.ref q_122) :: (.ref q_123) :: (.ref q_124) :: (.ref q_125) :: (.ref q_126) :: (.ref q_127) :: (.ref q_128) :: (.ref q_129) :: (.ref q_130) :: (.ref q_131) :: (.ref q_132) :: (.ref q_133) :: (.ref q_134) :: (.int 0) :: (.int 0) :: (.int 0) :: (.int 0) :: (.int 0) :: (.int 0) :: (.int 0) :: (.int 0) :: (.int 0) :: (.ref q_135) :: (.ref q_136) :: (.int 0) :: (.ref q_137) :: (.int 0) :: (.int 0) :: (.int 0) :: (.int 0) :: (.int 0) :: (.int 0) :: (.ref q_138) :: (.int 0) :: (.ref q_139) :: (.ref q_140) :: (.ref q_141) :: (.ref q_142) :: (.ref q_143) :: (.ref q_144) :: (.ref q_145) :: (.ref q_146) :: (.ref q_147) :: (.ref q_148) :: (.int 0) :: (.int 0) :: (.ref q_149) :: (.ref q_150) :: []))), (q_107, .inl (cI, 2, .inl (lst [0, 0])))]) (k := 116) (n := 11963) (xc_runV (As := []) (rest := []) hx hb hml hown hts hG hE hP hD hS hA [0, 1, 2, 3] (by decide) rfl (cX9_swaps_1 l D cB cI cJ cZ aK aV q_1 q_2 q_3 q_4 q_5 q_6 q_7 q_8 q_9 q_10 q_11 q_12 q_13 q_16 q_17 q_18 q_19 q_20 q_21 q_22 q_23 q_24 q_25 q_73 q_74 q_75 q_76 q_77 q_92 q_93 q_94 q_95) kw1030 kw1027 kw1028 kw1029 kw112 (show XD yX9_swaps 0 from by decide +kernel) (by decide) rfl rfl 0 rfl hl.1 rfl (Nat.le_of_ble_eq_true rfl) dL_law_710 (by decide)) hP hD hS hA [0, 1, 2, 3] [4, 5] rfl rfl (by decide) (by decide) (Nat.le_of_ble_eq_true rfl) (Nat.le_of_ble_eq_true rfl) (fun r w1 H locs hpost hP hD hS => ?_)
      obtain rfl := hpost
      have hP := hP.sub (ws' := [(q_102, .inr (10, ((.ref q_103) :: (.ref q_104) :: (.int 0) :: (.int 0) :: (.int 0) :: (.int (-1)) :: (.int 0) :: (.int 0) :: (.int 0) :: (.int 0) :: (.long 0) :: (.ref q_105) :: (.ref q_106) :: (.ref q_107) :: (.ref q_108) :: (.ref q_109) :: (.ref q_110) :: (.ref q_111) :: (.ref q_112) :: (.ref q_113) :: (.ref q_114) :: (.ref q_115) :: (.ref q_116) :: (.ref q_117) :: (.ref q_118) :: (.ref q_119) :: (.ref q_120) :: (.ref q_121) :: (.ref q_122) :: (.ref q_123) :: (.ref q_124) :: (.ref q_125) :: (.ref q_126) :: (.ref q_127) :: (.ref q_128) :: (.ref q_129) :: (.ref q_130) :: (.ref q_131) :: (.ref q_132) :: (.ref q_133) :: (.ref q_134) :: (.int 0) :: (.int 0) :: (.int 0) :: (.int 0) :: (.int 0) :: (.int 0) :: (.int 0) :: (.int 0) :: (.int 0) :: (.ref q_135) :: (.ref q_136) :: (.int 0) :: (.ref q_137) :: (.int 0) :: (.int 0) :: (.int 0) :: (.int 0) :: (.int 0) :: (.int 0) :: (.ref q_138) :: (.int 0) :: (.ref q_139) :: (.ref q_140) :: (.ref q_141) :: (.ref q_142) :: (.ref q_143) :: (.ref q_144) :: (.ref q_145) :: (.ref q_146) :: (.ref q_147) :: (.ref q_148) :: (.int 0) :: (.int 0) :: (.ref q_149) :: (.ref q_150) :: []))), (q_107, .inl (cI, 2, .inl (lst [0, 0])))]) [0, 1] rfl
      have hD := hD.sub (ws' := [(q_102, .inr (10, ((.ref q_103) :: (.ref q_104) :: (.int 0) :: (.int 0) :: (.int 0) :: (.int (-1)) :: (.int 0) :: (.int 0) :: (.int 0) :: (.int 0) :: (.long 0) :: (.ref q_105) :: (.ref q_106) :: (.ref q_107) :: (.ref q_108) :: (.ref q_109) :: (.ref q_110) :: (.ref q_111) :: (.ref q_112) :: (.ref q_113) :: (.ref q_114) :: (.ref q_115) :: (.ref q_116) :: (.ref q_117) :: (.ref q_118) :: (.ref q_119) :: (.ref q_120) :: (.ref q_121) :: (.ref q_122) :: (.ref q_123) :: (.ref q_124) :: (.ref q_125) :: (.ref q_126) :: (.ref q_127) :: (.ref q_128) :: (.ref q_129) :: (.ref q_130) :: (.ref q_131) :: (.ref q_132) :: (.ref q_133) :: (.ref q_134) :: (.int 0) :: (.int 0) :: (.int 0) :: (.int 0) :: (.int 0) :: (.int 0) :: (.int 0) :: (.int 0) :: (.int 0) :: (.ref q_135) :: (.ref q_136) :: (.int 0) :: (.ref q_137) :: (.int 0) :: (.int 0) :: (.int 0) :: (.int 0) :: (.int 0) :: (.int 0) :: (.ref q_138) :: (.int 0) :: (.ref q_139) :: (.ref q_140) :: (.ref q_141) :: (.ref q_142) :: (.ref q_143) :: (.ref q_144) :: (.ref q_145) :: (.ref q_146) :: (.ref q_147) :: (.ref q_148) :: (.int 0) :: (.int 0) :: (.ref q_149) :: (.ref q_150) :: []))), (q_107, .inl (cI, 2, .inl (lst [0, 0])))]) [0, 1] (by decide) rfl
      refine lv_aload_n hx hb dL_law_713 rfl (lv_at hl 1 rfl) ?_
      refine xc_core (wr := []) (k := 116) (n := 11963) (xc_runV (As := []) (rest := [.int 0]) hx hb hml hown hts hG hE hP hD hS hA [0, 1] (by decide) rfl (cX10_swaps_1 l D cB cI cJ cZ aK aV q_102 q_103 q_104 q_105 q_106 q_107 q_108 q_109 q_110 q_111 q_112 q_113 q_114 q_115 q_116 q_117 q_118 q_119 q_120 q_121 q_122 q_123 q_124 q_125 q_126 q_127 q_128 q_129 q_130 q_131 q_132 q_133 q_134 q_135 q_136 q_137 q_138 q_139 q_140 q_141 q_142 q_143 q_144 q_145 q_146 q_147 q_148 q_149 q_150) kw1842 kw1839 kw1840 kw1841 kw127 (show XD yX10_swaps 0 from by decide +kernel) (by decide) rfl rfl 0 rfl hl.1 rfl (Nat.le_of_ble_eq_true rfl) dL_law_714 (by decide)) hP hD hS hA [0, 1] [] rfl rfl (by decide) (by decide) (Nat.le_of_ble_eq_true rfl) (Nat.le_of_ble_eq_true rfl) (fun r w1 H locs hpost hP hD hS => ?_)
      obtain rfl := hpost
      have hP := hP.sub (ws' := []) [] rfl
      have hD := hD.sub (ws' := []) [] (by decide) rfl
      refine lv_icmp_eq (tgt := 1527) hx hb dL_law_717 (by decide) (fun _ => ?_) (fun h => absurd h (by decide +kernel))
      refine lv_iinc (v := 6) (lv' := [(3, .int 6), (2, .ref q_102), (1, .ref q_1), (0, .ref b)]) hx hb dL_law_1527 hl (k := 0) rfl (by decide +kernel) (by decide) rfl (fun ls hl => ?_)
      refine lv_goto (tgt := 18) hx hb dL_law_1530 (by decide) ?_
      refine lv_iload_n hx hb dL_law_18 rfl (lv_at hl 0 rfl) ?_
      refine lv_aload_n hx hb dL_law_19 rfl (lv_at hl 3 rfl) ?_
      refine va_slen hx hb hX hbl hbA hS dL_law_20 ?_
      refine xt_i (v := 6) (by decide +kernel) ?_
      refine lv_bipush (v := 6) hx hb dL_law_21 (by decide +kernel) ?_
      refine lv_isub hx hb dL_law_23 ?_
      refine xt_i (v := 0) (by decide +kernel) ?_
      refine lv_icmp_gt (tgt := 1533) hx hb dL_law_24 (by decide) (fun _ => ?_) (fun h => absurd h (by decide +kernel))
      refine lv_iconst (v := 1) hx hb dL_law_1533 (by decide +kernel) ?_
      refine va_forget (fun q hq => by have z := hS.2.2 q hq; rw [hAe] at z; exact z) ?_
      refine W.widen (k := 600000) (n := 7302250) (Nat.le_of_ble_eq_true rfl) (Nat.le_of_ble_eq_true rfl) ?_
      exact lw_ret hx hb hr hlocks dL_law_1534
    by_cases c_176 : v_157 = 18
    · subst c_176
      have hP := hP.sub (ws' := [(q_1, .inr (9, [.ref q_2, .ref q_3, .ref q_4, .ref q_5, .ref q_6, .ref q_7, .ref q_8, .ref q_9, .ref q_10, .ref q_11, .ref q_12, .ref q_13, .int 0])), (q_4, .inr (8, [.int 0, .int 0, .int 0, .ref q_16, .ref q_17, .ref q_18, .ref q_19, .ref q_20, .ref q_21, .ref q_22, .ref q_23, .ref q_24, .ref q_25, .int 0, .int 1, .int 0, .int 0, .int 0])), (q_6, .inr (3, [.ref q_4, .ref q_73, .ref q_74, .ref q_75, .ref q_76, .ref q_77, .int 0, .int 0])), (q_9, .inr (0, [.int 0, .int 0, .ref q_92, .ref q_93, .int 0, .int 0, .int 0, .ref q_94, .ref q_95, .int 0, .int 0, .int 0, .int 0, .int 0])), (q_11, .inr (5, [.ref q_101, .int 0])), (q_102, .inr (10, ((.ref q_103) :: (.ref q_104) :: (.int 0) :: (.int 0) :: (.int 0) :: (.int (-1)) :: (.int 0) :: (.int 0) :: (.int 0) :: (.int 0) :: (.long 0) :: (.ref q_105) :: (.ref q_106) :: (.ref q_107) :: (.ref q_108) :: (.ref q_109) :: (.ref q_110) :: (.ref q_111) :: (.ref q_112) :: (.ref q_113) :: (.ref q_114) :: (.ref q_115) :: (.ref q_116) :: (.ref q_117) :: (.ref q_118) :: (.ref q_119) :: (.ref q_120) :: (.ref q_121) :: (.ref q_122) :: (.ref q_123) :: (.ref q_124) :: (.ref q_125) :: (.ref q_126) :: (.ref q_127) :: (.ref q_128) :: (.ref q_129) :: (.ref q_130) :: (.ref q_131) :: (.ref q_132) :: (.ref q_133) :: (.ref q_134) :: (.int 0) :: (.int 0) :: (.int 0) :: (.int 0) :: (.int 0) :: (.int 0) :: (.int 0) :: (.int 0) :: (.int 0) :: (.ref q_135) :: (.ref q_136) :: (.int 0) :: (.ref q_137) :: (.int 0) :: (.int 0) :: (.int 0) :: (.int 0) :: (.int 0) :: (.int 0) :: (.ref q_138) :: (.int 0) :: (.ref q_139) :: (.ref q_140) :: (.ref q_141) :: (.ref q_142) :: (.ref q_143) :: (.ref q_144) :: (.ref q_145) :: (.ref q_146) :: (.ref q_147) :: (.ref q_148) :: (.int 0) :: (.int 0) :: (.ref q_149) :: (.ref q_150) :: []))), (q_107, .inl (cI, 2, .inl (lst [0, 0]))), (q_135, .inl (cI, 27, .inl (lst [(-1), (-1), (-1), (-1), (-1), (-1), (-1), 0, 0, 0, 0, 0, 0, 0, (-1), (-1), (-1), (-1), (-1), (-1), (-1), 0, 0, 0, 0, 0, 0]))), (q_139, .inl (cI, 27, .inl (fun _ => 0)))]) [0, 3, 38, 52, 63, 67, 72, 100, 104] rfl
      have hD := hD.sub (ws' := [(q_1, .inr (9, [.ref q_2, .ref q_3, .ref q_4, .ref q_5, .ref q_6, .ref q_7, .ref q_8, .ref q_9, .ref q_10, .ref q_11, .ref q_12, .ref q_13, .int 0])), (q_4, .inr (8, [.int 0, .int 0, .int 0, .ref q_16, .ref q_17, .ref q_18, .ref q_19, .ref q_20, .ref q_21, .ref q_22, .ref q_23, .ref q_24, .ref q_25, .int 0, .int 1, .int 0, .int 0, .int 0])), (q_6, .inr (3, [.ref q_4, .ref q_73, .ref q_74, .ref q_75, .ref q_76, .ref q_77, .int 0, .int 0])), (q_9, .inr (0, [.int 0, .int 0, .ref q_92, .ref q_93, .int 0, .int 0, .int 0, .ref q_94, .ref q_95, .int 0, .int 0, .int 0, .int 0, .int 0])), (q_11, .inr (5, [.ref q_101, .int 0])), (q_102, .inr (10, ((.ref q_103) :: (.ref q_104) :: (.int 0) :: (.int 0) :: (.int 0) :: (.int (-1)) :: (.int 0) :: (.int 0) :: (.int 0) :: (.int 0) :: (.long 0) :: (.ref q_105) :: (.ref q_106) :: (.ref q_107) :: (.ref q_108) :: (.ref q_109) :: (.ref q_110) :: (.ref q_111) :: (.ref q_112) :: (.ref q_113) :: (.ref q_114) :: (.ref q_115) :: (.ref q_116) :: (.ref q_117) :: (.ref q_118) :: (.ref q_119) :: (.ref q_120) :: (.ref q_121) :: (.ref q_122) :: (.ref q_123) :: (.ref q_124) :: (.ref q_125) :: (.ref q_126) :: (.ref q_127) :: (.ref q_128) :: (.ref q_129) :: (.ref q_130) :: (.ref q_131) :: (.ref q_132) :: (.ref q_133) :: (.ref q_134) :: (.int 0) :: (.int 0) :: (.int 0) :: (.int 0) :: (.int 0) :: (.int 0) :: (.int 0) :: (.int 0) :: (.int 0) :: (.ref q_135) :: (.ref q_136) :: (.int 0) :: (.ref q_137) :: (.int 0) :: (.int 0) :: (.int 0) :: (.int 0) :: (.int 0) :: (.int 0) :: (.ref q_138) :: (.int 0) :: (.ref q_139) :: (.ref q_140) :: (.ref q_141) :: (.ref q_142) :: (.ref q_143) :: (.ref q_144) :: (.ref q_145) :: (.ref q_146) :: (.ref q_147) :: (.ref q_148) :: (.int 0) :: (.int 0) :: (.ref q_149) :: (.ref q_150) :: []))), (q_107, .inl (cI, 2, .inl (lst [0, 0]))), (q_135, .inl (cI, 27, .inl (lst [(-1), (-1), (-1), (-1), (-1), (-1), (-1), 0, 0, 0, 0, 0, 0, 0, (-1), (-1), (-1), (-1), (-1), (-1), (-1), 0, 0, 0, 0, 0, 0]))), (q_139, .inl (cI, 27, .inl (fun _ => 0)))]) [0, 3, 38, 52, 63, 67, 72, 100, 104] (by decide) rfl
      refine lv_tableIn (off := 689) (tgt := 722) hx hb dL_law_33 (by decide) (by decide) (by decide +kernel) (by decide) ?_
      refine lv_aload_n hx hb dL_law_722 rfl (lv_at hl 2 rfl) ?_
      refine xc_core (wr := [(q_102, .inr (10, ((.ref q_103) :: (.ref q_104) :: (.int 0) :: (.int 0) :: (.int 0) :: (.int (-1)) :: (.int 0) :: (.int 0) :: (.int 0) :: (.int 0) :: (.long 0) :: (.ref q_105) :: (.ref q_106) :: (.ref q_107) :: (.ref q_108) :: (.ref q_109) :: (.ref q_110) :: (.ref q_111) :: (.ref q_112) :: (.ref q_113) :: (.ref q_114) :: (.ref q_115) :: (.ref q_116) :: (.ref q_117) :: (.ref q_118) :: (.ref q_119) :: (.ref q_120) :: (.ref q_121) :: (.ref q_122) :: (.ref q_123) :: (.ref q_124) :: (.ref q_125) :: (.ref q_126) :: (.ref q_127) :: (.ref q_128) :: (.ref q_129) :: (.ref q_130) :: (.ref q_131) :: (.ref q_132) :: (.ref q_133) :: (.ref q_134) :: (.int 0) :: (.int 0) :: (.int 0) :: (.int 0) :: (.int 0) :: (.int 0) :: (.int 0) :: (.int 0) :: (.int 0) :: (.ref q_135) :: (.ref q_136) :: (.int 0) :: (.ref q_137) :: (.int 0) :: (.int 0) :: (.int 0) :: (.int 0) :: (.int 0) :: (.int 0) :: (.ref q_138) :: (.int 0) :: (.ref q_139) :: (.ref q_140) :: (.ref q_141) :: (.ref q_142) :: (.ref q_143) :: (.ref q_144) :: (.ref q_145) :: (.ref q_146) :: (.ref q_147) :: (.ref q_148) :: (.int 0) :: (.int 0) :: (.ref q_149) :: (.ref q_150) :: []))), (q_107, .inl (cI, 2, .inl (lst [0, 0]))), (q_135, .inl (cI, 27, .inl (lst [(-1), (-1), (-1), (-1), (-1), (-1), (-1), 0, 0, 0, 0, 0, 0, 0, (-1), (-1), (-1), (-1), (-1), (-1), (-1), 0, 0, 0, 0, 0, 0]))), (q_139, .inl (cI, 27, .inl (fun _ => 0)))]) (k := 116) (n := 11963) (xc_runV (As := []) (rest := []) hx hb hml hown hts hG hE hP hD hS hA [0, 1, 2, 3, 4] (by decide) rfl (cX9_haggle_1 l D cB cI cJ cZ aK aV q_1 q_2 q_3 q_4 q_5 q_6 q_7 q_8 q_9 q_10 q_11 q_12 q_13 q_16 q_17 q_18 q_19 q_20 q_21 q_22 q_23 q_24 q_25 q_73 q_74 q_75 q_76 q_77 q_92 q_93 q_94 q_95 q_101) kw1038 kw1035 kw1036 kw1037 kw112 (show XD yX9_haggle 0 from by decide +kernel) (by decide) rfl rfl 0 rfl hl.1 rfl (Nat.le_of_ble_eq_true rfl) dL_law_723 (by decide)) hP hD hS hA [0, 1, 2, 3, 4] [5, 6, 7, 8] rfl rfl (by decide) (by decide) (Nat.le_of_ble_eq_true rfl) (Nat.le_of_ble_eq_true rfl) (fun r w1 H locs hpost hP hD hS => ?_)
      obtain rfl := hpost
      have hP := hP.sub (ws' := [(q_102, .inr (10, ((.ref q_103) :: (.ref q_104) :: (.int 0) :: (.int 0) :: (.int 0) :: (.int (-1)) :: (.int 0) :: (.int 0) :: (.int 0) :: (.int 0) :: (.long 0) :: (.ref q_105) :: (.ref q_106) :: (.ref q_107) :: (.ref q_108) :: (.ref q_109) :: (.ref q_110) :: (.ref q_111) :: (.ref q_112) :: (.ref q_113) :: (.ref q_114) :: (.ref q_115) :: (.ref q_116) :: (.ref q_117) :: (.ref q_118) :: (.ref q_119) :: (.ref q_120) :: (.ref q_121) :: (.ref q_122) :: (.ref q_123) :: (.ref q_124) :: (.ref q_125) :: (.ref q_126) :: (.ref q_127) :: (.ref q_128) :: (.ref q_129) :: (.ref q_130) :: (.ref q_131) :: (.ref q_132) :: (.ref q_133) :: (.ref q_134) :: (.int 0) :: (.int 0) :: (.int 0) :: (.int 0) :: (.int 0) :: (.int 0) :: (.int 0) :: (.int 0) :: (.int 0) :: (.ref q_135) :: (.ref q_136) :: (.int 0) :: (.ref q_137) :: (.int 0) :: (.int 0) :: (.int 0) :: (.int 0) :: (.int 0) :: (.int 0) :: (.ref q_138) :: (.int 0) :: (.ref q_139) :: (.ref q_140) :: (.ref q_141) :: (.ref q_142) :: (.ref q_143) :: (.ref q_144) :: (.ref q_145) :: (.ref q_146) :: (.ref q_147) :: (.ref q_148) :: (.int 0) :: (.int 0) :: (.ref q_149) :: (.ref q_150) :: []))), (q_107, .inl (cI, 2, .inl (lst [0, 0]))), (q_135, .inl (cI, 27, .inl (lst [(-1), (-1), (-1), (-1), (-1), (-1), (-1), 0, 0, 0, 0, 0, 0, 0, (-1), (-1), (-1), (-1), (-1), (-1), (-1), 0, 0, 0, 0, 0, 0]))), (q_139, .inl (cI, 27, .inl (fun _ => 0)))]) [0, 1, 2, 3] rfl
      have hD := hD.sub (ws' := [(q_102, .inr (10, ((.ref q_103) :: (.ref q_104) :: (.int 0) :: (.int 0) :: (.int 0) :: (.int (-1)) :: (.int 0) :: (.int 0) :: (.int 0) :: (.int 0) :: (.long 0) :: (.ref q_105) :: (.ref q_106) :: (.ref q_107) :: (.ref q_108) :: (.ref q_109) :: (.ref q_110) :: (.ref q_111) :: (.ref q_112) :: (.ref q_113) :: (.ref q_114) :: (.ref q_115) :: (.ref q_116) :: (.ref q_117) :: (.ref q_118) :: (.ref q_119) :: (.ref q_120) :: (.ref q_121) :: (.ref q_122) :: (.ref q_123) :: (.ref q_124) :: (.ref q_125) :: (.ref q_126) :: (.ref q_127) :: (.ref q_128) :: (.ref q_129) :: (.ref q_130) :: (.ref q_131) :: (.ref q_132) :: (.ref q_133) :: (.ref q_134) :: (.int 0) :: (.int 0) :: (.int 0) :: (.int 0) :: (.int 0) :: (.int 0) :: (.int 0) :: (.int 0) :: (.int 0) :: (.ref q_135) :: (.ref q_136) :: (.int 0) :: (.ref q_137) :: (.int 0) :: (.int 0) :: (.int 0) :: (.int 0) :: (.int 0) :: (.int 0) :: (.ref q_138) :: (.int 0) :: (.ref q_139) :: (.ref q_140) :: (.ref q_141) :: (.ref q_142) :: (.ref q_143) :: (.ref q_144) :: (.ref q_145) :: (.ref q_146) :: (.ref q_147) :: (.ref q_148) :: (.int 0) :: (.int 0) :: (.ref q_149) :: (.ref q_150) :: []))), (q_107, .inl (cI, 2, .inl (lst [0, 0]))), (q_135, .inl (cI, 27, .inl (lst [(-1), (-1), (-1), (-1), (-1), (-1), (-1), 0, 0, 0, 0, 0, 0, 0, (-1), (-1), (-1), (-1), (-1), (-1), (-1), 0, 0, 0, 0, 0, 0]))), (q_139, .inl (cI, 27, .inl (fun _ => 0)))]) [0, 1, 2, 3] (by decide) rfl
      refine lv_aload_n hx hb dL_law_726 rfl (lv_at hl 1 rfl) ?_
      refine xc_core (wr := []) (k := 116) (n := 11963) (xc_runV (As := []) (rest := [.int 0]) hx hb hml hown hts hG hE hP hD hS hA [0, 1, 2, 3] (by decide) rfl (cX10_haggle_1 l D cB cI cJ cZ aK aV q_102 q_103 q_104 q_105 q_106 q_107 q_108 q_109 q_110 q_111 q_112 q_113 q_114 q_115 q_116 q_117 q_118 q_119 q_120 q_121 q_122 q_123 q_124 q_125 q_126 q_127 q_128 q_129 q_130 q_131 q_132 q_133 q_134 q_135 q_136 q_137 q_138 q_139 q_140 q_141 q_142 q_143 q_144 q_145 q_146 q_147 q_148 q_149 q_150 ((lst [(-1), (-1), (-1), (-1), (-1), (-1), (-1), 0, 0, 0, 0, 0, 0, 0, (-1), (-1), (-1), (-1), (-1), (-1), (-1), 0, 0, 0, 0, 0, 0])) ((fun _ => 0))) kw1850 kw1847 kw1848 kw1849 kw127 (show XD yX10_haggle 0 from by decide +kernel) (by decide) rfl rfl 0 rfl hl.1 rfl (Nat.le_of_ble_eq_true rfl) dL_law_727 (by decide)) hP hD hS hA [0, 1, 2, 3] [] rfl rfl (by decide) (by decide) (Nat.le_of_ble_eq_true rfl) (Nat.le_of_ble_eq_true rfl) (fun r w1 H locs hpost hP hD hS => ?_)
      obtain rfl := hpost
      have hP := hP.sub (ws' := []) [] rfl
      have hD := hD.sub (ws' := []) [] (by decide) rfl
      refine lv_icmp_eq (tgt := 1527) hx hb dL_law_730 (by decide) (fun _ => ?_) (fun h => absurd h (by decide +kernel))
      refine lv_iinc (v := 6) (lv' := [(3, .int 6), (2, .ref q_102), (1, .ref q_1), (0, .ref b)]) hx hb dL_law_1527 hl (k := 0) rfl (by decide +kernel) (by decide) rfl (fun ls hl => ?_)
      refine lv_goto (tgt := 18) hx hb dL_law_1530 (by decide) ?_
      refine lv_iload_n hx hb dL_law_18 rfl (lv_at hl 0 rfl) ?_
      refine lv_aload_n hx hb dL_law_19 rfl (lv_at hl 3 rfl) ?_
      refine va_slen hx hb hX hbl hbA hS dL_law_20 ?_
      refine xt_i (v := 6) (by decide +kernel) ?_
      refine lv_bipush (v := 6) hx hb dL_law_21 (by decide +kernel) ?_
      refine lv_isub hx hb dL_law_23 ?_
      refine xt_i (v := 0) (by decide +kernel) ?_
      refine lv_icmp_gt (tgt := 1533) hx hb dL_law_24 (by decide) (fun _ => ?_) (fun h => absurd h (by decide +kernel))
      refine lv_iconst (v := 1) hx hb dL_law_1533 (by decide +kernel) ?_
      refine va_forget (fun q hq => by have z := hS.2.2 q hq; rw [hAe] at z; exact z) ?_
      refine W.widen (k := 600000) (n := 7302250) (Nat.le_of_ble_eq_true rfl) (Nat.le_of_ble_eq_true rfl) ?_
      exact lw_ret hx hb hr hlocks dL_law_1534
    by_cases c_177 : v_157 = 19
    · subst c_177
      have hP := hP.sub (ws' := [(q_1, .inr (9, [.ref q_2, .ref q_3, .ref q_4, .ref q_5, .ref q_6, .ref q_7, .ref q_8, .ref q_9, .ref q_10, .ref q_11, .ref q_12, .ref q_13, .int 0])), (q_4, .inr (8, [.int 0, .int 0, .int 0, .ref q_16, .ref q_17, .ref q_18, .ref q_19, .ref q_20, .ref q_21, .ref q_22, .ref q_23, .ref q_24, .ref q_25, .int 0, .int 1, .int 0, .int 0, .int 0])), (q_102, .inr (10, ((.ref q_103) :: (.ref q_104) :: (.int 0) :: (.int 0) :: (.int 0) :: (.int (-1)) :: (.int 0) :: (.int 0) :: (.int 0) :: (.int 0) :: (.long 0) :: (.ref q_105) :: (.ref q_106) :: (.ref q_107) :: (.ref q_108) :: (.ref q_109) :: (.ref q_110) :: (.ref q_111) :: (.ref q_112) :: (.ref q_113) :: (.ref q_114) :: (.ref q_115) :: (.ref q_116) :: (.ref q_117) :: (.ref q_118) :: (.ref q_119) :: (.ref q_120) :: (.ref q_121) :: (.ref q_122) :: (.ref q_123) :: (.ref q_124) :: (.ref q_125) :: (.ref q_126) :: (.ref q_127) :: (.ref q_128) :: (.ref q_129) :: (.ref q_130) :: (.ref q_131) :: (.ref q_132) :: (.ref q_133) :: (.ref q_134) :: (.int 0) :: (.int 0) :: (.int 0) :: (.int 0) :: (.int 0) :: (.int 0) :: (.int 0) :: (.int 0) :: (.int 0) :: (.ref q_135) :: (.ref q_136) :: (.int 0) :: (.ref q_137) :: (.int 0) :: (.int 0) :: (.int 0) :: (.int 0) :: (.int 0) :: (.int 0) :: (.ref q_138) :: (.int 0) :: (.ref q_139) :: (.ref q_140) :: (.ref q_141) :: (.ref q_142) :: (.ref q_143) :: (.ref q_144) :: (.ref q_145) :: (.ref q_146) :: (.ref q_147) :: (.ref q_148) :: (.int 0) :: (.int 0) :: (.ref q_149) :: (.ref q_150) :: []))), (q_105, .inl (cI, 2, .inl (lst [0, 0])))]) [0, 3, 67, 70] rfl
      have hD := hD.sub (ws' := [(q_1, .inr (9, [.ref q_2, .ref q_3, .ref q_4, .ref q_5, .ref q_6, .ref q_7, .ref q_8, .ref q_9, .ref q_10, .ref q_11, .ref q_12, .ref q_13, .int 0])), (q_4, .inr (8, [.int 0, .int 0, .int 0, .ref q_16, .ref q_17, .ref q_18, .ref q_19, .ref q_20, .ref q_21, .ref q_22, .ref q_23, .ref q_24, .ref q_25, .int 0, .int 1, .int 0, .int 0, .int 0])), (q_102, .inr (10, ((.ref q_103) :: (.ref q_104) :: (.int 0) :: (.int 0) :: (.int 0) :: (.int (-1)) :: (.int 0) :: (.int 0) :: (.int 0) :: (.int 0) :: (.long 0) :: (.ref q_105) :: (.ref q_106) :: (.ref q_107) :: (.ref q_108) :: (.ref q_109) :: (.ref q_110) :: (.ref q_111) :: (.ref q_112) :: (.ref q_113) :: (.ref q_114) :: (.ref q_115) :: (.ref q_116) :: (.ref q_117) :: (.ref q_118) :: (.ref q_119) :: (.ref q_120) :: (.ref q_121) :: (.ref q_122) :: (.ref q_123) :: (.ref q_124) :: (.ref q_125) :: (.ref q_126) :: (.ref q_127) :: (.ref q_128) :: (.ref q_129) :: (.ref q_130) :: (.ref q_131) :: (.ref q_132) :: (.ref q_133) :: (.ref q_134) :: (.int 0) :: (.int 0) :: (.int 0) :: (.int 0) :: (.int 0) :: (.int 0) :: (.int 0) :: (.int 0) :: (.int 0) :: (.ref q_135) :: (.ref q_136) :: (.int 0) :: (.ref q_137) :: (.int 0) :: (.int 0) :: (.int 0) :: (.int 0) :: (.int 0) :: (.int 0) :: (.ref q_138) :: (.int 0) :: (.ref q_139) :: (.ref q_140) :: (.ref q_141) :: (.ref q_142) :: (.ref q_143) :: (.ref q_144) :: (.ref q_145) :: (.ref q_146) :: (.ref q_147) :: (.ref q_148) :: (.int 0) :: (.int 0) :: (.ref q_149) :: (.ref q_150) :: []))), (q_105, .inl (cI, 2, .inl (lst [0, 0])))]) [0, 3, 67, 70] (by decide) rfl
      refine lv_tableIn (off := 702) (tgt := 735) hx hb dL_law_33 (by decide) (by decide) (by decide +kernel) (by decide) ?_
      refine lv_aload_n hx hb dL_law_735 rfl (lv_at hl 2 rfl) ?_
      refine lv_aload_n hx hb dL_law_736 rfl (lv_at hl 3 rfl) ?_
      refine lv_iload_n hx hb dL_law_737 rfl (lv_at hl 0 rfl) ?_
      refine lv_iconst (v := 1) hx hb dL_law_738 (by decide +kernel) ?_
      refine lv_iadd hx hb dL_law_739 ?_
      refine xt_i (v := 1) (by decide +kernel) ?_
      refine va_sld hx hb hX hbl hbA hS (vin (by decide +kernel)) dL_law_740 ?_
      refine xt_i (v := xs 1) rfl ?_
      refine xc_core (wr := [(q_102, .inr (10, ((.ref q_103) :: (.ref q_104) :: (.int 0) :: (.int 0) :: (.int 0) :: (.int (-1)) :: (.int 0) :: (.int 0) :: (.int 0) :: (.int 0) :: (.long 0) :: (.ref q_105) :: (.ref q_106) :: (.ref q_107) :: (.ref q_108) :: (.ref q_109) :: (.ref q_110) :: (.ref q_111) :: (.ref q_112) :: (.ref q_113) :: (.ref q_114) :: (.ref q_115) :: (.ref q_116) :: (.ref q_117) :: (.ref q_118) :: (.ref q_119) :: (.ref q_120) :: (.ref q_121) :: (.ref q_122) :: (.ref q_123) :: (.ref q_124) :: (.ref q_125) :: (.ref q_126) :: (.ref q_127) :: (.ref q_128) :: (.ref q_129) :: (.ref q_130) :: (.ref q_131) :: (.ref q_132) :: (.ref q_133) :: (.ref q_134) :: (.int 0) :: (.int 0) :: (.int 0) :: (.int 0) :: (.int 0) :: (.int 0) :: (.int 0) :: (.int 0) :: (.int 0) :: (.ref q_135) :: (.ref q_136) :: (.int 0) :: (.ref q_137) :: (.int 0) :: (.int 0) :: (.int 0) :: (.int 0) :: (.int 0) :: (.int 0) :: (.ref q_138) :: (.int 0) :: (.ref q_139) :: (.ref q_140) :: (.ref q_141) :: (.ref q_142) :: (.ref q_143) :: (.ref q_144) :: (.ref q_145) :: (.ref q_146) :: (.ref q_147) :: (.ref q_148) :: (.int 0) :: (.int 0) :: (.ref q_149) :: (.ref q_150) :: []))), (q_105, .inl (cI, 2, .inl (lst [0, 0])))]) (k := 116) (n := 11963) (xc_runV (As := [.int (xs 1)]) (rest := []) hx hb hml hown hts hG hE hP hD hS hA [0, 1] (by decide) rfl (cX9_envies_1 l D cB cI cJ cZ aK aV q_1 ((xs 1)) q_2 q_3 q_4 q_5 q_6 q_7 q_8 q_9 q_10 q_11 q_12 q_13 q_16 q_17 q_18 q_19 q_20 q_21 q_22 q_23 q_24 q_25) kw1056 kw1053 kw1054 kw1055 kw112 (show XD yX9_envies 1 from by decide +kernel) (by decide) rfl rfl 0 rfl hl.1 rfl (Nat.le_of_ble_eq_true rfl) dL_law_741 (by decide)) hP hD hS hA [0, 1] [2, 3] rfl rfl (by decide) (by decide) (Nat.le_of_ble_eq_true rfl) (Nat.le_of_ble_eq_true rfl) (fun r w1 H locs hpost hP hD hS => ?_)
      obtain rfl := hpost
      have hP := hP.sub (ws' := [(q_102, .inr (10, ((.ref q_103) :: (.ref q_104) :: (.int 0) :: (.int 0) :: (.int 0) :: (.int (-1)) :: (.int 0) :: (.int 0) :: (.int 0) :: (.int 0) :: (.long 0) :: (.ref q_105) :: (.ref q_106) :: (.ref q_107) :: (.ref q_108) :: (.ref q_109) :: (.ref q_110) :: (.ref q_111) :: (.ref q_112) :: (.ref q_113) :: (.ref q_114) :: (.ref q_115) :: (.ref q_116) :: (.ref q_117) :: (.ref q_118) :: (.ref q_119) :: (.ref q_120) :: (.ref q_121) :: (.ref q_122) :: (.ref q_123) :: (.ref q_124) :: (.ref q_125) :: (.ref q_126) :: (.ref q_127) :: (.ref q_128) :: (.ref q_129) :: (.ref q_130) :: (.ref q_131) :: (.ref q_132) :: (.ref q_133) :: (.ref q_134) :: (.int 0) :: (.int 0) :: (.int 0) :: (.int 0) :: (.int 0) :: (.int 0) :: (.int 0) :: (.int 0) :: (.int 0) :: (.ref q_135) :: (.ref q_136) :: (.int 0) :: (.ref q_137) :: (.int 0) :: (.int 0) :: (.int 0) :: (.int 0) :: (.int 0) :: (.int 0) :: (.ref q_138) :: (.int 0) :: (.ref q_139) :: (.ref q_140) :: (.ref q_141) :: (.ref q_142) :: (.ref q_143) :: (.ref q_144) :: (.ref q_145) :: (.ref q_146) :: (.ref q_147) :: (.ref q_148) :: (.int 0) :: (.int 0) :: (.ref q_149) :: (.ref q_150) :: []))), (q_105, .inl (cI, 2, .inl (lst [0, 0])))]) [0, 1] rfl
      have hD := hD.sub (ws' := [(q_102, .inr (10, ((.ref q_103) :: (.ref q_104) :: (.int 0) :: (.int 0) :: (.int 0) :: (.int (-1)) :: (.int 0) :: (.int 0) :: (.int 0) :: (.int 0) :: (.long 0) :: (.ref q_105) :: (.ref q_106) :: (.ref q_107) :: (.ref q_108) :: (.ref q_109) :: (.ref q_110) :: (.ref q_111) :: (.ref q_112) :: (.ref q_113) :: (.ref q_114) :: (.ref q_115) :: (.ref q_116) :: (.ref q_117) :: (.ref q_118) :: (.ref q_119) :: (.ref q_120) :: (.ref q_121) :: (.ref q_122) :: (.ref q_123) :: (.ref q_124) :: (.ref q_125) :: (.ref q_126) :: (.ref q_127) :: (.ref q_128) :: (.ref q_129) :: (.ref q_130) :: (.ref q_131) :: (.ref q_132) :: (.ref q_133) :: (.ref q_134) :: (.int 0) :: (.int 0) :: (.int 0) :: (.int 0) :: (.int 0) :: (.int 0) :: (.int 0) :: (.int 0) :: (.int 0) :: (.ref q_135) :: (.ref q_136) :: (.int 0) :: (.ref q_137) :: (.int 0) :: (.int 0) :: (.int 0) :: (.int 0) :: (.int 0) :: (.int 0) :: (.ref q_138) :: (.int 0) :: (.ref q_139) :: (.ref q_140) :: (.ref q_141) :: (.ref q_142) :: (.ref q_143) :: (.ref q_144) :: (.ref q_145) :: (.ref q_146) :: (.ref q_147) :: (.ref q_148) :: (.int 0) :: (.int 0) :: (.ref q_149) :: (.ref q_150) :: []))), (q_105, .inl (cI, 2, .inl (lst [0, 0])))]) [0, 1] (by decide) rfl
      refine lv_aload_n hx hb dL_law_744 rfl (lv_at hl 1 rfl) ?_
      refine lv_aload_n hx hb dL_law_745 rfl (lv_at hl 3 rfl) ?_
      refine lv_iload_n hx hb dL_law_746 rfl (lv_at hl 0 rfl) ?_
      refine lv_iconst (v := 1) hx hb dL_law_747 (by decide +kernel) ?_
      refine lv_iadd hx hb dL_law_748 ?_
      refine xt_i (v := 1) (by decide +kernel) ?_
      refine va_sld hx hb hX hbl hbA hS (vin (by decide +kernel)) dL_law_749 ?_
      refine xt_i (v := xs 1) rfl ?_
      refine xc_core (wr := []) (k := 116) (n := 11963) (xc_runV (As := [.int (xs 1)]) (rest := [.int (-1)]) hx hb hml hown hts hG hE hP hD hS hA [0, 1] (by decide) rfl (cX10_envies_1 l D cB cI cJ cZ aK aV q_102 ((xs 1)) q_103 q_104 q_105 q_106 q_107 q_108 q_109 q_110 q_111 q_112 q_113 q_114 q_115 q_116 q_117 q_118 q_119 q_120 q_121 q_122 q_123 q_124 q_125 q_126 q_127 q_128 q_129 q_130 q_131 q_132 q_133 q_134 q_135 q_136 q_137 q_138 q_139 q_140 q_141 q_142 q_143 q_144 q_145 q_146 q_147 q_148 q_149 q_150) kw1770 kw1767 kw1768 kw1769 kw127 (show XD yX10_envies 1 from by decide +kernel) (by decide) rfl rfl 0 rfl hl.1 rfl (Nat.le_of_ble_eq_true rfl) dL_law_750 (by decide)) hP hD hS hA [0, 1] [] rfl rfl (by decide) (by decide) (Nat.le_of_ble_eq_true rfl) (Nat.le_of_ble_eq_true rfl) (fun r w1 H locs hpost hP hD hS => ?_)
      obtain rfl := hpost
      have hP := hP.sub (ws' := []) [] rfl
      have hD := hD.sub (ws' := []) [] (by decide) rfl
      refine lv_icmp_eq (tgt := 1527) hx hb dL_law_753 (by decide) (fun _ => ?_) (fun h => absurd h (by decide +kernel))
      refine lv_iinc (v := 6) (lv' := [(3, .int 6), (2, .ref q_102), (1, .ref q_1), (0, .ref b)]) hx hb dL_law_1527 hl (k := 0) rfl (by decide +kernel) (by decide) rfl (fun ls hl => ?_)
      refine lv_goto (tgt := 18) hx hb dL_law_1530 (by decide) ?_
      refine lv_iload_n hx hb dL_law_18 rfl (lv_at hl 0 rfl) ?_
      refine lv_aload_n hx hb dL_law_19 rfl (lv_at hl 3 rfl) ?_
      refine va_slen hx hb hX hbl hbA hS dL_law_20 ?_
      refine xt_i (v := 6) (by decide +kernel) ?_
      refine lv_bipush (v := 6) hx hb dL_law_21 (by decide +kernel) ?_
      refine lv_isub hx hb dL_law_23 ?_
      refine xt_i (v := 0) (by decide +kernel) ?_
      refine lv_icmp_gt (tgt := 1533) hx hb dL_law_24 (by decide) (fun _ => ?_) (fun h => absurd h (by decide +kernel))
      refine lv_iconst (v := 1) hx hb dL_law_1533 (by decide +kernel) ?_
      refine va_forget (fun q hq => by have z := hS.2.2 q hq; rw [hAe] at z; exact z) ?_
      refine W.widen (k := 600000) (n := 7302250) (Nat.le_of_ble_eq_true rfl) (Nat.le_of_ble_eq_true rfl) ?_
      exact lw_ret hx hb hr hlocks dL_law_1534
    by_cases c_178 : v_157 = 20
    · subst c_178
      have hP := hP.sub (ws' := [(q_1, .inr (9, [.ref q_2, .ref q_3, .ref q_4, .ref q_5, .ref q_6, .ref q_7, .ref q_8, .ref q_9, .ref q_10, .ref q_11, .ref q_12, .ref q_13, .int 0])), (q_4, .inr (8, [.int 0, .int 0, .int 0, .ref q_16, .ref q_17, .ref q_18, .ref q_19, .ref q_20, .ref q_21, .ref q_22, .ref q_23, .ref q_24, .ref q_25, .int 0, .int 1, .int 0, .int 0, .int 0])), (q_102, .inr (10, ((.ref q_103) :: (.ref q_104) :: (.int 0) :: (.int 0) :: (.int 0) :: (.int (-1)) :: (.int 0) :: (.int 0) :: (.int 0) :: (.int 0) :: (.long 0) :: (.ref q_105) :: (.ref q_106) :: (.ref q_107) :: (.ref q_108) :: (.ref q_109) :: (.ref q_110) :: (.ref q_111) :: (.ref q_112) :: (.ref q_113) :: (.ref q_114) :: (.ref q_115) :: (.ref q_116) :: (.ref q_117) :: (.ref q_118) :: (.ref q_119) :: (.ref q_120) :: (.ref q_121) :: (.ref q_122) :: (.ref q_123) :: (.ref q_124) :: (.ref q_125) :: (.ref q_126) :: (.ref q_127) :: (.ref q_128) :: (.ref q_129) :: (.ref q_130) :: (.ref q_131) :: (.ref q_132) :: (.ref q_133) :: (.ref q_134) :: (.int 0) :: (.int 0) :: (.int 0) :: (.int 0) :: (.int 0) :: (.int 0) :: (.int 0) :: (.int 0) :: (.int 0) :: (.ref q_135) :: (.ref q_136) :: (.int 0) :: (.ref q_137) :: (.int 0) :: (.int 0) :: (.int 0) :: (.int 0) :: (.int 0) :: (.int 0) :: (.ref q_138) :: (.int 0) :: (.ref q_139) :: (.ref q_140) :: (.ref q_141) :: (.ref q_142) :: (.ref q_143) :: (.ref q_144) :: (.ref q_145) :: (.ref q_146) :: (.ref q_147) :: (.ref q_148) :: (.int 0) :: (.int 0) :: (.ref q_149) :: (.ref q_150) :: []))), (q_105, .inl (cI, 2, .inl (lst [0, 0])))]) [0, 3, 67, 70] rfl
      have hD := hD.sub (ws' := [(q_1, .inr (9, [.ref q_2, .ref q_3, .ref q_4, .ref q_5, .ref q_6, .ref q_7, .ref q_8, .ref q_9, .ref q_10, .ref q_11, .ref q_12, .ref q_13, .int 0])), (q_4, .inr (8, [.int 0, .int 0, .int 0, .ref q_16, .ref q_17, .ref q_18, .ref q_19, .ref q_20, .ref q_21, .ref q_22, .ref q_23, .ref q_24, .ref q_25, .int 0, .int 1, .int 0, .int 0, .int 0])), (q_102, .inr (10, ((.ref q_103) :: (.ref q_104) :: (.int 0) :: (.int 0) :: (.int 0) :: (.int (-1)) :: (.int 0) :: (.int 0) :: (.int 0) :: (.int 0) :: (.long 0) :: (.ref q_105) :: (.ref q_106) :: (.ref q_107) :: (.ref q_108) :: (.ref q_109) :: (.ref q_110) :: (.ref q_111) :: (.ref q_112) :: (.ref q_113) :: (.ref q_114) :: (.ref q_115) :: (.ref q_116) :: (.ref q_117) :: (.ref q_118) :: (.ref q_119) :: (.ref q_120) :: (.ref q_121) :: (.ref q_122) :: (.ref q_123) :: (.ref q_124) :: (.ref q_125) :: (.ref q_126) :: (.ref q_127) :: (.ref q_128) :: (.ref q_129) :: (.ref q_130) :: (.ref q_131) :: (.ref q_132) :: (.ref q_133) :: (.ref q_134) :: (.int 0) :: (.int 0) :: (.int 0) :: (.int 0) :: (.int 0) :: (.int 0) :: (.int 0) :: (.int 0) :: (.int 0) :: (.ref q_135) :: (.ref q_136) :: (.int 0) :: (.ref q_137) :: (.int 0) :: (.int 0) :: (.int 0) :: (.int 0) :: (.int 0) :: (.int 0) :: (.ref q_138) :: (.int 0) :: (.ref q_139) :: (.ref q_140) :: (.ref q_141) :: (.ref q_142) :: (.ref q_143) :: (.ref q_144) :: (.ref q_145) :: (.ref q_146) :: (.ref q_147) :: (.ref q_148) :: (.int 0) :: (.int 0) :: (.ref q_149) :: (.ref q_150) :: []))), (q_105, .inl (cI, 2, .inl (lst [0, 0])))]) [0, 3, 67, 70] (by decide) rfl
      refine lv_tableIn (off := 725) (tgt := 758) hx hb dL_law_33 (by decide) (by decide) (by decide +kernel) (by decide) ?_
      refine lv_aload_n hx hb dL_law_758 rfl (lv_at hl 2 rfl) ?_
      refine lv_aload_n hx hb dL_law_759 rfl (lv_at hl 3 rfl) ?_
      refine lv_iload_n hx hb dL_law_760 rfl (lv_at hl 0 rfl) ?_
      refine lv_iconst (v := 1) hx hb dL_law_761 (by decide +kernel) ?_
      refine lv_iadd hx hb dL_law_762 ?_
      refine xt_i (v := 1) (by decide +kernel) ?_
      refine va_sld hx hb hX hbl hbA hS (vin (by decide +kernel)) dL_law_763 ?_
      refine xt_i (v := xs 1) rfl ?_
      refine xc_core (wr := [(q_102, .inr (10, ((.ref q_103) :: (.ref q_104) :: (.int 0) :: (.int 0) :: (.int 0) :: (.int (-1)) :: (.int 0) :: (.int 0) :: (.int 0) :: (.int 0) :: (.long 0) :: (.ref q_105) :: (.ref q_106) :: (.ref q_107) :: (.ref q_108) :: (.ref q_109) :: (.ref q_110) :: (.ref q_111) :: (.ref q_112) :: (.ref q_113) :: (.ref q_114) :: (.ref q_115) :: (.ref q_116) :: (.ref q_117) :: (.ref q_118) :: (.ref q_119) :: (.ref q_120) :: (.ref q_121) :: (.ref q_122) :: (.ref q_123) :: (.ref q_124) :: (.ref q_125) :: (.ref q_126) :: (.ref q_127) :: (.ref q_128) :: (.ref q_129) :: (.ref q_130) :: (.ref q_131) :: (.ref q_132) :: (.ref q_133) :: (.ref q_134) :: (.int 0) :: (.int 0) :: (.int 0) :: (.int 0) :: (.int 0) :: (.int 0) :: (.int 0) :: (.int 0) :: (.int 0) :: (.ref q_135) :: (.ref q_136) :: (.int 0) :: (.ref q_137) :: (.int 0) :: (.int 0) :: (.int 0) :: (.int 0) :: (.int 0) :: (.int 0) :: (.ref q_138) :: (.int 0) :: (.ref q_139) :: (.ref q_140) :: (.ref q_141) :: (.ref q_142) :: (.ref q_143) :: (.ref q_144) :: (.ref q_145) :: (.ref q_146) :: (.ref q_147) :: (.ref q_148) :: (.int 0) :: (.int 0) :: (.ref q_149) :: (.ref q_150) :: []))), (q_105, .inl (cI, 2, .inl (lst [0, 0])))]) (k := 116) (n := 11963) (xc_runV (As := [.int (xs 1)]) (rest := []) hx hb hml hown hts hG hE hP hD hS hA [0, 1] (by decide) rfl (cX9_ports_1 l D cB cI cJ cZ aK aV q_1 ((xs 1)) q_2 q_3 q_4 q_5 q_6 q_7 q_8 q_9 q_10 q_11 q_12 q_13 q_16 q_17 q_18 q_19 q_20 q_21 q_22 q_23 q_24 q_25) kw1060 kw1057 kw1058 kw1059 kw112 (show XD yX9_ports 1 from by decide +kernel) (by decide) rfl rfl 0 rfl hl.1 rfl (Nat.le_of_ble_eq_true rfl) dL_law_764 (by decide)) hP hD hS hA [0, 1] [2, 3] rfl rfl (by decide) (by decide) (Nat.le_of_ble_eq_true rfl) (Nat.le_of_ble_eq_true rfl) (fun r w1 H locs hpost hP hD hS => ?_)
      obtain rfl := hpost
      have hP := hP.sub (ws' := [(q_102, .inr (10, ((.ref q_103) :: (.ref q_104) :: (.int 0) :: (.int 0) :: (.int 0) :: (.int (-1)) :: (.int 0) :: (.int 0) :: (.int 0) :: (.int 0) :: (.long 0) :: (.ref q_105) :: (.ref q_106) :: (.ref q_107) :: (.ref q_108) :: (.ref q_109) :: (.ref q_110) :: (.ref q_111) :: (.ref q_112) :: (.ref q_113) :: (.ref q_114) :: (.ref q_115) :: (.ref q_116) :: (.ref q_117) :: (.ref q_118) :: (.ref q_119) :: (.ref q_120) :: (.ref q_121) :: (.ref q_122) :: (.ref q_123) :: (.ref q_124) :: (.ref q_125) :: (.ref q_126) :: (.ref q_127) :: (.ref q_128) :: (.ref q_129) :: (.ref q_130) :: (.ref q_131) :: (.ref q_132) :: (.ref q_133) :: (.ref q_134) :: (.int 0) :: (.int 0) :: (.int 0) :: (.int 0) :: (.int 0) :: (.int 0) :: (.int 0) :: (.int 0) :: (.int 0) :: (.ref q_135) :: (.ref q_136) :: (.int 0) :: (.ref q_137) :: (.int 0) :: (.int 0) :: (.int 0) :: (.int 0) :: (.int 0) :: (.int 0) :: (.ref q_138) :: (.int 0) :: (.ref q_139) :: (.ref q_140) :: (.ref q_141) :: (.ref q_142) :: (.ref q_143) :: (.ref q_144) :: (.ref q_145) :: (.ref q_146) :: (.ref q_147) :: (.ref q_148) :: (.int 0) :: (.int 0) :: (.ref q_149) :: (.ref q_150) :: []))), (q_105, .inl (cI, 2, .inl (lst [0, 0])))]) [0, 1] rfl
      have hD := hD.sub (ws' := [(q_102, .inr (10, ((.ref q_103) :: (.ref q_104) :: (.int 0) :: (.int 0) :: (.int 0) :: (.int (-1)) :: (.int 0) :: (.int 0) :: (.int 0) :: (.int 0) :: (.long 0) :: (.ref q_105) :: (.ref q_106) :: (.ref q_107) :: (.ref q_108) :: (.ref q_109) :: (.ref q_110) :: (.ref q_111) :: (.ref q_112) :: (.ref q_113) :: (.ref q_114) :: (.ref q_115) :: (.ref q_116) :: (.ref q_117) :: (.ref q_118) :: (.ref q_119) :: (.ref q_120) :: (.ref q_121) :: (.ref q_122) :: (.ref q_123) :: (.ref q_124) :: (.ref q_125) :: (.ref q_126) :: (.ref q_127) :: (.ref q_128) :: (.ref q_129) :: (.ref q_130) :: (.ref q_131) :: (.ref q_132) :: (.ref q_133) :: (.ref q_134) :: (.int 0) :: (.int 0) :: (.int 0) :: (.int 0) :: (.int 0) :: (.int 0) :: (.int 0) :: (.int 0) :: (.int 0) :: (.ref q_135) :: (.ref q_136) :: (.int 0) :: (.ref q_137) :: (.int 0) :: (.int 0) :: (.int 0) :: (.int 0) :: (.int 0) :: (.int 0) :: (.ref q_138) :: (.int 0) :: (.ref q_139) :: (.ref q_140) :: (.ref q_141) :: (.ref q_142) :: (.ref q_143) :: (.ref q_144) :: (.ref q_145) :: (.ref q_146) :: (.ref q_147) :: (.ref q_148) :: (.int 0) :: (.int 0) :: (.ref q_149) :: (.ref q_150) :: []))), (q_105, .inl (cI, 2, .inl (lst [0, 0])))]) [0, 1] (by decide) rfl
      refine lv_aload_n hx hb dL_law_767 rfl (lv_at hl 1 rfl) ?_
      refine lv_aload_n hx hb dL_law_768 rfl (lv_at hl 3 rfl) ?_
      refine lv_iload_n hx hb dL_law_769 rfl (lv_at hl 0 rfl) ?_
      refine lv_iconst (v := 1) hx hb dL_law_770 (by decide +kernel) ?_
      refine lv_iadd hx hb dL_law_771 ?_
      refine xt_i (v := 1) (by decide +kernel) ?_
      refine va_sld hx hb hX hbl hbA hS (vin (by decide +kernel)) dL_law_772 ?_
      refine xt_i (v := xs 1) rfl ?_
      refine xc_core (wr := []) (k := 116) (n := 11963) (xc_runV (As := [.int (xs 1)]) (rest := [.int (-1)]) hx hb hml hown hts hG hE hP hD hS hA [0, 1] (by decide) rfl (cX10_ports_1 l D cB cI cJ cZ aK aV q_102 ((xs 1)) q_103 q_104 q_105 q_106 q_107 q_108 q_109 q_110 q_111 q_112 q_113 q_114 q_115 q_116 q_117 q_118 q_119 q_120 q_121 q_122 q_123 q_124 q_125 q_126 q_127 q_128 q_129 q_130 q_131 q_132 q_133 q_134 q_135 q_136 q_137 q_138 q_139 q_140 q_141 q_142 q_143 q_144 q_145 q_146 q_147 q_148 q_149 q_150) kw1766 kw1763 kw1764 kw1765 kw127 (show XD yX10_ports 1 from by decide +kernel) (by decide) rfl rfl 0 rfl hl.1 rfl (Nat.le_of_ble_eq_true rfl) dL_law_773 (by decide)) hP hD hS hA [0, 1] [] rfl rfl (by decide) (by decide) (Nat.le_of_ble_eq_true rfl) (Nat.le_of_ble_eq_true rfl) (fun r w1 H locs hpost hP hD hS => ?_)
      obtain rfl := hpost
      have hP := hP.sub (ws' := []) [] rfl
      have hD := hD.sub (ws' := []) [] (by decide) rfl
      refine lv_icmp_eq (tgt := 1527) hx hb dL_law_776 (by decide) (fun _ => ?_) (fun h => absurd h (by decide +kernel))
      refine lv_iinc (v := 6) (lv' := [(3, .int 6), (2, .ref q_102), (1, .ref q_1), (0, .ref b)]) hx hb dL_law_1527 hl (k := 0) rfl (by decide +kernel) (by decide) rfl (fun ls hl => ?_)
      refine lv_goto (tgt := 18) hx hb dL_law_1530 (by decide) ?_
      refine lv_iload_n hx hb dL_law_18 rfl (lv_at hl 0 rfl) ?_
      refine lv_aload_n hx hb dL_law_19 rfl (lv_at hl 3 rfl) ?_
      refine va_slen hx hb hX hbl hbA hS dL_law_20 ?_
      refine xt_i (v := 6) (by decide +kernel) ?_
      refine lv_bipush (v := 6) hx hb dL_law_21 (by decide +kernel) ?_
      refine lv_isub hx hb dL_law_23 ?_
      refine xt_i (v := 0) (by decide +kernel) ?_
      refine lv_icmp_gt (tgt := 1533) hx hb dL_law_24 (by decide) (fun _ => ?_) (fun h => absurd h (by decide +kernel))
      refine lv_iconst (v := 1) hx hb dL_law_1533 (by decide +kernel) ?_
      refine va_forget (fun q hq => by have z := hS.2.2 q hq; rw [hAe] at z; exact z) ?_
      refine W.widen (k := 600000) (n := 7302250) (Nat.le_of_ble_eq_true rfl) (Nat.le_of_ble_eq_true rfl) ?_
      exact lw_ret hx hb hr hlocks dL_law_1534
    by_cases c_179 : v_157 = 21
    · subst c_179
      have hP := hP.sub (ws' := [(q_1, .inr (9, [.ref q_2, .ref q_3, .ref q_4, .ref q_5, .ref q_6, .ref q_7, .ref q_8, .ref q_9, .ref q_10, .ref q_11, .ref q_12, .ref q_13, .int 0])), (q_4, .inr (8, [.int 0, .int 0, .int 0, .ref q_16, .ref q_17, .ref q_18, .ref q_19, .ref q_20, .ref q_21, .ref q_22, .ref q_23, .ref q_24, .ref q_25, .int 0, .int 1, .int 0, .int 0, .int 0])), (q_6, .inr (3, [.ref q_4, .ref q_73, .ref q_74, .ref q_75, .ref q_76, .ref q_77, .int 0, .int 0])), (q_9, .inr (0, [.int 0, .int 0, .ref q_92, .ref q_93, .int 0, .int 0, .int 0, .ref q_94, .ref q_95, .int 0, .int 0, .int 0, .int 0, .int 0])), (q_11, .inr (5, [.ref q_101, .int 0])), (q_102, .inr (10, ((.ref q_103) :: (.ref q_104) :: (.int 0) :: (.int 0) :: (.int 0) :: (.int (-1)) :: (.int 0) :: (.int 0) :: (.int 0) :: (.int 0) :: (.long 0) :: (.ref q_105) :: (.ref q_106) :: (.ref q_107) :: (.ref q_108) :: (.ref q_109) :: (.ref q_110) :: (.ref q_111) :: (.ref q_112) :: (.ref q_113) :: (.ref q_114) :: (.ref q_115) :: (.ref q_116) :: (.ref q_117) :: (.ref q_118) :: (.ref q_119) :: (.ref q_120) :: (.ref q_121) :: (.ref q_122) :: (.ref q_123) :: (.ref q_124) :: (.ref q_125) :: (.ref q_126) :: (.ref q_127) :: (.ref q_128) :: (.ref q_129) :: (.ref q_130) :: (.ref q_131) :: (.ref q_132) :: (.ref q_133) :: (.ref q_134) :: (.int 0) :: (.int 0) :: (.int 0) :: (.int 0) :: (.int 0) :: (.int 0) :: (.int 0) :: (.int 0) :: (.int 0) :: (.ref q_135) :: (.ref q_136) :: (.int 0) :: (.ref q_137) :: (.int 0) :: (.int 0) :: (.int 0) :: (.int 0) :: (.int 0) :: (.int 0) :: (.ref q_138) :: (.int 0) :: (.ref q_139) :: (.ref q_140) :: (.ref q_141) :: (.ref q_142) :: (.ref q_143) :: (.ref q_144) :: (.ref q_145) :: (.ref q_146) :: (.ref q_147) :: (.ref q_148) :: (.int 0) :: (.int 0) :: (.ref q_149) :: (.ref q_150) :: []))), (q_105, .inl (cI, 2, .inl (lst [0, 0])))]) [0, 3, 38, 52, 63, 67, 70] rfl
      have hD := hD.sub (ws' := [(q_1, .inr (9, [.ref q_2, .ref q_3, .ref q_4, .ref q_5, .ref q_6, .ref q_7, .ref q_8, .ref q_9, .ref q_10, .ref q_11, .ref q_12, .ref q_13, .int 0])), (q_4, .inr (8, [.int 0, .int 0, .int 0, .ref q_16, .ref q_17, .ref q_18, .ref q_19, .ref q_20, .ref q_21, .ref q_22, .ref q_23, .ref q_24, .ref q_25, .int 0, .int 1, .int 0, .int 0, .int 0])), (q_6, .inr (3, [.ref q_4, .ref q_73, .ref q_74, .ref q_75, .ref q_76, .ref q_77, .int 0, .int 0])), (q_9, .inr (0, [.int 0, .int 0, .ref q_92, .ref q_93, .int 0, .int 0, .int 0, .ref q_94, .ref q_95, .int 0, .int 0, .int 0, .int 0, .int 0])), (q_11, .inr (5, [.ref q_101, .int 0])), (q_102, .inr (10, ((.ref q_103) :: (.ref q_104) :: (.int 0) :: (.int 0) :: (.int 0) :: (.int (-1)) :: (.int 0) :: (.int 0) :: (.int 0) :: (.int 0) :: (.long 0) :: (.ref q_105) :: (.ref q_106) :: (.ref q_107) :: (.ref q_108) :: (.ref q_109) :: (.ref q_110) :: (.ref q_111) :: (.ref q_112) :: (.ref q_113) :: (.ref q_114) :: (.ref q_115) :: (.ref q_116) :: (.ref q_117) :: (.ref q_118) :: (.ref q_119) :: (.ref q_120) :: (.ref q_121) :: (.ref q_122) :: (.ref q_123) :: (.ref q_124) :: (.ref q_125) :: (.ref q_126) :: (.ref q_127) :: (.ref q_128) :: (.ref q_129) :: (.ref q_130) :: (.ref q_131) :: (.ref q_132) :: (.ref q_133) :: (.ref q_134) :: (.int 0) :: (.int 0) :: (.int 0) :: (.int 0) :: (.int 0) :: (.int 0) :: (.int 0) :: (.int 0) :: (.int 0) :: (.ref q_135) :: (.ref q_136) :: (.int 0) :: (.ref q_137) :: (.int 0) :: (.int 0) :: (.int 0) :: (.int 0) :: (.int 0) :: (.int 0) :: (.ref q_138) :: (.int 0) :: (.ref q_139) :: (.ref q_140) :: (.ref q_141) :: (.ref q_142) :: (.ref q_143) :: (.ref q_144) :: (.ref q_145) :: (.ref q_146) :: (.ref q_147) :: (.ref q_148) :: (.int 0) :: (.int 0) :: (.ref q_149) :: (.ref q_150) :: []))), (q_105, .inl (cI, 2, .inl (lst [0, 0])))]) [0, 3, 38, 52, 63, 67, 70] (by decide) rfl
      refine lv_tableIn (off := 748) (tgt := 781) hx hb dL_law_33 (by decide) (by decide) (by decide +kernel) (by decide) ?_
      refine lv_aload_n hx hb dL_law_781 rfl (lv_at hl 2 rfl) ?_
      refine xc_core (wr := [(q_102, .inr (10, ((.ref q_103) :: (.ref q_104) :: (.int 0) :: (.int 0) :: (.int 0) :: (.int (-1)) :: (.int 0) :: (.int 0) :: (.int 0) :: (.int 0) :: (.long 0) :: (.ref q_105) :: (.ref q_106) :: (.ref q_107) :: (.ref q_108) :: (.ref q_109) :: (.ref q_110) :: (.ref q_111) :: (.ref q_112) :: (.ref q_113) :: (.ref q_114) :: (.ref q_115) :: (.ref q_116) :: (.ref q_117) :: (.ref q_118) :: (.ref q_119) :: (.ref q_120) :: (.ref q_121) :: (.ref q_122) :: (.ref q_123) :: (.ref q_124) :: (.ref q_125) :: (.ref q_126) :: (.ref q_127) :: (.ref q_128) :: (.ref q_129) :: (.ref q_130) :: (.ref q_131) :: (.ref q_132) :: (.ref q_133) :: (.ref q_134) :: (.int 0) :: (.int 0) :: (.int 0) :: (.int 0) :: (.int 0) :: (.int 0) :: (.int 0) :: (.int 0) :: (.int 0) :: (.ref q_135) :: (.ref q_136) :: (.int 0) :: (.ref q_137) :: (.int 0) :: (.int 0) :: (.int 0) :: (.int 0) :: (.int 0) :: (.int 0) :: (.ref q_138) :: (.int 0) :: (.ref q_139) :: (.ref q_140) :: (.ref q_141) :: (.ref q_142) :: (.ref q_143) :: (.ref q_144) :: (.ref q_145) :: (.ref q_146) :: (.ref q_147) :: (.ref q_148) :: (.int 0) :: (.int 0) :: (.ref q_149) :: (.ref q_150) :: []))), (q_105, .inl (cI, 2, .inl (lst [0, 0])))]) (k := 116) (n := 11963) (xc_runV (As := []) (rest := []) hx hb hml hown hts hG hE hP hD hS hA [0, 1, 2, 3, 4] (by decide) rfl (cX9_ring_1 l D cB cI cJ cZ aK aV q_1 q_2 q_3 q_4 q_5 q_6 q_7 q_8 q_9 q_10 q_11 q_12 q_13 q_16 q_17 q_18 q_19 q_20 q_21 q_22 q_23 q_24 q_25 q_73 q_74 q_75 q_76 q_77 q_92 q_93 q_94 q_95 q_101) kw1064 kw1061 kw1062 kw1063 kw112 (show XD yX9_ring 0 from by decide +kernel) (by decide) rfl rfl 0 rfl hl.1 rfl (Nat.le_of_ble_eq_true rfl) dL_law_782 (by decide)) hP hD hS hA [0, 1, 2, 3, 4] [5, 6] rfl rfl (by decide) (by decide) (Nat.le_of_ble_eq_true rfl) (Nat.le_of_ble_eq_true rfl) (fun r w1 H locs hpost hP hD hS => ?_)
      obtain rfl := hpost
      have hP := hP.sub (ws' := [(q_102, .inr (10, ((.ref q_103) :: (.ref q_104) :: (.int 0) :: (.int 0) :: (.int 0) :: (.int (-1)) :: (.int 0) :: (.int 0) :: (.int 0) :: (.int 0) :: (.long 0) :: (.ref q_105) :: (.ref q_106) :: (.ref q_107) :: (.ref q_108) :: (.ref q_109) :: (.ref q_110) :: (.ref q_111) :: (.ref q_112) :: (.ref q_113) :: (.ref q_114) :: (.ref q_115) :: (.ref q_116) :: (.ref q_117) :: (.ref q_118) :: (.ref q_119) :: (.ref q_120) :: (.ref q_121) :: (.ref q_122) :: (.ref q_123) :: (.ref q_124) :: (.ref q_125) :: (.ref q_126) :: (.ref q_127) :: (.ref q_128) :: (.ref q_129) :: (.ref q_130) :: (.ref q_131) :: (.ref q_132) :: (.ref q_133) :: (.ref q_134) :: (.int 0) :: (.int 0) :: (.int 0) :: (.int 0) :: (.int 0) :: (.int 0) :: (.int 0) :: (.int 0) :: (.int 0) :: (.ref q_135) :: (.ref q_136) :: (.int 0) :: (.ref q_137) :: (.int 0) :: (.int 0) :: (.int 0) :: (.int 0) :: (.int 0) :: (.int 0) :: (.ref q_138) :: (.int 0) :: (.ref q_139) :: (.ref q_140) :: (.ref q_141) :: (.ref q_142) :: (.ref q_143) :: (.ref q_144) :: (.ref q_145) :: (.ref q_146) :: (.ref q_147) :: (.ref q_148) :: (.int 0) :: (.int 0) :: (.ref q_149) :: (.ref q_150) :: []))), (q_105, .inl (cI, 2, .inl (lst [0, 0])))]) [0, 1] rfl
      have hD := hD.sub (ws' := [(q_102, .inr (10, ((.ref q_103) :: (.ref q_104) :: (.int 0) :: (.int 0) :: (.int 0) :: (.int (-1)) :: (.int 0) :: (.int 0) :: (.int 0) :: (.int 0) :: (.long 0) :: (.ref q_105) :: (.ref q_106) :: (.ref q_107) :: (.ref q_108) :: (.ref q_109) :: (.ref q_110) :: (.ref q_111) :: (.ref q_112) :: (.ref q_113) :: (.ref q_114) :: (.ref q_115) :: (.ref q_116) :: (.ref q_117) :: (.ref q_118) :: (.ref q_119) :: (.ref q_120) :: (.ref q_121) :: (.ref q_122) :: (.ref q_123) :: (.ref q_124) :: (.ref q_125) :: (.ref q_126) :: (.ref q_127) :: (.ref q_128) :: (.ref q_129) :: (.ref q_130) :: (.ref q_131) :: (.ref q_132) :: (.ref q_133) :: (.ref q_134) :: (.int 0) :: (.int 0) :: (.int 0) :: (.int 0) :: (.int 0) :: (.int 0) :: (.int 0) :: (.int 0) :: (.int 0) :: (.ref q_135) :: (.ref q_136) :: (.int 0) :: (.ref q_137) :: (.int 0) :: (.int 0) :: (.int 0) :: (.int 0) :: (.int 0) :: (.int 0) :: (.ref q_138) :: (.int 0) :: (.ref q_139) :: (.ref q_140) :: (.ref q_141) :: (.ref q_142) :: (.ref q_143) :: (.ref q_144) :: (.ref q_145) :: (.ref q_146) :: (.ref q_147) :: (.ref q_148) :: (.int 0) :: (.int 0) :: (.ref q_149) :: (.ref q_150) :: []))), (q_105, .inl (cI, 2, .inl (lst [0, 0])))]) [0, 1] (by decide) rfl
      refine lv_aload_n hx hb dL_law_785 rfl (lv_at hl 1 rfl) ?_
      refine xc_core (wr := []) (k := 116) (n := 11963) (xc_runV (As := []) (rest := [.int (-1000000000)]) hx hb hml hown hts hG hE hP hD hS hA [0, 1] (by decide) rfl (cX10_ring_1 l D cB cI cJ cZ aK aV q_102 q_103 q_104 q_105 q_106 q_107 q_108 q_109 q_110 q_111 q_112 q_113 q_114 q_115 q_116 q_117 q_118 q_119 q_120 q_121 q_122 q_123 q_124 q_125 q_126 q_127 q_128 q_129 q_130 q_131 q_132 q_133 q_134 q_135 q_136 q_137 q_138 q_139 q_140 q_141 q_142 q_143 q_144 q_145 q_146 q_147 q_148 q_149 q_150) kw1862 kw1859 kw1860 kw1861 kw127 (show XD yX10_ring 0 from by decide +kernel) (by decide) rfl rfl 0 rfl hl.1 rfl (Nat.le_of_ble_eq_true rfl) dL_law_786 (by decide)) hP hD hS hA [0, 1] [] rfl rfl (by decide) (by decide) (Nat.le_of_ble_eq_true rfl) (Nat.le_of_ble_eq_true rfl) (fun r w1 H locs hpost hP hD hS => ?_)
      obtain rfl := hpost
      have hP := hP.sub (ws' := []) [] rfl
      have hD := hD.sub (ws' := []) [] (by decide) rfl
      refine lv_icmp_eq (tgt := 1527) hx hb dL_law_789 (by decide) (fun _ => ?_) (fun h => absurd h (by decide +kernel))
      refine lv_iinc (v := 6) (lv' := [(3, .int 6), (2, .ref q_102), (1, .ref q_1), (0, .ref b)]) hx hb dL_law_1527 hl (k := 0) rfl (by decide +kernel) (by decide) rfl (fun ls hl => ?_)
      refine lv_goto (tgt := 18) hx hb dL_law_1530 (by decide) ?_
      refine lv_iload_n hx hb dL_law_18 rfl (lv_at hl 0 rfl) ?_
      refine lv_aload_n hx hb dL_law_19 rfl (lv_at hl 3 rfl) ?_
      refine va_slen hx hb hX hbl hbA hS dL_law_20 ?_
      refine xt_i (v := 6) (by decide +kernel) ?_
      refine lv_bipush (v := 6) hx hb dL_law_21 (by decide +kernel) ?_
      refine lv_isub hx hb dL_law_23 ?_
      refine xt_i (v := 0) (by decide +kernel) ?_
      refine lv_icmp_gt (tgt := 1533) hx hb dL_law_24 (by decide) (fun _ => ?_) (fun h => absurd h (by decide +kernel))
      refine lv_iconst (v := 1) hx hb dL_law_1533 (by decide +kernel) ?_
      refine va_forget (fun q hq => by have z := hS.2.2 q hq; rw [hAe] at z; exact z) ?_
      refine W.widen (k := 600000) (n := 7302250) (Nat.le_of_ble_eq_true rfl) (Nat.le_of_ble_eq_true rfl) ?_
      exact lw_ret hx hb hr hlocks dL_law_1534
    by_cases c_180 : v_157 = 22
    · subst c_180
      have hP := hP.sub (ws' := [(q_1, .inr (9, [.ref q_2, .ref q_3, .ref q_4, .ref q_5, .ref q_6, .ref q_7, .ref q_8, .ref q_9, .ref q_10, .ref q_11, .ref q_12, .ref q_13, .int 0])), (q_4, .inr (8, [.int 0, .int 0, .int 0, .ref q_16, .ref q_17, .ref q_18, .ref q_19, .ref q_20, .ref q_21, .ref q_22, .ref q_23, .ref q_24, .ref q_25, .int 0, .int 1, .int 0, .int 0, .int 0])), (q_6, .inr (3, [.ref q_4, .ref q_73, .ref q_74, .ref q_75, .ref q_76, .ref q_77, .int 0, .int 0])), (q_9, .inr (0, [.int 0, .int 0, .ref q_92, .ref q_93, .int 0, .int 0, .int 0, .ref q_94, .ref q_95, .int 0, .int 0, .int 0, .int 0, .int 0])), (q_11, .inr (5, [.ref q_101, .int 0])), (q_102, .inr (10, ((.ref q_103) :: (.ref q_104) :: (.int 0) :: (.int 0) :: (.int 0) :: (.int (-1)) :: (.int 0) :: (.int 0) :: (.int 0) :: (.int 0) :: (.long 0) :: (.ref q_105) :: (.ref q_106) :: (.ref q_107) :: (.ref q_108) :: (.ref q_109) :: (.ref q_110) :: (.ref q_111) :: (.ref q_112) :: (.ref q_113) :: (.ref q_114) :: (.ref q_115) :: (.ref q_116) :: (.ref q_117) :: (.ref q_118) :: (.ref q_119) :: (.ref q_120) :: (.ref q_121) :: (.ref q_122) :: (.ref q_123) :: (.ref q_124) :: (.ref q_125) :: (.ref q_126) :: (.ref q_127) :: (.ref q_128) :: (.ref q_129) :: (.ref q_130) :: (.ref q_131) :: (.ref q_132) :: (.ref q_133) :: (.ref q_134) :: (.int 0) :: (.int 0) :: (.int 0) :: (.int 0) :: (.int 0) :: (.int 0) :: (.int 0) :: (.int 0) :: (.int 0) :: (.ref q_135) :: (.ref q_136) :: (.int 0) :: (.ref q_137) :: (.int 0) :: (.int 0) :: (.int 0) :: (.int 0) :: (.int 0) :: (.int 0) :: (.ref q_138) :: (.int 0) :: (.ref q_139) :: (.ref q_140) :: (.ref q_141) :: (.ref q_142) :: (.ref q_143) :: (.ref q_144) :: (.ref q_145) :: (.ref q_146) :: (.ref q_147) :: (.ref q_148) :: (.int 0) :: (.int 0) :: (.ref q_149) :: (.ref q_150) :: []))), (q_107, .inl (cI, 2, .inl (lst [0, 0])))]) [0, 3, 38, 52, 63, 67, 72] rfl
      have hD := hD.sub (ws' := [(q_1, .inr (9, [.ref q_2, .ref q_3, .ref q_4, .ref q_5, .ref q_6, .ref q_7, .ref q_8, .ref q_9, .ref q_10, .ref q_11, .ref q_12, .ref q_13, .int 0])), (q_4, .inr (8, [.int 0, .int 0, .int 0, .ref q_16, .ref q_17, .ref q_18, .ref q_19, .ref q_20, .ref q_21, .ref q_22, .ref q_23, .ref q_24, .ref q_25, .int 0, .int 1, .int 0, .int 0, .int 0])), (q_6, .inr (3, [.ref q_4, .ref q_73, .ref q_74, .ref q_75, .ref q_76, .ref q_77, .int 0, .int 0])), (q_9, .inr (0, [.int 0, .int 0, .ref q_92, .ref q_93, .int 0, .int 0, .int 0, .ref q_94, .ref q_95, .int 0, .int 0, .int 0, .int 0, .int 0])), (q_11, .inr (5, [.ref q_101, .int 0])), (q_102, .inr (10, ((.ref q_103) :: (.ref q_104) :: (.int 0) :: (.int 0) :: (.int 0) :: (.int (-1)) :: (.int 0) :: (.int 0) :: (.int 0) :: (.int 0) :: (.long 0) :: (.ref q_105) :: (.ref q_106) :: (.ref q_107) :: (.ref q_108) :: (.ref q_109) :: (.ref q_110) :: (.ref q_111) :: (.ref q_112) :: (.ref q_113) :: (.ref q_114) :: (.ref q_115) :: (.ref q_116) :: (.ref q_117) :: (.ref q_118) :: (.ref q_119) :: (.ref q_120) :: (.ref q_121) :: (.ref q_122) :: (.ref q_123) :: (.ref q_124) :: (.ref q_125) :: (.ref q_126) :: (.ref q_127) :: (.ref q_128) :: (.ref q_129) :: (.ref q_130) :: (.ref q_131) :: (.ref q_132) :: (.ref q_133) :: (.ref q_134) :: (.int 0) :: (.int 0) :: (.int 0) :: (.int 0) :: (.int 0) :: (.int 0) :: (.int 0) :: (.int 0) :: (.int 0) :: (.ref q_135) :: (.ref q_136) :: (.int 0) :: (.ref q_137) :: (.int 0) :: (.int 0) :: (.int 0) :: (.int 0) :: (.int 0) :: (.int 0) :: (.ref q_138) :: (.int 0) :: (.ref q_139) :: (.ref q_140) :: (.ref q_141) :: (.ref q_142) :: (.ref q_143) :: (.ref q_144) :: (.ref q_145) :: (.ref q_146) :: (.ref q_147) :: (.ref q_148) :: (.int 0) :: (.int 0) :: (.ref q_149) :: (.ref q_150) :: []))), (q_107, .inl (cI, 2, .inl (lst [0, 0])))]) [0, 3, 38, 52, 63, 67, 72] (by decide) rfl
      refine lv_tableIn (off := 761) (tgt := 794) hx hb dL_law_33 (by decide) (by decide) (by decide +kernel) (by decide) ?_
      refine lv_aload_n hx hb dL_law_794 rfl (lv_at hl 2 rfl) ?_
      refine xc_core (wr := [(q_102, .inr (10, ((.ref q_103) :: (.ref q_104) :: (.int 0) :: (.int 0) :: (.int 0) :: (.int (-1)) :: (.int 0) :: (.int 0) :: (.int 0) :: (.int 0) :: (.long 0) :: (.ref q_105) :: (.ref q_106) :: (.ref q_107) :: (.ref q_108) :: (.ref q_109) :: (.ref q_110) :: (.ref q_111) :: (.ref q_112) :: (.ref q_113) :: (.ref q_114) :: (.ref q_115) :: (.ref q_116) :: (.ref q_117) :: (.ref q_118) :: (.ref q_119) :: (.ref q_120) :: (.ref q_121) :: (.ref q_122) :: (.ref q_123) :: (.ref q_124) :: (.ref q_125) :: (.ref q_126) :: (.ref q_127) :: (.ref q_128) :: (.ref q_129) :: (.ref q_130) :: (.ref q_131) :: (.ref q_132) :: (.ref q_133) :: (.ref q_134) :: (.int 0) :: (.int 0) :: (.int 0) :: (.int 0) :: (.int 0) :: (.int 0) :: (.int 0) :: (.int 0) :: (.int 0) :: (.ref q_135) :: (.ref q_136) :: (.int 0) :: (.ref q_137) :: (.int 0) :: (.int 0) :: (.int 0) :: (.int 0) :: (.int 0) :: (.int 0) :: (.ref q_138) :: (.int 0) :: (.ref q_139) :: (.ref q_140) :: (.ref q_141) :: (.ref q_142) :: (.ref q_143) :: (.ref q_144) :: (.ref q_145) :: (.ref q_146) :: (.ref q_147) :: (.ref q_148) :: (.int 0) :: (.int 0) :: (.ref q_149) :: (.ref q_150) :: []))), (q_107, .inl (cI, 2, .inl (lst [0, 0])))]) (k := 116) (n := 11963) (xc_runV (As := []) (rest := []) hx hb hml hown hts hG hE hP hD hS hA [0, 1, 2, 3, 4] (by decide) rfl (cX9_dear_1 l D cB cI cJ cZ aK aV q_1 q_2 q_3 q_4 q_5 q_6 q_7 q_8 q_9 q_10 q_11 q_12 q_13 q_16 q_17 q_18 q_19 q_20 q_21 q_22 q_23 q_24 q_25 q_73 q_74 q_75 q_76 q_77 q_92 q_93 q_94 q_95 q_101) kw1091 kw1088 kw1089 kw1090 kw112 (show XD yX9_dear 0 from by decide +kernel) (by decide) rfl rfl 0 rfl hl.1 rfl (Nat.le_of_ble_eq_true rfl) dL_law_795 (by decide)) hP hD hS hA [0, 1, 2, 3, 4] [5, 6] rfl rfl (by decide) (by decide) (Nat.le_of_ble_eq_true rfl) (Nat.le_of_ble_eq_true rfl) (fun r w1 H locs hpost hP hD hS => ?_)
      obtain rfl := hpost
      have hP := hP.sub (ws' := [(q_102, .inr (10, ((.ref q_103) :: (.ref q_104) :: (.int 0) :: (.int 0) :: (.int 0) :: (.int (-1)) :: (.int 0) :: (.int 0) :: (.int 0) :: (.int 0) :: (.long 0) :: (.ref q_105) :: (.ref q_106) :: (.ref q_107) :: (.ref q_108) :: (.ref q_109) :: (.ref q_110) :: (.ref q_111) :: (.ref q_112) :: (.ref q_113) :: (.ref q_114) :: (.ref q_115) :: (.ref q_116) :: (.ref q_117) :: (.ref q_118) :: (.ref q_119) :: (.ref q_120) :: (.ref q_121) :: (.ref q_122) :: (.ref q_123) :: (.ref q_124) :: (.ref q_125) :: (.ref q_126) :: (.ref q_127) :: (.ref q_128) :: (.ref q_129) :: (.ref q_130) :: (.ref q_131) :: (.ref q_132) :: (.ref q_133) :: (.ref q_134) :: (.int 0) :: (.int 0) :: (.int 0) :: (.int 0) :: (.int 0) :: (.int 0) :: (.int 0) :: (.int 0) :: (.int 0) :: (.ref q_135) :: (.ref q_136) :: (.int 0) :: (.ref q_137) :: (.int 0) :: (.int 0) :: (.int 0) :: (.int 0) :: (.int 0) :: (.int 0) :: (.ref q_138) :: (.int 0) :: (.ref q_139) :: (.ref q_140) :: (.ref q_141) :: (.ref q_142) :: (.ref q_143) :: (.ref q_144) :: (.ref q_145) :: (.ref q_146) :: (.ref q_147) :: (.ref q_148) :: (.int 0) :: (.int 0) :: (.ref q_149) :: (.ref q_150) :: []))), (q_107, .inl (cI, 2, .inl (lst [0, 0])))]) [0, 1] rfl
      have hD := hD.sub (ws' := [(q_102, .inr (10, ((.ref q_103) :: (.ref q_104) :: (.int 0) :: (.int 0) :: (.int 0) :: (.int (-1)) :: (.int 0) :: (.int 0) :: (.int 0) :: (.int 0) :: (.long 0) :: (.ref q_105) :: (.ref q_106) :: (.ref q_107) :: (.ref q_108) :: (.ref q_109) :: (.ref q_110) :: (.ref q_111) :: (.ref q_112) :: (.ref q_113) :: (.ref q_114) :: (.ref q_115) :: (.ref q_116) :: (.ref q_117) :: (.ref q_118) :: (.ref q_119) :: (.ref q_120) :: (.ref q_121) :: (.ref q_122) :: (.ref q_123) :: (.ref q_124) :: (.ref q_125) :: (.ref q_126) :: (.ref q_127) :: (.ref q_128) :: (.ref q_129) :: (.ref q_130) :: (.ref q_131) :: (.ref q_132) :: (.ref q_133) :: (.ref q_134) :: (.int 0) :: (.int 0) :: (.int 0) :: (.int 0) :: (.int 0) :: (.int 0) :: (.int 0) :: (.int 0) :: (.int 0) :: (.ref q_135) :: (.ref q_136) :: (.int 0) :: (.ref q_137) :: (.int 0) :: (.int 0) :: (.int 0) :: (.int 0) :: (.int 0) :: (.int 0) :: (.ref q_138) :: (.int 0) :: (.ref q_139) :: (.ref q_140) :: (.ref q_141) :: (.ref q_142) :: (.ref q_143) :: (.ref q_144) :: (.ref q_145) :: (.ref q_146) :: (.ref q_147) :: (.ref q_148) :: (.int 0) :: (.int 0) :: (.ref q_149) :: (.ref q_150) :: []))), (q_107, .inl (cI, 2, .inl (lst [0, 0])))]) [0, 1] (by decide) rfl
      refine lv_aload_n hx hb dL_law_798 rfl (lv_at hl 1 rfl) ?_
      refine xc_core (wr := []) (k := 116) (n := 11963) (xc_runV (As := []) (rest := [.int 0]) hx hb hml hown hts hG hE hP hD hS hA [0, 1] (by decide) rfl (cX10_dear_1 l D cB cI cJ cZ aK aV q_102 q_103 q_104 q_105 q_106 q_107 q_108 q_109 q_110 q_111 q_112 q_113 q_114 q_115 q_116 q_117 q_118 q_119 q_120 q_121 q_122 q_123 q_124 q_125 q_126 q_127 q_128 q_129 q_130 q_131 q_132 q_133 q_134 q_135 q_136 q_137 q_138 q_139 q_140 q_141 q_142 q_143 q_144 q_145 q_146 q_147 q_148 q_149 q_150) kw1886 kw1883 kw1884 kw1885 kw127 (show XD yX10_dear 0 from by decide +kernel) (by decide) rfl rfl 0 rfl hl.1 rfl (Nat.le_of_ble_eq_true rfl) dL_law_799 (by decide)) hP hD hS hA [0, 1] [] rfl rfl (by decide) (by decide) (Nat.le_of_ble_eq_true rfl) (Nat.le_of_ble_eq_true rfl) (fun r w1 H locs hpost hP hD hS => ?_)
      obtain rfl := hpost
      have hP := hP.sub (ws' := []) [] rfl
      have hD := hD.sub (ws' := []) [] (by decide) rfl
      refine lv_icmp_eq (tgt := 1527) hx hb dL_law_802 (by decide) (fun _ => ?_) (fun h => absurd h (by decide +kernel))
      refine lv_iinc (v := 6) (lv' := [(3, .int 6), (2, .ref q_102), (1, .ref q_1), (0, .ref b)]) hx hb dL_law_1527 hl (k := 0) rfl (by decide +kernel) (by decide) rfl (fun ls hl => ?_)
      refine lv_goto (tgt := 18) hx hb dL_law_1530 (by decide) ?_
      refine lv_iload_n hx hb dL_law_18 rfl (lv_at hl 0 rfl) ?_
      refine lv_aload_n hx hb dL_law_19 rfl (lv_at hl 3 rfl) ?_
      refine va_slen hx hb hX hbl hbA hS dL_law_20 ?_
      refine xt_i (v := 6) (by decide +kernel) ?_
      refine lv_bipush (v := 6) hx hb dL_law_21 (by decide +kernel) ?_
      refine lv_isub hx hb dL_law_23 ?_
      refine xt_i (v := 0) (by decide +kernel) ?_
      refine lv_icmp_gt (tgt := 1533) hx hb dL_law_24 (by decide) (fun _ => ?_) (fun h => absurd h (by decide +kernel))
      refine lv_iconst (v := 1) hx hb dL_law_1533 (by decide +kernel) ?_
      refine va_forget (fun q hq => by have z := hS.2.2 q hq; rw [hAe] at z; exact z) ?_
      refine W.widen (k := 600000) (n := 7302250) (Nat.le_of_ble_eq_true rfl) (Nat.le_of_ble_eq_true rfl) ?_
      exact lw_ret hx hb hr hlocks dL_law_1534
    by_cases c_181 : v_157 = 23
    · subst c_181
      have hP := hP.sub (ws' := [(q_1, .inr (9, [.ref q_2, .ref q_3, .ref q_4, .ref q_5, .ref q_6, .ref q_7, .ref q_8, .ref q_9, .ref q_10, .ref q_11, .ref q_12, .ref q_13, .int 0])), (q_4, .inr (8, [.int 0, .int 0, .int 0, .ref q_16, .ref q_17, .ref q_18, .ref q_19, .ref q_20, .ref q_21, .ref q_22, .ref q_23, .ref q_24, .ref q_25, .int 0, .int 1, .int 0, .int 0, .int 0])), (q_6, .inr (3, [.ref q_4, .ref q_73, .ref q_74, .ref q_75, .ref q_76, .ref q_77, .int 0, .int 0])), (q_9, .inr (0, [.int 0, .int 0, .ref q_92, .ref q_93, .int 0, .int 0, .int 0, .ref q_94, .ref q_95, .int 0, .int 0, .int 0, .int 0, .int 0])), (q_102, .inr (10, ((.ref q_103) :: (.ref q_104) :: (.int 0) :: (.int 0) :: (.int 0) :: (.int (-1)) :: (.int 0) :: (.int 0) :: (.int 0) :: (.int 0) :: (.long 0) :: (.ref q_105) :: (.ref q_106) :: (.ref q_107) :: (.ref q_108) :: (.ref q_109) :: (.ref q_110) :: (.ref q_111) :: (.ref q_112) :: (.ref q_113) :: (.ref q_114) :: (.ref q_115) :: (.ref q_116) :: (.ref q_117) :: (.ref q_118) :: (.ref q_119) :: (.ref q_120) :: (.ref q_121) :: (.ref q_122) :: (.ref q_123) :: (.ref q_124) :: (.ref q_125) :: (.ref q_126) :: (.ref q_127) :: (.ref q_128) :: (.ref q_129) :: (.ref q_130) :: (.ref q_131) :: (.ref q_132) :: (.ref q_133) :: (.ref q_134) :: (.int 0) :: (.int 0) :: (.int 0) :: (.int 0) :: (.int 0) :: (.int 0) :: (.int 0) :: (.int 0) :: (.int 0) :: (.ref q_135) :: (.ref q_136) :: (.int 0) :: (.ref q_137) :: (.int 0) :: (.int 0) :: (.int 0) :: (.int 0) :: (.int 0) :: (.int 0) :: (.ref q_138) :: (.int 0) :: (.ref q_139) :: (.ref q_140) :: (.ref q_141) :: (.ref q_142) :: (.ref q_143) :: (.ref q_144) :: (.ref q_145) :: (.ref q_146) :: (.ref q_147) :: (.ref q_148) :: (.int 0) :: (.int 0) :: (.ref q_149) :: (.ref q_150) :: []))), (q_107, .inl (cI, 2, .inl (lst [0, 0])))]) [0, 3, 38, 52, 67, 72] rfl
      have hD := hD.sub (ws' := [(q_1, .inr (9, [.ref q_2, .ref q_3, .ref q_4, .ref q_5, .ref q_6, .ref q_7, .ref q_8, .ref q_9, .ref q_10, .ref q_11, .ref q_12, .ref q_13, .int 0])), (q_4, .inr (8, [.int 0, .int 0, .int 0, .ref q_16, .ref q_17, .ref q_18, .ref q_19, .ref q_20, .ref q_21, .ref q_22, .ref q_23, .ref q_24, .ref q_25, .int 0, .int 1, .int 0, .int 0, .int 0])), (q_6, .inr (3, [.ref q_4, .ref q_73, .ref q_74, .ref q_75, .ref q_76, .ref q_77, .int 0, .int 0])), (q_9, .inr (0, [.int 0, .int 0, .ref q_92, .ref q_93, .int 0, .int 0, .int 0, .ref q_94, .ref q_95, .int 0, .int 0, .int 0, .int 0, .int 0])), (q_102, .inr (10, ((.ref q_103) :: (.ref q_104) :: (.int 0) :: (.int 0) :: (.int 0) :: (.int (-1)) :: (.int 0) :: (.int 0) :: (.int 0) :: (.int 0) :: (.long 0) :: (.ref q_105) :: (.ref q_106) :: (.ref q_107) :: (.ref q_108) :: (.ref q_109) :: (.ref q_110) :: (.ref q_111) :: (.ref q_112) :: (.ref q_113) :: (.ref q_114) :: (.ref q_115) :: (.ref q_116) :: (.ref q_117) :: (.ref q_118) :: (.ref q_119) :: (.ref q_120) :: (.ref q_121) :: (.ref q_122) :: (.ref q_123) :: (.ref q_124) :: (.ref q_125) :: (.ref q_126) :: (.ref q_127) :: (.ref q_128) :: (.ref q_129) :: (.ref q_130) :: (.ref q_131) :: (.ref q_132) :: (.ref q_133) :: (.ref q_134) :: (.int 0) :: (.int 0) :: (.int 0) :: (.int 0) :: (.int 0) :: (.int 0) :: (.int 0) :: (.int 0) :: (.int 0) :: (.ref q_135) :: (.ref q_136) :: (.int 0) :: (.ref q_137) :: (.int 0) :: (.int 0) :: (.int 0) :: (.int 0) :: (.int 0) :: (.int 0) :: (.ref q_138) :: (.int 0) :: (.ref q_139) :: (.ref q_140) :: (.ref q_141) :: (.ref q_142) :: (.ref q_143) :: (.ref q_144) :: (.ref q_145) :: (.ref q_146) :: (.ref q_147) :: (.ref q_148) :: (.int 0) :: (.int 0) :: (.ref q_149) :: (.ref q_150) :: []))), (q_107, .inl (cI, 2, .inl (lst [0, 0])))]) [0, 3, 38, 52, 67, 72] (by decide) rfl
      refine lv_tableIn (off := 774) (tgt := 807) hx hb dL_law_33 (by decide) (by decide) (by decide +kernel) (by decide) ?_
      refine lv_aload_n hx hb dL_law_807 rfl (lv_at hl 2 rfl) ?_
      refine xc_core (wr := [(q_102, .inr (10, ((.ref q_103) :: (.ref q_104) :: (.int 0) :: (.int 0) :: (.int 0) :: (.int (-1)) :: (.int 0) :: (.int 0) :: (.int 0) :: (.int 0) :: (.long 0) :: (.ref q_105) :: (.ref q_106) :: (.ref q_107) :: (.ref q_108) :: (.ref q_109) :: (.ref q_110) :: (.ref q_111) :: (.ref q_112) :: (.ref q_113) :: (.ref q_114) :: (.ref q_115) :: (.ref q_116) :: (.ref q_117) :: (.ref q_118) :: (.ref q_119) :: (.ref q_120) :: (.ref q_121) :: (.ref q_122) :: (.ref q_123) :: (.ref q_124) :: (.ref q_125) :: (.ref q_126) :: (.ref q_127) :: (.ref q_128) :: (.ref q_129) :: (.ref q_130) :: (.ref q_131) :: (.ref q_132) :: (.ref q_133) :: (.ref q_134) :: (.int 0) :: (.int 0) :: (.int 0) :: (.int 0) :: (.int 0) :: (.int 0) :: (.int 0) :: (.int 0) :: (.int 0) :: (.ref q_135) :: (.ref q_136) :: (.int 0) :: (.ref q_137) :: (.int 0) :: (.int 0) :: (.int 0) :: (.int 0) :: (.int 0) :: (.int 0) :: (.ref q_138) :: (.int 0) :: (.ref q_139) :: (.ref q_140) :: (.ref q_141) :: (.ref q_142) :: (.ref q_143) :: (.ref q_144) :: (.ref q_145) :: (.ref q_146) :: (.ref q_147) :: (.ref q_148) :: (.int 0) :: (.int 0) :: (.ref q_149) :: (.ref q_150) :: []))), (q_107, .inl (cI, 2, .inl (lst [0, 0])))]) (k := 116) (n := 11963) (xc_runV (As := []) (rest := []) hx hb hml hown hts hG hE hP hD hS hA [0, 1, 2, 3] (by decide) rfl (cX9_misheld_1 l D cB cI cJ cZ aK aV q_1 q_2 q_3 q_4 q_5 q_6 q_7 q_8 q_9 q_10 q_11 q_12 q_13 q_16 q_17 q_18 q_19 q_20 q_21 q_22 q_23 q_24 q_25 q_73 q_74 q_75 q_76 q_77 q_92 q_93 q_94 q_95) kw1101 kw1098 kw1099 kw1100 kw112 (show XD yX9_misheld 0 from by decide +kernel) (by decide) rfl rfl 0 rfl hl.1 rfl (Nat.le_of_ble_eq_true rfl) dL_law_808 (by decide)) hP hD hS hA [0, 1, 2, 3] [4, 5] rfl rfl (by decide) (by decide) (Nat.le_of_ble_eq_true rfl) (Nat.le_of_ble_eq_true rfl) (fun r w1 H locs hpost hP hD hS => ?_)
      obtain rfl := hpost
      have hP := hP.sub (ws' := [(q_102, .inr (10, ((.ref q_103) :: (.ref q_104) :: (.int 0) :: (.int 0) :: (.int 0) :: (.int (-1)) :: (.int 0) :: (.int 0) :: (.int 0) :: (.int 0) :: (.long 0) :: (.ref q_105) :: (.ref q_106) :: (.ref q_107) :: (.ref q_108) :: (.ref q_109) :: (.ref q_110) :: (.ref q_111) :: (.ref q_112) :: (.ref q_113) :: (.ref q_114) :: (.ref q_115) :: (.ref q_116) :: (.ref q_117) :: (.ref q_118) :: (.ref q_119) :: (.ref q_120) :: (.ref q_121) :: (.ref q_122) :: (.ref q_123) :: (.ref q_124) :: (.ref q_125) :: (.ref q_126) :: (.ref q_127) :: (.ref q_128) :: (.ref q_129) :: (.ref q_130) :: (.ref q_131) :: (.ref q_132) :: (.ref q_133) :: (.ref q_134) :: (.int 0) :: (.int 0) :: (.int 0) :: (.int 0) :: (.int 0) :: (.int 0) :: (.int 0) :: (.int 0) :: (.int 0) :: (.ref q_135) :: (.ref q_136) :: (.int 0) :: (.ref q_137) :: (.int 0) :: (.int 0) :: (.int 0) :: (.int 0) :: (.int 0) :: (.int 0) :: (.ref q_138) :: (.int 0) :: (.ref q_139) :: (.ref q_140) :: (.ref q_141) :: (.ref q_142) :: (.ref q_143) :: (.ref q_144) :: (.ref q_145) :: (.ref q_146) :: (.ref q_147) :: (.ref q_148) :: (.int 0) :: (.int 0) :: (.ref q_149) :: (.ref q_150) :: []))), (q_107, .inl (cI, 2, .inl (lst [0, 0])))]) [0, 1] rfl
      have hD := hD.sub (ws' := [(q_102, .inr (10, ((.ref q_103) :: (.ref q_104) :: (.int 0) :: (.int 0) :: (.int 0) :: (.int (-1)) :: (.int 0) :: (.int 0) :: (.int 0) :: (.int 0) :: (.long 0) :: (.ref q_105) :: (.ref q_106) :: (.ref q_107) :: (.ref q_108) :: (.ref q_109) :: (.ref q_110) :: (.ref q_111) :: (.ref q_112) :: (.ref q_113) :: (.ref q_114) :: (.ref q_115) :: (.ref q_116) :: (.ref q_117) :: (.ref q_118) :: (.ref q_119) :: (.ref q_120) :: (.ref q_121) :: (.ref q_122) :: (.ref q_123) :: (.ref q_124) :: (.ref q_125) :: (.ref q_126) :: (.ref q_127) :: (.ref q_128) :: (.ref q_129) :: (.ref q_130) :: (.ref q_131) :: (.ref q_132) :: (.ref q_133) :: (.ref q_134) :: (.int 0) :: (.int 0) :: (.int 0) :: (.int 0) :: (.int 0) :: (.int 0) :: (.int 0) :: (.int 0) :: (.int 0) :: (.ref q_135) :: (.ref q_136) :: (.int 0) :: (.ref q_137) :: (.int 0) :: (.int 0) :: (.int 0) :: (.int 0) :: (.int 0) :: (.int 0) :: (.ref q_138) :: (.int 0) :: (.ref q_139) :: (.ref q_140) :: (.ref q_141) :: (.ref q_142) :: (.ref q_143) :: (.ref q_144) :: (.ref q_145) :: (.ref q_146) :: (.ref q_147) :: (.ref q_148) :: (.int 0) :: (.int 0) :: (.ref q_149) :: (.ref q_150) :: []))), (q_107, .inl (cI, 2, .inl (lst [0, 0])))]) [0, 1] (by decide) rfl
      refine lv_aload_n hx hb dL_law_811 rfl (lv_at hl 1 rfl) ?_
      refine xc_core (wr := []) (k := 116) (n := 11963) (xc_runV (As := []) (rest := [.int 0]) hx hb hml hown hts hG hE hP hD hS hA [0, 1] (by decide) rfl (cX10_misheld_1 l D cB cI cJ cZ aK aV q_102 q_103 q_104 q_105 q_106 q_107 q_108 q_109 q_110 q_111 q_112 q_113 q_114 q_115 q_116 q_117 q_118 q_119 q_120 q_121 q_122 q_123 q_124 q_125 q_126 q_127 q_128 q_129 q_130 q_131 q_132 q_133 q_134 q_135 q_136 q_137 q_138 q_139 q_140 q_141 q_142 q_143 q_144 q_145 q_146 q_147 q_148 q_149 q_150) kw1774 kw1771 kw1772 kw1773 kw127 (show XD yX10_misheld 0 from by decide +kernel) (by decide) rfl rfl 0 rfl hl.1 rfl (Nat.le_of_ble_eq_true rfl) dL_law_812 (by decide)) hP hD hS hA [0, 1] [] rfl rfl (by decide) (by decide) (Nat.le_of_ble_eq_true rfl) (Nat.le_of_ble_eq_true rfl) (fun r w1 H locs hpost hP hD hS => ?_)
      obtain rfl := hpost
      have hP := hP.sub (ws' := []) [] rfl
      have hD := hD.sub (ws' := []) [] (by decide) rfl
      refine lv_icmp_eq (tgt := 1527) hx hb dL_law_815 (by decide) (fun _ => ?_) (fun h => absurd h (by decide +kernel))
      refine lv_iinc (v := 6) (lv' := [(3, .int 6), (2, .ref q_102), (1, .ref q_1), (0, .ref b)]) hx hb dL_law_1527 hl (k := 0) rfl (by decide +kernel) (by decide) rfl (fun ls hl => ?_)
      refine lv_goto (tgt := 18) hx hb dL_law_1530 (by decide) ?_
      refine lv_iload_n hx hb dL_law_18 rfl (lv_at hl 0 rfl) ?_
      refine lv_aload_n hx hb dL_law_19 rfl (lv_at hl 3 rfl) ?_
      refine va_slen hx hb hX hbl hbA hS dL_law_20 ?_
      refine xt_i (v := 6) (by decide +kernel) ?_
      refine lv_bipush (v := 6) hx hb dL_law_21 (by decide +kernel) ?_
      refine lv_isub hx hb dL_law_23 ?_
      refine xt_i (v := 0) (by decide +kernel) ?_
      refine lv_icmp_gt (tgt := 1533) hx hb dL_law_24 (by decide) (fun _ => ?_) (fun h => absurd h (by decide +kernel))
      refine lv_iconst (v := 1) hx hb dL_law_1533 (by decide +kernel) ?_
      refine va_forget (fun q hq => by have z := hS.2.2 q hq; rw [hAe] at z; exact z) ?_
      refine W.widen (k := 600000) (n := 7302250) (Nat.le_of_ble_eq_true rfl) (Nat.le_of_ble_eq_true rfl) ?_
      exact lw_ret hx hb hr hlocks dL_law_1534
    by_cases c_182 : v_157 = 24
    · subst c_182
      have hP := hP.sub (ws' := [(q_1, .inr (9, [.ref q_2, .ref q_3, .ref q_4, .ref q_5, .ref q_6, .ref q_7, .ref q_8, .ref q_9, .ref q_10, .ref q_11, .ref q_12, .ref q_13, .int 0])), (q_4, .inr (8, [.int 0, .int 0, .int 0, .ref q_16, .ref q_17, .ref q_18, .ref q_19, .ref q_20, .ref q_21, .ref q_22, .ref q_23, .ref q_24, .ref q_25, .int 0, .int 1, .int 0, .int 0, .int 0])), (q_102, .inr (10, ((.ref q_103) :: (.ref q_104) :: (.int 0) :: (.int 0) :: (.int 0) :: (.int (-1)) :: (.int 0) :: (.int 0) :: (.int 0) :: (.int 0) :: (.long 0) :: (.ref q_105) :: (.ref q_106) :: (.ref q_107) :: (.ref q_108) :: (.ref q_109) :: (.ref q_110) :: (.ref q_111) :: (.ref q_112) :: (.ref q_113) :: (.ref q_114) :: (.ref q_115) :: (.ref q_116) :: (.ref q_117) :: (.ref q_118) :: (.ref q_119) :: (.ref q_120) :: (.ref q_121) :: (.ref q_122) :: (.ref q_123) :: (.ref q_124) :: (.ref q_125) :: (.ref q_126) :: (.ref q_127) :: (.ref q_128) :: (.ref q_129) :: (.ref q_130) :: (.ref q_131) :: (.ref q_132) :: (.ref q_133) :: (.ref q_134) :: (.int 0) :: (.int 0) :: (.int 0) :: (.int 0) :: (.int 0) :: (.int 0) :: (.int 0) :: (.int 0) :: (.int 0) :: (.ref q_135) :: (.ref q_136) :: (.int 0) :: (.ref q_137) :: (.int 0) :: (.int 0) :: (.int 0) :: (.int 0) :: (.int 0) :: (.int 0) :: (.ref q_138) :: (.int 0) :: (.ref q_139) :: (.ref q_140) :: (.ref q_141) :: (.ref q_142) :: (.ref q_143) :: (.ref q_144) :: (.ref q_145) :: (.ref q_146) :: (.ref q_147) :: (.ref q_148) :: (.int 0) :: (.int 0) :: (.ref q_149) :: (.ref q_150) :: []))), (q_105, .inl (cI, 2, .inl (lst [0, 0])))]) [0, 3, 67, 70] rfl
      have hD := hD.sub (ws' := [(q_1, .inr (9, [.ref q_2, .ref q_3, .ref q_4, .ref q_5, .ref q_6, .ref q_7, .ref q_8, .ref q_9, .ref q_10, .ref q_11, .ref q_12, .ref q_13, .int 0])), (q_4, .inr (8, [.int 0, .int 0, .int 0, .ref q_16, .ref q_17, .ref q_18, .ref q_19, .ref q_20, .ref q_21, .ref q_22, .ref q_23, .ref q_24, .ref q_25, .int 0, .int 1, .int 0, .int 0, .int 0])), (q_102, .inr (10, ((.ref q_103) :: (.ref q_104) :: (.int 0) :: (.int 0) :: (.int 0) :: (.int (-1)) :: (.int 0) :: (.int 0) :: (.int 0) :: (.int 0) :: (.long 0) :: (.ref q_105) :: (.ref q_106) :: (.ref q_107) :: (.ref q_108) :: (.ref q_109) :: (.ref q_110) :: (.ref q_111) :: (.ref q_112) :: (.ref q_113) :: (.ref q_114) :: (.ref q_115) :: (.ref q_116) :: (.ref q_117) :: (.ref q_118) :: (.ref q_119) :: (.ref q_120) :: (.ref q_121) :: (.ref q_122) :: (.ref q_123) :: (.ref q_124) :: (.ref q_125) :: (.ref q_126) :: (.ref q_127) :: (.ref q_128) :: (.ref q_129) :: (.ref q_130) :: (.ref q_131) :: (.ref q_132) :: (.ref q_133) :: (.ref q_134) :: (.int 0) :: (.int 0) :: (.int 0) :: (.int 0) :: (.int 0) :: (.int 0) :: (.int 0) :: (.int 0) :: (.int 0) :: (.ref q_135) :: (.ref q_136) :: (.int 0) :: (.ref q_137) :: (.int 0) :: (.int 0) :: (.int 0) :: (.int 0) :: (.int 0) :: (.int 0) :: (.ref q_138) :: (.int 0) :: (.ref q_139) :: (.ref q_140) :: (.ref q_141) :: (.ref q_142) :: (.ref q_143) :: (.ref q_144) :: (.ref q_145) :: (.ref q_146) :: (.ref q_147) :: (.ref q_148) :: (.int 0) :: (.int 0) :: (.ref q_149) :: (.ref q_150) :: []))), (q_105, .inl (cI, 2, .inl (lst [0, 0])))]) [0, 3, 67, 70] (by decide) rfl
      refine lv_tableIn (off := 787) (tgt := 820) hx hb dL_law_33 (by decide) (by decide) (by decide +kernel) (by decide) ?_
      refine lv_aload_n hx hb dL_law_820 rfl (lv_at hl 2 rfl) ?_
      refine lv_aload_n hx hb dL_law_821 rfl (lv_at hl 3 rfl) ?_
      refine lv_iload_n hx hb dL_law_822 rfl (lv_at hl 0 rfl) ?_
      refine lv_iconst (v := 1) hx hb dL_law_823 (by decide +kernel) ?_
      refine lv_iadd hx hb dL_law_824 ?_
      refine xt_i (v := 1) (by decide +kernel) ?_
      refine va_sld hx hb hX hbl hbA hS (vin (by decide +kernel)) dL_law_825 ?_
      refine xt_i (v := xs 1) rfl ?_
      refine lv_aload_n hx hb dL_law_826 rfl (lv_at hl 3 rfl) ?_
      refine lv_iload_n hx hb dL_law_827 rfl (lv_at hl 0 rfl) ?_
      refine lv_iconst (v := 2) hx hb dL_law_828 (by decide +kernel) ?_
      refine lv_iadd hx hb dL_law_829 ?_
      refine xt_i (v := 2) (by decide +kernel) ?_
      refine va_sld hx hb hX hbl hbA hS (vin (by decide +kernel)) dL_law_830 ?_
      refine xt_i (v := xs 2) rfl ?_
      refine lv_aload_n hx hb dL_law_831 rfl (lv_at hl 3 rfl) ?_
      refine lv_iload_n hx hb dL_law_832 rfl (lv_at hl 0 rfl) ?_
      refine lv_iconst (v := 3) hx hb dL_law_833 (by decide +kernel) ?_
      refine lv_iadd hx hb dL_law_834 ?_
      refine xt_i (v := 3) (by decide +kernel) ?_
      refine va_sld hx hb hX hbl hbA hS (vin (by decide +kernel)) dL_law_835 ?_
      refine xt_i (v := xs 3) rfl ?_
      refine lv_aload_n hx hb dL_law_836 rfl (lv_at hl 3 rfl) ?_
      refine lv_iload_n hx hb dL_law_837 rfl (lv_at hl 0 rfl) ?_
      refine lv_iconst (v := 4) hx hb dL_law_838 (by decide +kernel) ?_
      refine lv_iadd hx hb dL_law_839 ?_
      refine xt_i (v := 4) (by decide +kernel) ?_
      refine va_sld hx hb hX hbl hbA hS (vin (by decide +kernel)) dL_law_840 ?_
      refine xt_i (v := xs 4) rfl ?_
      refine xc_core (wr := [(q_102, .inr (10, ((.ref q_103) :: (.ref q_104) :: (.int 0) :: (.int 0) :: (.int 0) :: (.int (-1)) :: (.int 0) :: (.int 0) :: (.int 0) :: (.int 0) :: (.long 0) :: (.ref q_105) :: (.ref q_106) :: (.ref q_107) :: (.ref q_108) :: (.ref q_109) :: (.ref q_110) :: (.ref q_111) :: (.ref q_112) :: (.ref q_113) :: (.ref q_114) :: (.ref q_115) :: (.ref q_116) :: (.ref q_117) :: (.ref q_118) :: (.ref q_119) :: (.ref q_120) :: (.ref q_121) :: (.ref q_122) :: (.ref q_123) :: (.ref q_124) :: (.ref q_125) :: (.ref q_126) :: (.ref q_127) :: (.ref q_128) :: (.ref q_129) :: (.ref q_130) :: (.ref q_131) :: (.ref q_132) :: (.ref q_133) :: (.ref q_134) :: (.int 0) :: (.int 0) :: (.int 0) :: (.int 0) :: (.int 0) :: (.int 0) :: (.int 0) :: (.int 0) :: (.int 0) :: (.ref q_135) :: (.ref q_136) :: (.int 0) :: (.ref q_137) :: (.int 0) :: (.int 0) :: (.int 0) :: (.int 0) :: (.int 0) :: (.int 0) :: (.ref q_138) :: (.int 0) :: (.ref q_139) :: (.ref q_140) :: (.ref q_141) :: (.ref q_142) :: (.ref q_143) :: (.ref q_144) :: (.ref q_145) :: (.ref q_146) :: (.ref q_147) :: (.ref q_148) :: (.int 0) :: (.int 0) :: (.ref q_149) :: (.ref q_150) :: []))), (q_105, .inl (cI, 2, .inl (lst [0, 0])))]) (k := 116) (n := 11963) (xc_runV (As := [.int (xs 1), .int (xs 2), .int (xs 3), .int (xs 4)]) (rest := []) hx hb hml hown hts hG hE hP hD hS hA [0, 1] (by decide) rfl (cX9_divide_1 l D cB cI cJ cZ aK aV q_1 ((xs 1)) ((xs 2)) ((xs 3)) ((xs 4)) q_2 q_3 q_4 q_5 q_6 q_7 q_8 q_9 q_10 q_11 q_12 q_13 q_16 q_17 q_18 q_19 q_20 q_21 q_22 q_23 q_24 q_25) kw1105 kw1102 kw1103 kw1104 kw112 (show XD yX9_divide 4 from by decide +kernel) (by decide) rfl rfl 0 rfl hl.1 rfl (Nat.le_of_ble_eq_true rfl) dL_law_841 (by decide)) hP hD hS hA [0, 1] [2, 3] rfl rfl (by decide) (by decide) (Nat.le_of_ble_eq_true rfl) (Nat.le_of_ble_eq_true rfl) (fun r w1 H locs hpost hP hD hS => ?_)
      obtain rfl := hpost
      have hP := hP.sub (ws' := [(q_102, .inr (10, ((.ref q_103) :: (.ref q_104) :: (.int 0) :: (.int 0) :: (.int 0) :: (.int (-1)) :: (.int 0) :: (.int 0) :: (.int 0) :: (.int 0) :: (.long 0) :: (.ref q_105) :: (.ref q_106) :: (.ref q_107) :: (.ref q_108) :: (.ref q_109) :: (.ref q_110) :: (.ref q_111) :: (.ref q_112) :: (.ref q_113) :: (.ref q_114) :: (.ref q_115) :: (.ref q_116) :: (.ref q_117) :: (.ref q_118) :: (.ref q_119) :: (.ref q_120) :: (.ref q_121) :: (.ref q_122) :: (.ref q_123) :: (.ref q_124) :: (.ref q_125) :: (.ref q_126) :: (.ref q_127) :: (.ref q_128) :: (.ref q_129) :: (.ref q_130) :: (.ref q_131) :: (.ref q_132) :: (.ref q_133) :: (.ref q_134) :: (.int 0) :: (.int 0) :: (.int 0) :: (.int 0) :: (.int 0) :: (.int 0) :: (.int 0) :: (.int 0) :: (.int 0) :: (.ref q_135) :: (.ref q_136) :: (.int 0) :: (.ref q_137) :: (.int 0) :: (.int 0) :: (.int 0) :: (.int 0) :: (.int 0) :: (.int 0) :: (.ref q_138) :: (.int 0) :: (.ref q_139) :: (.ref q_140) :: (.ref q_141) :: (.ref q_142) :: (.ref q_143) :: (.ref q_144) :: (.ref q_145) :: (.ref q_146) :: (.ref q_147) :: (.ref q_148) :: (.int 0) :: (.int 0) :: (.ref q_149) :: (.ref q_150) :: []))), (q_105, .inl (cI, 2, .inl (lst [0, 0])))]) [0, 1] rfl
      have hD := hD.sub (ws' := [(q_102, .inr (10, ((.ref q_103) :: (.ref q_104) :: (.int 0) :: (.int 0) :: (.int 0) :: (.int (-1)) :: (.int 0) :: (.int 0) :: (.int 0) :: (.int 0) :: (.long 0) :: (.ref q_105) :: (.ref q_106) :: (.ref q_107) :: (.ref q_108) :: (.ref q_109) :: (.ref q_110) :: (.ref q_111) :: (.ref q_112) :: (.ref q_113) :: (.ref q_114) :: (.ref q_115) :: (.ref q_116) :: (.ref q_117) :: (.ref q_118) :: (.ref q_119) :: (.ref q_120) :: (.ref q_121) :: (.ref q_122) :: (.ref q_123) :: (.ref q_124) :: (.ref q_125) :: (.ref q_126) :: (.ref q_127) :: (.ref q_128) :: (.ref q_129) :: (.ref q_130) :: (.ref q_131) :: (.ref q_132) :: (.ref q_133) :: (.ref q_134) :: (.int 0) :: (.int 0) :: (.int 0) :: (.int 0) :: (.int 0) :: (.int 0) :: (.int 0) :: (.int 0) :: (.int 0) :: (.ref q_135) :: (.ref q_136) :: (.int 0) :: (.ref q_137) :: (.int 0) :: (.int 0) :: (.int 0) :: (.int 0) :: (.int 0) :: (.int 0) :: (.ref q_138) :: (.int 0) :: (.ref q_139) :: (.ref q_140) :: (.ref q_141) :: (.ref q_142) :: (.ref q_143) :: (.ref q_144) :: (.ref q_145) :: (.ref q_146) :: (.ref q_147) :: (.ref q_148) :: (.int 0) :: (.int 0) :: (.ref q_149) :: (.ref q_150) :: []))), (q_105, .inl (cI, 2, .inl (lst [0, 0])))]) [0, 1] (by decide) rfl
      refine lv_aload_n hx hb dL_law_844 rfl (lv_at hl 1 rfl) ?_
      refine lv_aload_n hx hb dL_law_845 rfl (lv_at hl 3 rfl) ?_
      refine lv_iload_n hx hb dL_law_846 rfl (lv_at hl 0 rfl) ?_
      refine lv_iconst (v := 1) hx hb dL_law_847 (by decide +kernel) ?_
      refine lv_iadd hx hb dL_law_848 ?_
      refine xt_i (v := 1) (by decide +kernel) ?_
      refine va_sld hx hb hX hbl hbA hS (vin (by decide +kernel)) dL_law_849 ?_
      refine xt_i (v := xs 1) rfl ?_
      refine lv_aload_n hx hb dL_law_850 rfl (lv_at hl 3 rfl) ?_
      refine lv_iload_n hx hb dL_law_851 rfl (lv_at hl 0 rfl) ?_
      refine lv_iconst (v := 2) hx hb dL_law_852 (by decide +kernel) ?_
      refine lv_iadd hx hb dL_law_853 ?_
      refine xt_i (v := 2) (by decide +kernel) ?_
      refine va_sld hx hb hX hbl hbA hS (vin (by decide +kernel)) dL_law_854 ?_
      refine xt_i (v := xs 2) rfl ?_
      refine lv_aload_n hx hb dL_law_855 rfl (lv_at hl 3 rfl) ?_
      refine lv_iload_n hx hb dL_law_856 rfl (lv_at hl 0 rfl) ?_
      refine lv_iconst (v := 3) hx hb dL_law_857 (by decide +kernel) ?_
      refine lv_iadd hx hb dL_law_858 ?_
      refine xt_i (v := 3) (by decide +kernel) ?_
      refine va_sld hx hb hX hbl hbA hS (vin (by decide +kernel)) dL_law_859 ?_
      refine xt_i (v := xs 3) rfl ?_
      refine lv_aload_n hx hb dL_law_860 rfl (lv_at hl 3 rfl) ?_
      refine lv_iload_n hx hb dL_law_861 rfl (lv_at hl 0 rfl) ?_
      refine lv_iconst (v := 4) hx hb dL_law_862 (by decide +kernel) ?_
      refine lv_iadd hx hb dL_law_863 ?_
      refine xt_i (v := 4) (by decide +kernel) ?_
      refine va_sld hx hb hX hbl hbA hS (vin (by decide +kernel)) dL_law_864 ?_
      refine xt_i (v := xs 4) rfl ?_
      refine xc_core (wr := []) (k := 116) (n := 11963) (xc_runV (As := [.int (xs 1), .int (xs 2), .int (xs 3), .int (xs 4)]) (rest := [.int (-1000000000)]) hx hb hml hown hts hG hE hP hD hS hA [0, 1] (by decide) rfl (cX10_divide_1 l D cB cI cJ cZ aK aV q_102 ((xs 1)) ((xs 2)) ((xs 3)) ((xs 4)) q_103 q_104 q_105 q_106 q_107 q_108 q_109 q_110 q_111 q_112 q_113 q_114 q_115 q_116 q_117 q_118 q_119 q_120 q_121 q_122 q_123 q_124 q_125 q_126 q_127 q_128 q_129 q_130 q_131 q_132 q_133 q_134 q_135 q_136 q_137 q_138 q_139 q_140 q_141 q_142 q_143 q_144 q_145 q_146 q_147 q_148 q_149 q_150) kw1890 kw1887 kw1888 kw1889 kw127 (show XD yX10_divide 4 from by decide +kernel) (by decide) rfl rfl 0 rfl hl.1 rfl (Nat.le_of_ble_eq_true rfl) dL_law_865 (by decide)) hP hD hS hA [0, 1] [] rfl rfl (by decide) (by decide) (Nat.le_of_ble_eq_true rfl) (Nat.le_of_ble_eq_true rfl) (fun r w1 H locs hpost hP hD hS => ?_)
      obtain rfl := hpost
      have hP := hP.sub (ws' := []) [] rfl
      have hD := hD.sub (ws' := []) [] (by decide) rfl
      refine lv_icmp_eq (tgt := 1527) hx hb dL_law_868 (by decide) (fun _ => ?_) (fun h => absurd h (by decide +kernel))
      refine lv_iinc (v := 6) (lv' := [(3, .int 6), (2, .ref q_102), (1, .ref q_1), (0, .ref b)]) hx hb dL_law_1527 hl (k := 0) rfl (by decide +kernel) (by decide) rfl (fun ls hl => ?_)
      refine lv_goto (tgt := 18) hx hb dL_law_1530 (by decide) ?_
      refine lv_iload_n hx hb dL_law_18 rfl (lv_at hl 0 rfl) ?_
      refine lv_aload_n hx hb dL_law_19 rfl (lv_at hl 3 rfl) ?_
      refine va_slen hx hb hX hbl hbA hS dL_law_20 ?_
      refine xt_i (v := 6) (by decide +kernel) ?_
      refine lv_bipush (v := 6) hx hb dL_law_21 (by decide +kernel) ?_
      refine lv_isub hx hb dL_law_23 ?_
      refine xt_i (v := 0) (by decide +kernel) ?_
      refine lv_icmp_gt (tgt := 1533) hx hb dL_law_24 (by decide) (fun _ => ?_) (fun h => absurd h (by decide +kernel))
      refine lv_iconst (v := 1) hx hb dL_law_1533 (by decide +kernel) ?_
      refine va_forget (fun q hq => by have z := hS.2.2 q hq; rw [hAe] at z; exact z) ?_
      refine W.widen (k := 600000) (n := 7302250) (Nat.le_of_ble_eq_true rfl) (Nat.le_of_ble_eq_true rfl) ?_
      exact lw_ret hx hb hr hlocks dL_law_1534
    by_cases c_183 : v_157 = 25
    · subst c_183
      have hP := hP.sub (ws' := [(q_1, .inr (9, [.ref q_2, .ref q_3, .ref q_4, .ref q_5, .ref q_6, .ref q_7, .ref q_8, .ref q_9, .ref q_10, .ref q_11, .ref q_12, .ref q_13, .int 0])), (q_4, .inr (8, [.int 0, .int 0, .int 0, .ref q_16, .ref q_17, .ref q_18, .ref q_19, .ref q_20, .ref q_21, .ref q_22, .ref q_23, .ref q_24, .ref q_25, .int 0, .int 1, .int 0, .int 0, .int 0])), (q_102, .inr (10, ((.ref q_103) :: (.ref q_104) :: (.int 0) :: (.int 0) :: (.int 0) :: (.int (-1)) :: (.int 0) :: (.int 0) :: (.int 0) :: (.int 0) :: (.long 0) :: (.ref q_105) :: (.ref q_106) :: (.ref q_107) :: (.ref q_108) :: (.ref q_109) :: (.ref q_110) :: (.ref q_111) :: (.ref q_112) :: (.ref q_113) :: (.ref q_114) :: (.ref q_115) :: (.ref q_116) :: (.ref q_117) :: (.ref q_118) :: (.ref q_119) :: (.ref q_120) :: (.ref q_121) :: (.ref q_122) :: (.ref q_123) :: (.ref q_124) :: (.ref q_125) :: (.ref q_126) :: (.ref q_127) :: (.ref q_128) :: (.ref q_129) :: (.ref q_130) :: (.ref q_131) :: (.ref q_132) :: (.ref q_133) :: (.ref q_134) :: (.int 0) :: (.int 0) :: (.int 0) :: (.int 0) :: (.int 0) :: (.int 0) :: (.int 0) :: (.int 0) :: (.int 0) :: (.ref q_135) :: (.ref q_136) :: (.int 0) :: (.ref q_137) :: (.int 0) :: (.int 0) :: (.int 0) :: (.int 0) :: (.int 0) :: (.int 0) :: (.ref q_138) :: (.int 0) :: (.ref q_139) :: (.ref q_140) :: (.ref q_141) :: (.ref q_142) :: (.ref q_143) :: (.ref q_144) :: (.ref q_145) :: (.ref q_146) :: (.ref q_147) :: (.ref q_148) :: (.int 0) :: (.int 0) :: (.ref q_149) :: (.ref q_150) :: []))), (q_105, .inl (cI, 2, .inl (lst [0, 0])))]) [0, 3, 67, 70] rfl
      have hD := hD.sub (ws' := [(q_1, .inr (9, [.ref q_2, .ref q_3, .ref q_4, .ref q_5, .ref q_6, .ref q_7, .ref q_8, .ref q_9, .ref q_10, .ref q_11, .ref q_12, .ref q_13, .int 0])), (q_4, .inr (8, [.int 0, .int 0, .int 0, .ref q_16, .ref q_17, .ref q_18, .ref q_19, .ref q_20, .ref q_21, .ref q_22, .ref q_23, .ref q_24, .ref q_25, .int 0, .int 1, .int 0, .int 0, .int 0])), (q_102, .inr (10, ((.ref q_103) :: (.ref q_104) :: (.int 0) :: (.int 0) :: (.int 0) :: (.int (-1)) :: (.int 0) :: (.int 0) :: (.int 0) :: (.int 0) :: (.long 0) :: (.ref q_105) :: (.ref q_106) :: (.ref q_107) :: (.ref q_108) :: (.ref q_109) :: (.ref q_110) :: (.ref q_111) :: (.ref q_112) :: (.ref q_113) :: (.ref q_114) :: (.ref q_115) :: (.ref q_116) :: (.ref q_117) :: (.ref q_118) :: (.ref q_119) :: (.ref q_120) :: (.ref q_121) :: (.ref q_122) :: (.ref q_123) :: (.ref q_124) :: (.ref q_125) :: (.ref q_126) :: (.ref q_127) :: (.ref q_128) :: (.ref q_129) :: (.ref q_130) :: (.ref q_131) :: (.ref q_132) :: (.ref q_133) :: (.ref q_134) :: (.int 0) :: (.int 0) :: (.int 0) :: (.int 0) :: (.int 0) :: (.int 0) :: (.int 0) :: (.int 0) :: (.int 0) :: (.ref q_135) :: (.ref q_136) :: (.int 0) :: (.ref q_137) :: (.int 0) :: (.int 0) :: (.int 0) :: (.int 0) :: (.int 0) :: (.int 0) :: (.ref q_138) :: (.int 0) :: (.ref q_139) :: (.ref q_140) :: (.ref q_141) :: (.ref q_142) :: (.ref q_143) :: (.ref q_144) :: (.ref q_145) :: (.ref q_146) :: (.ref q_147) :: (.ref q_148) :: (.int 0) :: (.int 0) :: (.ref q_149) :: (.ref q_150) :: []))), (q_105, .inl (cI, 2, .inl (lst [0, 0])))]) [0, 3, 67, 70] (by decide) rfl
      refine lv_tableIn (off := 840) (tgt := 873) hx hb dL_law_33 (by decide) (by decide) (by decide +kernel) (by decide) ?_
      refine lv_aload_n hx hb dL_law_873 rfl (lv_at hl 2 rfl) ?_
      refine lv_aload_n hx hb dL_law_874 rfl (lv_at hl 3 rfl) ?_
      refine lv_iload_n hx hb dL_law_875 rfl (lv_at hl 0 rfl) ?_
      refine lv_iconst (v := 1) hx hb dL_law_876 (by decide +kernel) ?_
      refine lv_iadd hx hb dL_law_877 ?_
      refine xt_i (v := 1) (by decide +kernel) ?_
      refine va_sld hx hb hX hbl hbA hS (vin (by decide +kernel)) dL_law_878 ?_
      refine xt_i (v := xs 1) rfl ?_
      refine lv_aload_n hx hb dL_law_879 rfl (lv_at hl 3 rfl) ?_
      refine lv_iload_n hx hb dL_law_880 rfl (lv_at hl 0 rfl) ?_
      refine lv_iconst (v := 2) hx hb dL_law_881 (by decide +kernel) ?_
      refine lv_iadd hx hb dL_law_882 ?_
      refine xt_i (v := 2) (by decide +kernel) ?_
      refine va_sld hx hb hX hbl hbA hS (vin (by decide +kernel)) dL_law_883 ?_
      refine xt_i (v := xs 2) rfl ?_
      refine lv_aload_n hx hb dL_law_884 rfl (lv_at hl 3 rfl) ?_
      refine lv_iload_n hx hb dL_law_885 rfl (lv_at hl 0 rfl) ?_
      refine lv_iconst (v := 3) hx hb dL_law_886 (by decide +kernel) ?_
      refine lv_iadd hx hb dL_law_887 ?_
      refine xt_i (v := 3) (by decide +kernel) ?_
      refine va_sld hx hb hX hbl hbA hS (vin (by decide +kernel)) dL_law_888 ?_
      refine xt_i (v := xs 3) rfl ?_
      refine lv_aload_n hx hb dL_law_889 rfl (lv_at hl 3 rfl) ?_
      refine lv_iload_n hx hb dL_law_890 rfl (lv_at hl 0 rfl) ?_
      refine lv_iconst (v := 4) hx hb dL_law_891 (by decide +kernel) ?_
      refine lv_iadd hx hb dL_law_892 ?_
      refine xt_i (v := 4) (by decide +kernel) ?_
      refine va_sld hx hb hX hbl hbA hS (vin (by decide +kernel)) dL_law_893 ?_
      refine xt_i (v := xs 4) rfl ?_
      refine xc_core (wr := [(q_102, .inr (10, ((.ref q_103) :: (.ref q_104) :: (.int 0) :: (.int 0) :: (.int 0) :: (.int (-1)) :: (.int 0) :: (.int 0) :: (.int 0) :: (.int 0) :: (.long 0) :: (.ref q_105) :: (.ref q_106) :: (.ref q_107) :: (.ref q_108) :: (.ref q_109) :: (.ref q_110) :: (.ref q_111) :: (.ref q_112) :: (.ref q_113) :: (.ref q_114) :: (.ref q_115) :: (.ref q_116) :: (.ref q_117) :: (.ref q_118) :: (.ref q_119) :: (.ref q_120) :: (.ref q_121) :: (.ref q_122) :: (.ref q_123) :: (.ref q_124) :: (.ref q_125) :: (.ref q_126) :: (.ref q_127) :: (.ref q_128) :: (.ref q_129) :: (.ref q_130) :: (.ref q_131) :: (.ref q_132) :: (.ref q_133) :: (.ref q_134) :: (.int 0) :: (.int 0) :: (.int 0) :: (.int 0) :: (.int 0) :: (.int 0) :: (.int 0) :: (.int 0) :: (.int 0) :: (.ref q_135) :: (.ref q_136) :: (.int 0) :: (.ref q_137) :: (.int 0) :: (.int 0) :: (.int 0) :: (.int 0) :: (.int 0) :: (.int 0) :: (.ref q_138) :: (.int 0) :: (.ref q_139) :: (.ref q_140) :: (.ref q_141) :: (.ref q_142) :: (.ref q_143) :: (.ref q_144) :: (.ref q_145) :: (.ref q_146) :: (.ref q_147) :: (.ref q_148) :: (.int 0) :: (.int 0) :: (.ref q_149) :: (.ref q_150) :: []))), (q_105, .inl (cI, 2, .inl (lst [0, 0])))]) (k := 116) (n := 11963) (xc_runV (As := [.int (xs 1), .int (xs 2), .int (xs 3), .int (xs 4)]) (rest := []) hx hb hml hown hts hG hE hP hD hS hA [0, 1] (by decide) rfl (cX9_lots_1 l D cB cI cJ cZ aK aV q_1 ((xs 1)) ((xs 2)) ((xs 3)) ((xs 4)) q_2 q_3 q_4 q_5 q_6 q_7 q_8 q_9 q_10 q_11 q_12 q_13 q_16 q_17 q_18 q_19 q_20 q_21 q_22 q_23 q_24 q_25) kw1119 kw1116 kw1117 kw1118 kw112 (show XD yX9_lots 4 from by decide +kernel) (by decide) rfl rfl 0 rfl hl.1 rfl (Nat.le_of_ble_eq_true rfl) dL_law_894 (by decide)) hP hD hS hA [0, 1] [2, 3] rfl rfl (by decide) (by decide) (Nat.le_of_ble_eq_true rfl) (Nat.le_of_ble_eq_true rfl) (fun r w1 H locs hpost hP hD hS => ?_)
      obtain rfl := hpost
      have hP := hP.sub (ws' := [(q_102, .inr (10, ((.ref q_103) :: (.ref q_104) :: (.int 0) :: (.int 0) :: (.int 0) :: (.int (-1)) :: (.int 0) :: (.int 0) :: (.int 0) :: (.int 0) :: (.long 0) :: (.ref q_105) :: (.ref q_106) :: (.ref q_107) :: (.ref q_108) :: (.ref q_109) :: (.ref q_110) :: (.ref q_111) :: (.ref q_112) :: (.ref q_113) :: (.ref q_114) :: (.ref q_115) :: (.ref q_116) :: (.ref q_117) :: (.ref q_118) :: (.ref q_119) :: (.ref q_120) :: (.ref q_121) :: (.ref q_122) :: (.ref q_123) :: (.ref q_124) :: (.ref q_125) :: (.ref q_126) :: (.ref q_127) :: (.ref q_128) :: (.ref q_129) :: (.ref q_130) :: (.ref q_131) :: (.ref q_132) :: (.ref q_133) :: (.ref q_134) :: (.int 0) :: (.int 0) :: (.int 0) :: (.int 0) :: (.int 0) :: (.int 0) :: (.int 0) :: (.int 0) :: (.int 0) :: (.ref q_135) :: (.ref q_136) :: (.int 0) :: (.ref q_137) :: (.int 0) :: (.int 0) :: (.int 0) :: (.int 0) :: (.int 0) :: (.int 0) :: (.ref q_138) :: (.int 0) :: (.ref q_139) :: (.ref q_140) :: (.ref q_141) :: (.ref q_142) :: (.ref q_143) :: (.ref q_144) :: (.ref q_145) :: (.ref q_146) :: (.ref q_147) :: (.ref q_148) :: (.int 0) :: (.int 0) :: (.ref q_149) :: (.ref q_150) :: []))), (q_105, .inl (cI, 2, .inl (lst [0, 0])))]) [0, 1] rfl
      have hD := hD.sub (ws' := [(q_102, .inr (10, ((.ref q_103) :: (.ref q_104) :: (.int 0) :: (.int 0) :: (.int 0) :: (.int (-1)) :: (.int 0) :: (.int 0) :: (.int 0) :: (.int 0) :: (.long 0) :: (.ref q_105) :: (.ref q_106) :: (.ref q_107) :: (.ref q_108) :: (.ref q_109) :: (.ref q_110) :: (.ref q_111) :: (.ref q_112) :: (.ref q_113) :: (.ref q_114) :: (.ref q_115) :: (.ref q_116) :: (.ref q_117) :: (.ref q_118) :: (.ref q_119) :: (.ref q_120) :: (.ref q_121) :: (.ref q_122) :: (.ref q_123) :: (.ref q_124) :: (.ref q_125) :: (.ref q_126) :: (.ref q_127) :: (.ref q_128) :: (.ref q_129) :: (.ref q_130) :: (.ref q_131) :: (.ref q_132) :: (.ref q_133) :: (.ref q_134) :: (.int 0) :: (.int 0) :: (.int 0) :: (.int 0) :: (.int 0) :: (.int 0) :: (.int 0) :: (.int 0) :: (.int 0) :: (.ref q_135) :: (.ref q_136) :: (.int 0) :: (.ref q_137) :: (.int 0) :: (.int 0) :: (.int 0) :: (.int 0) :: (.int 0) :: (.int 0) :: (.ref q_138) :: (.int 0) :: (.ref q_139) :: (.ref q_140) :: (.ref q_141) :: (.ref q_142) :: (.ref q_143) :: (.ref q_144) :: (.ref q_145) :: (.ref q_146) :: (.ref q_147) :: (.ref q_148) :: (.int 0) :: (.int 0) :: (.ref q_149) :: (.ref q_150) :: []))), (q_105, .inl (cI, 2, .inl (lst [0, 0])))]) [0, 1] (by decide) rfl
      refine lv_aload_n hx hb dL_law_897 rfl (lv_at hl 1 rfl) ?_
      refine lv_aload_n hx hb dL_law_898 rfl (lv_at hl 3 rfl) ?_
      refine lv_iload_n hx hb dL_law_899 rfl (lv_at hl 0 rfl) ?_
      refine lv_iconst (v := 1) hx hb dL_law_900 (by decide +kernel) ?_
      refine lv_iadd hx hb dL_law_901 ?_
      refine xt_i (v := 1) (by decide +kernel) ?_
      refine va_sld hx hb hX hbl hbA hS (vin (by decide +kernel)) dL_law_902 ?_
      refine xt_i (v := xs 1) rfl ?_
      refine lv_aload_n hx hb dL_law_903 rfl (lv_at hl 3 rfl) ?_
      refine lv_iload_n hx hb dL_law_904 rfl (lv_at hl 0 rfl) ?_
      refine lv_iconst (v := 2) hx hb dL_law_905 (by decide +kernel) ?_
      refine lv_iadd hx hb dL_law_906 ?_
      refine xt_i (v := 2) (by decide +kernel) ?_
      refine va_sld hx hb hX hbl hbA hS (vin (by decide +kernel)) dL_law_907 ?_
      refine xt_i (v := xs 2) rfl ?_
      refine lv_aload_n hx hb dL_law_908 rfl (lv_at hl 3 rfl) ?_
      refine lv_iload_n hx hb dL_law_909 rfl (lv_at hl 0 rfl) ?_
      refine lv_iconst (v := 3) hx hb dL_law_910 (by decide +kernel) ?_
      refine lv_iadd hx hb dL_law_911 ?_
      refine xt_i (v := 3) (by decide +kernel) ?_
      refine va_sld hx hb hX hbl hbA hS (vin (by decide +kernel)) dL_law_912 ?_
      refine xt_i (v := xs 3) rfl ?_
      refine lv_aload_n hx hb dL_law_913 rfl (lv_at hl 3 rfl) ?_
      refine lv_iload_n hx hb dL_law_914 rfl (lv_at hl 0 rfl) ?_
      refine lv_iconst (v := 4) hx hb dL_law_915 (by decide +kernel) ?_
      refine lv_iadd hx hb dL_law_916 ?_
      refine xt_i (v := 4) (by decide +kernel) ?_
      refine va_sld hx hb hX hbl hbA hS (vin (by decide +kernel)) dL_law_917 ?_
      refine xt_i (v := xs 4) rfl ?_
      refine xc_core (wr := []) (k := 116) (n := 11963) (xc_runV (As := [.int (xs 1), .int (xs 2), .int (xs 3), .int (xs 4)]) (rest := [.int (-1000000000)]) hx hb hml hown hts hG hE hP hD hS hA [0, 1] (by decide) rfl (cX10_lots_1 l D cB cI cJ cZ aK aV q_102 ((xs 1)) ((xs 2)) ((xs 3)) ((xs 4)) q_103 q_104 q_105 q_106 q_107 q_108 q_109 q_110 q_111 q_112 q_113 q_114 q_115 q_116 q_117 q_118 q_119 q_120 q_121 q_122 q_123 q_124 q_125 q_126 q_127 q_128 q_129 q_130 q_131 q_132 q_133 q_134 q_135 q_136 q_137 q_138 q_139 q_140 q_141 q_142 q_143 q_144 q_145 q_146 q_147 q_148 q_149 q_150) kw1901 kw1898 kw1899 kw1900 kw127 (show XD yX10_lots 4 from by decide +kernel) (by decide) rfl rfl 0 rfl hl.1 rfl (Nat.le_of_ble_eq_true rfl) dL_law_918 (by decide)) hP hD hS hA [0, 1] [] rfl rfl (by decide) (by decide) (Nat.le_of_ble_eq_true rfl) (Nat.le_of_ble_eq_true rfl) (fun r w1 H locs hpost hP hD hS => ?_)
      obtain rfl := hpost
      have hP := hP.sub (ws' := []) [] rfl
      have hD := hD.sub (ws' := []) [] (by decide) rfl
      refine lv_icmp_eq (tgt := 1527) hx hb dL_law_921 (by decide) (fun _ => ?_) (fun h => absurd h (by decide +kernel))
      refine lv_iinc (v := 6) (lv' := [(3, .int 6), (2, .ref q_102), (1, .ref q_1), (0, .ref b)]) hx hb dL_law_1527 hl (k := 0) rfl (by decide +kernel) (by decide) rfl (fun ls hl => ?_)
      refine lv_goto (tgt := 18) hx hb dL_law_1530 (by decide) ?_
      refine lv_iload_n hx hb dL_law_18 rfl (lv_at hl 0 rfl) ?_
      refine lv_aload_n hx hb dL_law_19 rfl (lv_at hl 3 rfl) ?_
      refine va_slen hx hb hX hbl hbA hS dL_law_20 ?_
      refine xt_i (v := 6) (by decide +kernel) ?_
      refine lv_bipush (v := 6) hx hb dL_law_21 (by decide +kernel) ?_
      refine lv_isub hx hb dL_law_23 ?_
      refine xt_i (v := 0) (by decide +kernel) ?_
      refine lv_icmp_gt (tgt := 1533) hx hb dL_law_24 (by decide) (fun _ => ?_) (fun h => absurd h (by decide +kernel))
      refine lv_iconst (v := 1) hx hb dL_law_1533 (by decide +kernel) ?_
      refine va_forget (fun q hq => by have z := hS.2.2 q hq; rw [hAe] at z; exact z) ?_
      refine W.widen (k := 600000) (n := 7302250) (Nat.le_of_ble_eq_true rfl) (Nat.le_of_ble_eq_true rfl) ?_
      exact lw_ret hx hb hr hlocks dL_law_1534
    by_cases c_184 : v_157 = 26
    · subst c_184
      have hP := hP.sub (ws' := [(q_1, .inr (9, [.ref q_2, .ref q_3, .ref q_4, .ref q_5, .ref q_6, .ref q_7, .ref q_8, .ref q_9, .ref q_10, .ref q_11, .ref q_12, .ref q_13, .int 0])), (q_4, .inr (8, [.int 0, .int 0, .int 0, .ref q_16, .ref q_17, .ref q_18, .ref q_19, .ref q_20, .ref q_21, .ref q_22, .ref q_23, .ref q_24, .ref q_25, .int 0, .int 1, .int 0, .int 0, .int 0])), (q_102, .inr (10, ((.ref q_103) :: (.ref q_104) :: (.int 0) :: (.int 0) :: (.int 0) :: (.int (-1)) :: (.int 0) :: (.int 0) :: (.int 0) :: (.int 0) :: (.long 0) :: (.ref q_105) :: (.ref q_106) :: (.ref q_107) :: (.ref q_108) :: (.ref q_109) :: (.ref q_110) :: (.ref q_111) :: (.ref q_112) :: (.ref q_113) :: (.ref q_114) :: (.ref q_115) :: (.ref q_116) :: (.ref q_117) :: (.ref q_118) :: (.ref q_119) :: (.ref q_120) :: (.ref q_121) :: (.ref q_122) :: (.ref q_123) :: (.ref q_124) :: (.ref q_125) :: (.ref q_126) :: (.ref q_127) :: (.ref q_128) :: (.ref q_129) :: (.ref q_130) :: (.ref q_131) :: (.ref q_132) :: (.ref q_133) :: (.ref q_134) :: (.int 0) :: (.int 0) :: (.int 0) :: (.int 0) :: (.int 0) :: (.int 0) :: (.int 0) :: (.int 0) :: (.int 0) :: (.ref q_135) :: (.ref q_136) :: (.int 0) :: (.ref q_137) :: (.int 0) :: (.int 0) :: (.int 0) :: (.int 0) :: (.int 0) :: (.int 0) :: (.ref q_138) :: (.int 0) :: (.ref q_139) :: (.ref q_140) :: (.ref q_141) :: (.ref q_142) :: (.ref q_143) :: (.ref q_144) :: (.ref q_145) :: (.ref q_146) :: (.ref q_147) :: (.ref q_148) :: (.int 0) :: (.int 0) :: (.ref q_149) :: (.ref q_150) :: []))), (q_105, .inl (cI, 2, .inl (lst [0, 0])))]) [0, 3, 67, 70] rfl
      have hD := hD.sub (ws' := [(q_1, .inr (9, [.ref q_2, .ref q_3, .ref q_4, .ref q_5, .ref q_6, .ref q_7, .ref q_8, .ref q_9, .ref q_10, .ref q_11, .ref q_12, .ref q_13, .int 0])), (q_4, .inr (8, [.int 0, .int 0, .int 0, .ref q_16, .ref q_17, .ref q_18, .ref q_19, .ref q_20, .ref q_21, .ref q_22, .ref q_23, .ref q_24, .ref q_25, .int 0, .int 1, .int 0, .int 0, .int 0])), (q_102, .inr (10, ((.ref q_103) :: (.ref q_104) :: (.int 0) :: (.int 0) :: (.int 0) :: (.int (-1)) :: (.int 0) :: (.int 0) :: (.int 0) :: (.int 0) :: (.long 0) :: (.ref q_105) :: (.ref q_106) :: (.ref q_107) :: (.ref q_108) :: (.ref q_109) :: (.ref q_110) :: (.ref q_111) :: (.ref q_112) :: (.ref q_113) :: (.ref q_114) :: (.ref q_115) :: (.ref q_116) :: (.ref q_117) :: (.ref q_118) :: (.ref q_119) :: (.ref q_120) :: (.ref q_121) :: (.ref q_122) :: (.ref q_123) :: (.ref q_124) :: (.ref q_125) :: (.ref q_126) :: (.ref q_127) :: (.ref q_128) :: (.ref q_129) :: (.ref q_130) :: (.ref q_131) :: (.ref q_132) :: (.ref q_133) :: (.ref q_134) :: (.int 0) :: (.int 0) :: (.int 0) :: (.int 0) :: (.int 0) :: (.int 0) :: (.int 0) :: (.int 0) :: (.int 0) :: (.ref q_135) :: (.ref q_136) :: (.int 0) :: (.ref q_137) :: (.int 0) :: (.int 0) :: (.int 0) :: (.int 0) :: (.int 0) :: (.int 0) :: (.ref q_138) :: (.int 0) :: (.ref q_139) :: (.ref q_140) :: (.ref q_141) :: (.ref q_142) :: (.ref q_143) :: (.ref q_144) :: (.ref q_145) :: (.ref q_146) :: (.ref q_147) :: (.ref q_148) :: (.int 0) :: (.int 0) :: (.ref q_149) :: (.ref q_150) :: []))), (q_105, .inl (cI, 2, .inl (lst [0, 0])))]) [0, 3, 67, 70] (by decide) rfl
      refine lv_tableIn (off := 893) (tgt := 926) hx hb dL_law_33 (by decide) (by decide) (by decide +kernel) (by decide) ?_
      refine lv_aload_n hx hb dL_law_926 rfl (lv_at hl 2 rfl) ?_
      refine lv_aload_n hx hb dL_law_927 rfl (lv_at hl 3 rfl) ?_
      refine lv_iload_n hx hb dL_law_928 rfl (lv_at hl 0 rfl) ?_
      refine lv_iconst (v := 1) hx hb dL_law_929 (by decide +kernel) ?_
      refine lv_iadd hx hb dL_law_930 ?_
      refine xt_i (v := 1) (by decide +kernel) ?_
      refine va_sld hx hb hX hbl hbA hS (vin (by decide +kernel)) dL_law_931 ?_
      refine xt_i (v := xs 1) rfl ?_
      refine lv_aload_n hx hb dL_law_932 rfl (lv_at hl 3 rfl) ?_
      refine lv_iload_n hx hb dL_law_933 rfl (lv_at hl 0 rfl) ?_
      refine lv_iconst (v := 2) hx hb dL_law_934 (by decide +kernel) ?_
      refine lv_iadd hx hb dL_law_935 ?_
      refine xt_i (v := 2) (by decide +kernel) ?_
      refine va_sld hx hb hX hbl hbA hS (vin (by decide +kernel)) dL_law_936 ?_
      refine xt_i (v := xs 2) rfl ?_
      refine lv_aload_n hx hb dL_law_937 rfl (lv_at hl 3 rfl) ?_
      refine lv_iload_n hx hb dL_law_938 rfl (lv_at hl 0 rfl) ?_
      refine lv_iconst (v := 3) hx hb dL_law_939 (by decide +kernel) ?_
      refine lv_iadd hx hb dL_law_940 ?_
      refine xt_i (v := 3) (by decide +kernel) ?_
      refine va_sld hx hb hX hbl hbA hS (vin (by decide +kernel)) dL_law_941 ?_
      refine xt_i (v := xs 3) rfl ?_
      refine xc_core (wr := [(q_102, .inr (10, ((.ref q_103) :: (.ref q_104) :: (.int 0) :: (.int 0) :: (.int 0) :: (.int (-1)) :: (.int 0) :: (.int 0) :: (.int 0) :: (.int 0) :: (.long 0) :: (.ref q_105) :: (.ref q_106) :: (.ref q_107) :: (.ref q_108) :: (.ref q_109) :: (.ref q_110) :: (.ref q_111) :: (.ref q_112) :: (.ref q_113) :: (.ref q_114) :: (.ref q_115) :: (.ref q_116) :: (.ref q_117) :: (.ref q_118) :: (.ref q_119) :: (.ref q_120) :: (.ref q_121) :: (.ref q_122) :: (.ref q_123) :: (.ref q_124) :: (.ref q_125) :: (.ref q_126) :: (.ref q_127) :: (.ref q_128) :: (.ref q_129) :: (.ref q_130) :: (.ref q_131) :: (.ref q_132) :: (.ref q_133) :: (.ref q_134) :: (.int 0) :: (.int 0) :: (.int 0) :: (.int 0) :: (.int 0) :: (.int 0) :: (.int 0) :: (.int 0) :: (.int 0) :: (.ref q_135) :: (.ref q_136) :: (.int 0) :: (.ref q_137) :: (.int 0) :: (.int 0) :: (.int 0) :: (.int 0) :: (.int 0) :: (.int 0) :: (.ref q_138) :: (.int 0) :: (.ref q_139) :: (.ref q_140) :: (.ref q_141) :: (.ref q_142) :: (.ref q_143) :: (.ref q_144) :: (.ref q_145) :: (.ref q_146) :: (.ref q_147) :: (.ref q_148) :: (.int 0) :: (.int 0) :: (.ref q_149) :: (.ref q_150) :: []))), (q_105, .inl (cI, 2, .inl (lst [0, 0])))]) (k := 116) (n := 11963) (xc_runV (As := [.int (xs 1), .int (xs 2), .int (xs 3)]) (rest := []) hx hb hml hown hts hG hE hP hD hS hA [0, 1] (by decide) rfl (cX9_seeds_1 l D cB cI cJ cZ aK aV q_1 ((xs 1)) ((xs 2)) ((xs 3)) q_2 q_3 q_4 q_5 q_6 q_7 q_8 q_9 q_10 q_11 q_12 q_13 q_16 q_17 q_18 q_19 q_20 q_21 q_22 q_23 q_24 q_25) kw1128 kw1125 kw1126 kw1127 kw112 (show XD yX9_seeds 3 from by decide +kernel) (by decide) rfl rfl 0 rfl hl.1 rfl (Nat.le_of_ble_eq_true rfl) dL_law_942 (by decide)) hP hD hS hA [0, 1] [2, 3] rfl rfl (by decide) (by decide) (Nat.le_of_ble_eq_true rfl) (Nat.le_of_ble_eq_true rfl) (fun r w1 H locs hpost hP hD hS => ?_)
      obtain rfl := hpost
      have hP := hP.sub (ws' := [(q_102, .inr (10, ((.ref q_103) :: (.ref q_104) :: (.int 0) :: (.int 0) :: (.int 0) :: (.int (-1)) :: (.int 0) :: (.int 0) :: (.int 0) :: (.int 0) :: (.long 0) :: (.ref q_105) :: (.ref q_106) :: (.ref q_107) :: (.ref q_108) :: (.ref q_109) :: (.ref q_110) :: (.ref q_111) :: (.ref q_112) :: (.ref q_113) :: (.ref q_114) :: (.ref q_115) :: (.ref q_116) :: (.ref q_117) :: (.ref q_118) :: (.ref q_119) :: (.ref q_120) :: (.ref q_121) :: (.ref q_122) :: (.ref q_123) :: (.ref q_124) :: (.ref q_125) :: (.ref q_126) :: (.ref q_127) :: (.ref q_128) :: (.ref q_129) :: (.ref q_130) :: (.ref q_131) :: (.ref q_132) :: (.ref q_133) :: (.ref q_134) :: (.int 0) :: (.int 0) :: (.int 0) :: (.int 0) :: (.int 0) :: (.int 0) :: (.int 0) :: (.int 0) :: (.int 0) :: (.ref q_135) :: (.ref q_136) :: (.int 0) :: (.ref q_137) :: (.int 0) :: (.int 0) :: (.int 0) :: (.int 0) :: (.int 0) :: (.int 0) :: (.ref q_138) :: (.int 0) :: (.ref q_139) :: (.ref q_140) :: (.ref q_141) :: (.ref q_142) :: (.ref q_143) :: (.ref q_144) :: (.ref q_145) :: (.ref q_146) :: (.ref q_147) :: (.ref q_148) :: (.int 0) :: (.int 0) :: (.ref q_149) :: (.ref q_150) :: []))), (q_105, .inl (cI, 2, .inl (lst [0, 0])))]) [0, 1] rfl
      have hD := hD.sub (ws' := [(q_102, .inr (10, ((.ref q_103) :: (.ref q_104) :: (.int 0) :: (.int 0) :: (.int 0) :: (.int (-1)) :: (.int 0) :: (.int 0) :: (.int 0) :: (.int 0) :: (.long 0) :: (.ref q_105) :: (.ref q_106) :: (.ref q_107) :: (.ref q_108) :: (.ref q_109) :: (.ref q_110) :: (.ref q_111) :: (.ref q_112) :: (.ref q_113) :: (.ref q_114) :: (.ref q_115) :: (.ref q_116) :: (.ref q_117) :: (.ref q_118) :: (.ref q_119) :: (.ref q_120) :: (.ref q_121) :: (.ref q_122) :: (.ref q_123) :: (.ref q_124) :: (.ref q_125) :: (.ref q_126) :: (.ref q_127) :: (.ref q_128) :: (.ref q_129) :: (.ref q_130) :: (.ref q_131) :: (.ref q_132) :: (.ref q_133) :: (.ref q_134) :: (.int 0) :: (.int 0) :: (.int 0) :: (.int 0) :: (.int 0) :: (.int 0) :: (.int 0) :: (.int 0) :: (.int 0) :: (.ref q_135) :: (.ref q_136) :: (.int 0) :: (.ref q_137) :: (.int 0) :: (.int 0) :: (.int 0) :: (.int 0) :: (.int 0) :: (.int 0) :: (.ref q_138) :: (.int 0) :: (.ref q_139) :: (.ref q_140) :: (.ref q_141) :: (.ref q_142) :: (.ref q_143) :: (.ref q_144) :: (.ref q_145) :: (.ref q_146) :: (.ref q_147) :: (.ref q_148) :: (.int 0) :: (.int 0) :: (.ref q_149) :: (.ref q_150) :: []))), (q_105, .inl (cI, 2, .inl (lst [0, 0])))]) [0, 1] (by decide) rfl
      refine lv_aload_n hx hb dL_law_945 rfl (lv_at hl 1 rfl) ?_
      refine lv_aload_n hx hb dL_law_946 rfl (lv_at hl 3 rfl) ?_
      refine lv_iload_n hx hb dL_law_947 rfl (lv_at hl 0 rfl) ?_
      refine lv_iconst (v := 1) hx hb dL_law_948 (by decide +kernel) ?_
      refine lv_iadd hx hb dL_law_949 ?_
      refine xt_i (v := 1) (by decide +kernel) ?_
      refine va_sld hx hb hX hbl hbA hS (vin (by decide +kernel)) dL_law_950 ?_
      refine xt_i (v := xs 1) rfl ?_
      refine lv_aload_n hx hb dL_law_951 rfl (lv_at hl 3 rfl) ?_
      refine lv_iload_n hx hb dL_law_952 rfl (lv_at hl 0 rfl) ?_
      refine lv_iconst (v := 2) hx hb dL_law_953 (by decide +kernel) ?_
      refine lv_iadd hx hb dL_law_954 ?_
      refine xt_i (v := 2) (by decide +kernel) ?_
      refine va_sld hx hb hX hbl hbA hS (vin (by decide +kernel)) dL_law_955 ?_
      refine xt_i (v := xs 2) rfl ?_
      refine lv_aload_n hx hb dL_law_956 rfl (lv_at hl 3 rfl) ?_
      refine lv_iload_n hx hb dL_law_957 rfl (lv_at hl 0 rfl) ?_
      refine lv_iconst (v := 3) hx hb dL_law_958 (by decide +kernel) ?_
      refine lv_iadd hx hb dL_law_959 ?_
      refine xt_i (v := 3) (by decide +kernel) ?_
      refine va_sld hx hb hX hbl hbA hS (vin (by decide +kernel)) dL_law_960 ?_
      refine xt_i (v := xs 3) rfl ?_
      refine xc_core (wr := []) (k := 116) (n := 11963) (xc_runV (As := [.int (xs 1), .int (xs 2), .int (xs 3)]) (rest := [.int (-1000000000)]) hx hb hml hown hts hG hE hP hD hS hA [0, 1] (by decide) rfl (cX10_seeds_1 l D cB cI cJ cZ aK aV q_102 ((xs 1)) ((xs 2)) ((xs 3)) q_103 q_104 q_105 q_106 q_107 q_108 q_109 q_110 q_111 q_112 q_113 q_114 q_115 q_116 q_117 q_118 q_119 q_120 q_121 q_122 q_123 q_124 q_125 q_126 q_127 q_128 q_129 q_130 q_131 q_132 q_133 q_134 q_135 q_136 q_137 q_138 q_139 q_140 q_141 q_142 q_143 q_144 q_145 q_146 q_147 q_148 q_149 q_150) kw1905 kw1902 kw1903 kw1904 kw127 (show XD yX10_seeds 3 from by decide +kernel) (by decide) rfl rfl 0 rfl hl.1 rfl (Nat.le_of_ble_eq_true rfl) dL_law_961 (by decide)) hP hD hS hA [0, 1] [] rfl rfl (by decide) (by decide) (Nat.le_of_ble_eq_true rfl) (Nat.le_of_ble_eq_true rfl) (fun r w1 H locs hpost hP hD hS => ?_)
      obtain rfl := hpost
      have hP := hP.sub (ws' := []) [] rfl
      have hD := hD.sub (ws' := []) [] (by decide) rfl
      refine lv_icmp_eq (tgt := 1527) hx hb dL_law_964 (by decide) (fun _ => ?_) (fun h => absurd h (by decide +kernel))
      refine lv_iinc (v := 6) (lv' := [(3, .int 6), (2, .ref q_102), (1, .ref q_1), (0, .ref b)]) hx hb dL_law_1527 hl (k := 0) rfl (by decide +kernel) (by decide) rfl (fun ls hl => ?_)
      refine lv_goto (tgt := 18) hx hb dL_law_1530 (by decide) ?_
      refine lv_iload_n hx hb dL_law_18 rfl (lv_at hl 0 rfl) ?_
      refine lv_aload_n hx hb dL_law_19 rfl (lv_at hl 3 rfl) ?_
      refine va_slen hx hb hX hbl hbA hS dL_law_20 ?_
      refine xt_i (v := 6) (by decide +kernel) ?_
      refine lv_bipush (v := 6) hx hb dL_law_21 (by decide +kernel) ?_
      refine lv_isub hx hb dL_law_23 ?_
      refine xt_i (v := 0) (by decide +kernel) ?_
      refine lv_icmp_gt (tgt := 1533) hx hb dL_law_24 (by decide) (fun _ => ?_) (fun h => absurd h (by decide +kernel))
      refine lv_iconst (v := 1) hx hb dL_law_1533 (by decide +kernel) ?_
      refine va_forget (fun q hq => by have z := hS.2.2 q hq; rw [hAe] at z; exact z) ?_
      refine W.widen (k := 600000) (n := 7302250) (Nat.le_of_ble_eq_true rfl) (Nat.le_of_ble_eq_true rfl) ?_
      exact lw_ret hx hb hr hlocks dL_law_1534
    by_cases c_185 : v_157 = 27
    · subst c_185
      have hP := hP.sub (ws' := [(q_1, .inr (9, [.ref q_2, .ref q_3, .ref q_4, .ref q_5, .ref q_6, .ref q_7, .ref q_8, .ref q_9, .ref q_10, .ref q_11, .ref q_12, .ref q_13, .int 0])), (q_4, .inr (8, [.int 0, .int 0, .int 0, .ref q_16, .ref q_17, .ref q_18, .ref q_19, .ref q_20, .ref q_21, .ref q_22, .ref q_23, .ref q_24, .ref q_25, .int 0, .int 1, .int 0, .int 0, .int 0])), (q_102, .inr (10, ((.ref q_103) :: (.ref q_104) :: (.int 0) :: (.int 0) :: (.int 0) :: (.int (-1)) :: (.int 0) :: (.int 0) :: (.int 0) :: (.int 0) :: (.long 0) :: (.ref q_105) :: (.ref q_106) :: (.ref q_107) :: (.ref q_108) :: (.ref q_109) :: (.ref q_110) :: (.ref q_111) :: (.ref q_112) :: (.ref q_113) :: (.ref q_114) :: (.ref q_115) :: (.ref q_116) :: (.ref q_117) :: (.ref q_118) :: (.ref q_119) :: (.ref q_120) :: (.ref q_121) :: (.ref q_122) :: (.ref q_123) :: (.ref q_124) :: (.ref q_125) :: (.ref q_126) :: (.ref q_127) :: (.ref q_128) :: (.ref q_129) :: (.ref q_130) :: (.ref q_131) :: (.ref q_132) :: (.ref q_133) :: (.ref q_134) :: (.int 0) :: (.int 0) :: (.int 0) :: (.int 0) :: (.int 0) :: (.int 0) :: (.int 0) :: (.int 0) :: (.int 0) :: (.ref q_135) :: (.ref q_136) :: (.int 0) :: (.ref q_137) :: (.int 0) :: (.int 0) :: (.int 0) :: (.int 0) :: (.int 0) :: (.int 0) :: (.ref q_138) :: (.int 0) :: (.ref q_139) :: (.ref q_140) :: (.ref q_141) :: (.ref q_142) :: (.ref q_143) :: (.ref q_144) :: (.ref q_145) :: (.ref q_146) :: (.ref q_147) :: (.ref q_148) :: (.int 0) :: (.int 0) :: (.ref q_149) :: (.ref q_150) :: []))), (q_106, .inl (cI, 2, .inl (lst [0, 0])))]) [0, 3, 67, 71] rfl
      have hD := hD.sub (ws' := [(q_1, .inr (9, [.ref q_2, .ref q_3, .ref q_4, .ref q_5, .ref q_6, .ref q_7, .ref q_8, .ref q_9, .ref q_10, .ref q_11, .ref q_12, .ref q_13, .int 0])), (q_4, .inr (8, [.int 0, .int 0, .int 0, .ref q_16, .ref q_17, .ref q_18, .ref q_19, .ref q_20, .ref q_21, .ref q_22, .ref q_23, .ref q_24, .ref q_25, .int 0, .int 1, .int 0, .int 0, .int 0])), (q_102, .inr (10, ((.ref q_103) :: (.ref q_104) :: (.int 0) :: (.int 0) :: (.int 0) :: (.int (-1)) :: (.int 0) :: (.int 0) :: (.int 0) :: (.int 0) :: (.long 0) :: (.ref q_105) :: (.ref q_106) :: (.ref q_107) :: (.ref q_108) :: (.ref q_109) :: (.ref q_110) :: (.ref q_111) :: (.ref q_112) :: (.ref q_113) :: (.ref q_114) :: (.ref q_115) :: (.ref q_116) :: (.ref q_117) :: (.ref q_118) :: (.ref q_119) :: (.ref q_120) :: (.ref q_121) :: (.ref q_122) :: (.ref q_123) :: (.ref q_124) :: (.ref q_125) :: (.ref q_126) :: (.ref q_127) :: (.ref q_128) :: (.ref q_129) :: (.ref q_130) :: (.ref q_131) :: (.ref q_132) :: (.ref q_133) :: (.ref q_134) :: (.int 0) :: (.int 0) :: (.int 0) :: (.int 0) :: (.int 0) :: (.int 0) :: (.int 0) :: (.int 0) :: (.int 0) :: (.ref q_135) :: (.ref q_136) :: (.int 0) :: (.ref q_137) :: (.int 0) :: (.int 0) :: (.int 0) :: (.int 0) :: (.int 0) :: (.int 0) :: (.ref q_138) :: (.int 0) :: (.ref q_139) :: (.ref q_140) :: (.ref q_141) :: (.ref q_142) :: (.ref q_143) :: (.ref q_144) :: (.ref q_145) :: (.ref q_146) :: (.ref q_147) :: (.ref q_148) :: (.int 0) :: (.int 0) :: (.ref q_149) :: (.ref q_150) :: []))), (q_106, .inl (cI, 2, .inl (lst [0, 0])))]) [0, 3, 67, 71] (by decide) rfl
      refine lv_tableIn (off := 936) (tgt := 969) hx hb dL_law_33 (by decide) (by decide) (by decide +kernel) (by decide) ?_
      refine lv_aload_n hx hb dL_law_969 rfl (lv_at hl 2 rfl) ?_
      refine lv_aload_n hx hb dL_law_970 rfl (lv_at hl 3 rfl) ?_
      refine lv_iload_n hx hb dL_law_971 rfl (lv_at hl 0 rfl) ?_
      refine lv_iconst (v := 1) hx hb dL_law_972 (by decide +kernel) ?_
      refine lv_iadd hx hb dL_law_973 ?_
      refine xt_i (v := 1) (by decide +kernel) ?_
      refine va_sld hx hb hX hbl hbA hS (vin (by decide +kernel)) dL_law_974 ?_
      refine xt_i (v := xs 1) rfl ?_
      refine lv_aload_n hx hb dL_law_975 rfl (lv_at hl 3 rfl) ?_
      refine lv_iload_n hx hb dL_law_976 rfl (lv_at hl 0 rfl) ?_
      refine lv_iconst (v := 2) hx hb dL_law_977 (by decide +kernel) ?_
      refine lv_iadd hx hb dL_law_978 ?_
      refine xt_i (v := 2) (by decide +kernel) ?_
      refine va_sld hx hb hX hbl hbA hS (vin (by decide +kernel)) dL_law_979 ?_
      refine xt_i (v := xs 2) rfl ?_
      refine xc_core (wr := [(q_102, .inr (10, ((.ref q_103) :: (.ref q_104) :: (.int 0) :: (.int 0) :: (.int 0) :: (.int (-1)) :: (.int 0) :: (.int 0) :: (.int 0) :: (.int 0) :: (.long 0) :: (.ref q_105) :: (.ref q_106) :: (.ref q_107) :: (.ref q_108) :: (.ref q_109) :: (.ref q_110) :: (.ref q_111) :: (.ref q_112) :: (.ref q_113) :: (.ref q_114) :: (.ref q_115) :: (.ref q_116) :: (.ref q_117) :: (.ref q_118) :: (.ref q_119) :: (.ref q_120) :: (.ref q_121) :: (.ref q_122) :: (.ref q_123) :: (.ref q_124) :: (.ref q_125) :: (.ref q_126) :: (.ref q_127) :: (.ref q_128) :: (.ref q_129) :: (.ref q_130) :: (.ref q_131) :: (.ref q_132) :: (.ref q_133) :: (.ref q_134) :: (.int 0) :: (.int 0) :: (.int 0) :: (.int 0) :: (.int 0) :: (.int 0) :: (.int 0) :: (.int 0) :: (.int 0) :: (.ref q_135) :: (.ref q_136) :: (.int 0) :: (.ref q_137) :: (.int 0) :: (.int 0) :: (.int 0) :: (.int 0) :: (.int 0) :: (.int 0) :: (.ref q_138) :: (.int 0) :: (.ref q_139) :: (.ref q_140) :: (.ref q_141) :: (.ref q_142) :: (.ref q_143) :: (.ref q_144) :: (.ref q_145) :: (.ref q_146) :: (.ref q_147) :: (.ref q_148) :: (.int 0) :: (.int 0) :: (.ref q_149) :: (.ref q_150) :: []))), (q_106, .inl (cI, 2, .inl (lst [0, 0])))]) (k := 116) (n := 11963) (xc_runV (As := [.int (xs 1), .int (xs 2)]) (rest := []) hx hb hml hown hts hG hE hP hD hS hA [0, 1] (by decide) rfl (cX9_leak_1 l D cB cI cJ cZ aK aV q_1 ((xs 1)) ((xs 2)) q_2 q_3 q_4 q_5 q_6 q_7 q_8 q_9 q_10 q_11 q_12 q_13 q_16 q_17 q_18 q_19 q_20 q_21 q_22 q_23 q_24 q_25) kw1140 kw1137 kw1138 kw1139 kw112 (show XD yX9_leak 2 from by decide +kernel) (by decide) rfl rfl 0 rfl hl.1 rfl (Nat.le_of_ble_eq_true rfl) dL_law_980 (by decide)) hP hD hS hA [0, 1] [2, 3] rfl rfl (by decide) (by decide) (Nat.le_of_ble_eq_true rfl) (Nat.le_of_ble_eq_true rfl) (fun r w1 H locs hpost hP hD hS => ?_)
      obtain rfl := hpost
      have hP := hP.sub (ws' := [(q_102, .inr (10, ((.ref q_103) :: (.ref q_104) :: (.int 0) :: (.int 0) :: (.int 0) :: (.int (-1)) :: (.int 0) :: (.int 0) :: (.int 0) :: (.int 0) :: (.long 0) :: (.ref q_105) :: (.ref q_106) :: (.ref q_107) :: (.ref q_108) :: (.ref q_109) :: (.ref q_110) :: (.ref q_111) :: (.ref q_112) :: (.ref q_113) :: (.ref q_114) :: (.ref q_115) :: (.ref q_116) :: (.ref q_117) :: (.ref q_118) :: (.ref q_119) :: (.ref q_120) :: (.ref q_121) :: (.ref q_122) :: (.ref q_123) :: (.ref q_124) :: (.ref q_125) :: (.ref q_126) :: (.ref q_127) :: (.ref q_128) :: (.ref q_129) :: (.ref q_130) :: (.ref q_131) :: (.ref q_132) :: (.ref q_133) :: (.ref q_134) :: (.int 0) :: (.int 0) :: (.int 0) :: (.int 0) :: (.int 0) :: (.int 0) :: (.int 0) :: (.int 0) :: (.int 0) :: (.ref q_135) :: (.ref q_136) :: (.int 0) :: (.ref q_137) :: (.int 0) :: (.int 0) :: (.int 0) :: (.int 0) :: (.int 0) :: (.int 0) :: (.ref q_138) :: (.int 0) :: (.ref q_139) :: (.ref q_140) :: (.ref q_141) :: (.ref q_142) :: (.ref q_143) :: (.ref q_144) :: (.ref q_145) :: (.ref q_146) :: (.ref q_147) :: (.ref q_148) :: (.int 0) :: (.int 0) :: (.ref q_149) :: (.ref q_150) :: []))), (q_106, .inl (cI, 2, .inl (lst [0, 0])))]) [0, 1] rfl
      have hD := hD.sub (ws' := [(q_102, .inr (10, ((.ref q_103) :: (.ref q_104) :: (.int 0) :: (.int 0) :: (.int 0) :: (.int (-1)) :: (.int 0) :: (.int 0) :: (.int 0) :: (.int 0) :: (.long 0) :: (.ref q_105) :: (.ref q_106) :: (.ref q_107) :: (.ref q_108) :: (.ref q_109) :: (.ref q_110) :: (.ref q_111) :: (.ref q_112) :: (.ref q_113) :: (.ref q_114) :: (.ref q_115) :: (.ref q_116) :: (.ref q_117) :: (.ref q_118) :: (.ref q_119) :: (.ref q_120) :: (.ref q_121) :: (.ref q_122) :: (.ref q_123) :: (.ref q_124) :: (.ref q_125) :: (.ref q_126) :: (.ref q_127) :: (.ref q_128) :: (.ref q_129) :: (.ref q_130) :: (.ref q_131) :: (.ref q_132) :: (.ref q_133) :: (.ref q_134) :: (.int 0) :: (.int 0) :: (.int 0) :: (.int 0) :: (.int 0) :: (.int 0) :: (.int 0) :: (.int 0) :: (.int 0) :: (.ref q_135) :: (.ref q_136) :: (.int 0) :: (.ref q_137) :: (.int 0) :: (.int 0) :: (.int 0) :: (.int 0) :: (.int 0) :: (.int 0) :: (.ref q_138) :: (.int 0) :: (.ref q_139) :: (.ref q_140) :: (.ref q_141) :: (.ref q_142) :: (.ref q_143) :: (.ref q_144) :: (.ref q_145) :: (.ref q_146) :: (.ref q_147) :: (.ref q_148) :: (.int 0) :: (.int 0) :: (.ref q_149) :: (.ref q_150) :: []))), (q_106, .inl (cI, 2, .inl (lst [0, 0])))]) [0, 1] (by decide) rfl
      refine lv_aload_n hx hb dL_law_983 rfl (lv_at hl 1 rfl) ?_
      refine lv_aload_n hx hb dL_law_984 rfl (lv_at hl 3 rfl) ?_
      refine lv_iload_n hx hb dL_law_985 rfl (lv_at hl 0 rfl) ?_
      refine lv_iconst (v := 1) hx hb dL_law_986 (by decide +kernel) ?_
      refine lv_iadd hx hb dL_law_987 ?_
      refine xt_i (v := 1) (by decide +kernel) ?_
      refine va_sld hx hb hX hbl hbA hS (vin (by decide +kernel)) dL_law_988 ?_
      refine xt_i (v := xs 1) rfl ?_
      refine lv_aload_n hx hb dL_law_989 rfl (lv_at hl 3 rfl) ?_
      refine lv_iload_n hx hb dL_law_990 rfl (lv_at hl 0 rfl) ?_
      refine lv_iconst (v := 2) hx hb dL_law_991 (by decide +kernel) ?_
      refine lv_iadd hx hb dL_law_992 ?_
      refine xt_i (v := 2) (by decide +kernel) ?_
      refine va_sld hx hb hX hbl hbA hS (vin (by decide +kernel)) dL_law_993 ?_
      refine xt_i (v := xs 2) rfl ?_
      refine xc_core (wr := []) (k := 116) (n := 11963) (xc_runV (As := [.int (xs 1), .int (xs 2)]) (rest := [.int (-1000000000)]) hx hb hml hown hts hG hE hP hD hS hA [0, 1] (by decide) rfl (cX10_leak_1 l D cB cI cJ cZ aK aV q_102 ((xs 1)) ((xs 2)) q_103 q_104 q_105 q_106 q_107 q_108 q_109 q_110 q_111 q_112 q_113 q_114 q_115 q_116 q_117 q_118 q_119 q_120 q_121 q_122 q_123 q_124 q_125 q_126 q_127 q_128 q_129 q_130 q_131 q_132 q_133 q_134 q_135 q_136 q_137 q_138 q_139 q_140 q_141 q_142 q_143 q_144 q_145 q_146 q_147 q_148 q_149 q_150) kw1909 kw1906 kw1907 kw1908 kw127 (show XD yX10_leak 2 from by decide +kernel) (by decide) rfl rfl 0 rfl hl.1 rfl (Nat.le_of_ble_eq_true rfl) dL_law_994 (by decide)) hP hD hS hA [0, 1] [] rfl rfl (by decide) (by decide) (Nat.le_of_ble_eq_true rfl) (Nat.le_of_ble_eq_true rfl) (fun r w1 H locs hpost hP hD hS => ?_)
      obtain rfl := hpost
      have hP := hP.sub (ws' := []) [] rfl
      have hD := hD.sub (ws' := []) [] (by decide) rfl
      refine lv_icmp_eq (tgt := 1527) hx hb dL_law_997 (by decide) (fun _ => ?_) (fun h => absurd h (by decide +kernel))
      refine lv_iinc (v := 6) (lv' := [(3, .int 6), (2, .ref q_102), (1, .ref q_1), (0, .ref b)]) hx hb dL_law_1527 hl (k := 0) rfl (by decide +kernel) (by decide) rfl (fun ls hl => ?_)
      refine lv_goto (tgt := 18) hx hb dL_law_1530 (by decide) ?_
      refine lv_iload_n hx hb dL_law_18 rfl (lv_at hl 0 rfl) ?_
      refine lv_aload_n hx hb dL_law_19 rfl (lv_at hl 3 rfl) ?_
      refine va_slen hx hb hX hbl hbA hS dL_law_20 ?_
      refine xt_i (v := 6) (by decide +kernel) ?_
      refine lv_bipush (v := 6) hx hb dL_law_21 (by decide +kernel) ?_
      refine lv_isub hx hb dL_law_23 ?_
      refine xt_i (v := 0) (by decide +kernel) ?_
      refine lv_icmp_gt (tgt := 1533) hx hb dL_law_24 (by decide) (fun _ => ?_) (fun h => absurd h (by decide +kernel))
      refine lv_iconst (v := 1) hx hb dL_law_1533 (by decide +kernel) ?_
      refine va_forget (fun q hq => by have z := hS.2.2 q hq; rw [hAe] at z; exact z) ?_
      refine W.widen (k := 600000) (n := 7302250) (Nat.le_of_ble_eq_true rfl) (Nat.le_of_ble_eq_true rfl) ?_
      exact lw_ret hx hb hr hlocks dL_law_1534
    by_cases c_186 : v_157 = 28
    · subst c_186
      have hP := hP.sub (ws' := [(q_1, .inr (9, [.ref q_2, .ref q_3, .ref q_4, .ref q_5, .ref q_6, .ref q_7, .ref q_8, .ref q_9, .ref q_10, .ref q_11, .ref q_12, .ref q_13, .int 0])), (q_4, .inr (8, [.int 0, .int 0, .int 0, .ref q_16, .ref q_17, .ref q_18, .ref q_19, .ref q_20, .ref q_21, .ref q_22, .ref q_23, .ref q_24, .ref q_25, .int 0, .int 1, .int 0, .int 0, .int 0])), (q_102, .inr (10, ((.ref q_103) :: (.ref q_104) :: (.int 0) :: (.int 0) :: (.int 0) :: (.int (-1)) :: (.int 0) :: (.int 0) :: (.int 0) :: (.int 0) :: (.long 0) :: (.ref q_105) :: (.ref q_106) :: (.ref q_107) :: (.ref q_108) :: (.ref q_109) :: (.ref q_110) :: (.ref q_111) :: (.ref q_112) :: (.ref q_113) :: (.ref q_114) :: (.ref q_115) :: (.ref q_116) :: (.ref q_117) :: (.ref q_118) :: (.ref q_119) :: (.ref q_120) :: (.ref q_121) :: (.ref q_122) :: (.ref q_123) :: (.ref q_124) :: (.ref q_125) :: (.ref q_126) :: (.ref q_127) :: (.ref q_128) :: (.ref q_129) :: (.ref q_130) :: (.ref q_131) :: (.ref q_132) :: (.ref q_133) :: (.ref q_134) :: (.int 0) :: (.int 0) :: (.int 0) :: (.int 0) :: (.int 0) :: (.int 0) :: (.int 0) :: (.int 0) :: (.int 0) :: (.ref q_135) :: (.ref q_136) :: (.int 0) :: (.ref q_137) :: (.int 0) :: (.int 0) :: (.int 0) :: (.int 0) :: (.int 0) :: (.int 0) :: (.ref q_138) :: (.int 0) :: (.ref q_139) :: (.ref q_140) :: (.ref q_141) :: (.ref q_142) :: (.ref q_143) :: (.ref q_144) :: (.ref q_145) :: (.ref q_146) :: (.ref q_147) :: (.ref q_148) :: (.int 0) :: (.int 0) :: (.ref q_149) :: (.ref q_150) :: []))), (q_105, .inl (cI, 2, .inl (lst [0, 0])))]) [0, 3, 67, 70] rfl
      have hD := hD.sub (ws' := [(q_1, .inr (9, [.ref q_2, .ref q_3, .ref q_4, .ref q_5, .ref q_6, .ref q_7, .ref q_8, .ref q_9, .ref q_10, .ref q_11, .ref q_12, .ref q_13, .int 0])), (q_4, .inr (8, [.int 0, .int 0, .int 0, .ref q_16, .ref q_17, .ref q_18, .ref q_19, .ref q_20, .ref q_21, .ref q_22, .ref q_23, .ref q_24, .ref q_25, .int 0, .int 1, .int 0, .int 0, .int 0])), (q_102, .inr (10, ((.ref q_103) :: (.ref q_104) :: (.int 0) :: (.int 0) :: (.int 0) :: (.int (-1)) :: (.int 0) :: (.int 0) :: (.int 0) :: (.int 0) :: (.long 0) :: (.ref q_105) :: (.ref q_106) :: (.ref q_107) :: (.ref q_108) :: (.ref q_109) :: (.ref q_110) :: (.ref q_111) :: (.ref q_112) :: (.ref q_113) :: (.ref q_114) :: (.ref q_115) :: (.ref q_116) :: (.ref q_117) :: (.ref q_118) :: (.ref q_119) :: (.ref q_120) :: (.ref q_121) :: (.ref q_122) :: (.ref q_123) :: (.ref q_124) :: (.ref q_125) :: (.ref q_126) :: (.ref q_127) :: (.ref q_128) :: (.ref q_129) :: (.ref q_130) :: (.ref q_131) :: (.ref q_132) :: (.ref q_133) :: (.ref q_134) :: (.int 0) :: (.int 0) :: (.int 0) :: (.int 0) :: (.int 0) :: (.int 0) :: (.int 0) :: (.int 0) :: (.int 0) :: (.ref q_135) :: (.ref q_136) :: (.int 0) :: (.ref q_137) :: (.int 0) :: (.int 0) :: (.int 0) :: (.int 0) :: (.int 0) :: (.int 0) :: (.ref q_138) :: (.int 0) :: (.ref q_139) :: (.ref q_140) :: (.ref q_141) :: (.ref q_142) :: (.ref q_143) :: (.ref q_144) :: (.ref q_145) :: (.ref q_146) :: (.ref q_147) :: (.ref q_148) :: (.int 0) :: (.int 0) :: (.ref q_149) :: (.ref q_150) :: []))), (q_105, .inl (cI, 2, .inl (lst [0, 0])))]) [0, 3, 67, 70] (by decide) rfl
      refine lv_tableIn (off := 969) (tgt := 1002) hx hb dL_law_33 (by decide) (by decide) (by decide +kernel) (by decide) ?_
      refine lv_aload_n hx hb dL_law_1002 rfl (lv_at hl 2 rfl) ?_
      refine lv_aload_n hx hb dL_law_1003 rfl (lv_at hl 3 rfl) ?_
      refine lv_iload_n hx hb dL_law_1004 rfl (lv_at hl 0 rfl) ?_
      refine lv_iconst (v := 1) hx hb dL_law_1005 (by decide +kernel) ?_
      refine lv_iadd hx hb dL_law_1006 ?_
      refine xt_i (v := 1) (by decide +kernel) ?_
      refine va_sld hx hb hX hbl hbA hS (vin (by decide +kernel)) dL_law_1007 ?_
      refine xt_i (v := xs 1) rfl ?_
      refine lv_aload_n hx hb dL_law_1008 rfl (lv_at hl 3 rfl) ?_
      refine lv_iload_n hx hb dL_law_1009 rfl (lv_at hl 0 rfl) ?_
      refine lv_iconst (v := 2) hx hb dL_law_1010 (by decide +kernel) ?_
      refine lv_iadd hx hb dL_law_1011 ?_
      refine xt_i (v := 2) (by decide +kernel) ?_
      refine va_sld hx hb hX hbl hbA hS (vin (by decide +kernel)) dL_law_1012 ?_
      refine xt_i (v := xs 2) rfl ?_
      refine xc_core (wr := [(q_102, .inr (10, ((.ref q_103) :: (.ref q_104) :: (.int 0) :: (.int 0) :: (.int 0) :: (.int (-1)) :: (.int 0) :: (.int 0) :: (.int 0) :: (.int 0) :: (.long 0) :: (.ref q_105) :: (.ref q_106) :: (.ref q_107) :: (.ref q_108) :: (.ref q_109) :: (.ref q_110) :: (.ref q_111) :: (.ref q_112) :: (.ref q_113) :: (.ref q_114) :: (.ref q_115) :: (.ref q_116) :: (.ref q_117) :: (.ref q_118) :: (.ref q_119) :: (.ref q_120) :: (.ref q_121) :: (.ref q_122) :: (.ref q_123) :: (.ref q_124) :: (.ref q_125) :: (.ref q_126) :: (.ref q_127) :: (.ref q_128) :: (.ref q_129) :: (.ref q_130) :: (.ref q_131) :: (.ref q_132) :: (.ref q_133) :: (.ref q_134) :: (.int 0) :: (.int 0) :: (.int 0) :: (.int 0) :: (.int 0) :: (.int 0) :: (.int 0) :: (.int 0) :: (.int 0) :: (.ref q_135) :: (.ref q_136) :: (.int 0) :: (.ref q_137) :: (.int 0) :: (.int 0) :: (.int 0) :: (.int 0) :: (.int 0) :: (.int 0) :: (.ref q_138) :: (.int 0) :: (.ref q_139) :: (.ref q_140) :: (.ref q_141) :: (.ref q_142) :: (.ref q_143) :: (.ref q_144) :: (.ref q_145) :: (.ref q_146) :: (.ref q_147) :: (.ref q_148) :: (.int 0) :: (.int 0) :: (.ref q_149) :: (.ref q_150) :: []))), (q_105, .inl (cI, 2, .inl (lst [0, 0])))]) (k := 116) (n := 11963) (xc_runV (As := [.int (xs 1), .int (xs 2)]) (rest := []) hx hb hml hown hts hG hE hP hD hS hA [0, 1] (by decide) rfl (cX9_will_1 l D cB cI cJ cZ aK aV q_1 ((xs 1)) ((xs 2)) q_2 q_3 q_4 q_5 q_6 q_7 q_8 q_9 q_10 q_11 q_12 q_13 q_16 q_17 q_18 q_19 q_20 q_21 q_22 q_23 q_24 q_25) kw1144 kw1141 kw1142 kw1143 kw112 (show XD yX9_will 2 from by decide +kernel) (by decide) rfl rfl 0 rfl hl.1 rfl (Nat.le_of_ble_eq_true rfl) dL_law_1013 (by decide)) hP hD hS hA [0, 1] [2, 3] rfl rfl (by decide) (by decide) (Nat.le_of_ble_eq_true rfl) (Nat.le_of_ble_eq_true rfl) (fun r w1 H locs hpost hP hD hS => ?_)
      obtain rfl := hpost
      have hP := hP.sub (ws' := [(q_102, .inr (10, ((.ref q_103) :: (.ref q_104) :: (.int 0) :: (.int 0) :: (.int 0) :: (.int (-1)) :: (.int 0) :: (.int 0) :: (.int 0) :: (.int 0) :: (.long 0) :: (.ref q_105) :: (.ref q_106) :: (.ref q_107) :: (.ref q_108) :: (.ref q_109) :: (.ref q_110) :: (.ref q_111) :: (.ref q_112) :: (.ref q_113) :: (.ref q_114) :: (.ref q_115) :: (.ref q_116) :: (.ref q_117) :: (.ref q_118) :: (.ref q_119) :: (.ref q_120) :: (.ref q_121) :: (.ref q_122) :: (.ref q_123) :: (.ref q_124) :: (.ref q_125) :: (.ref q_126) :: (.ref q_127) :: (.ref q_128) :: (.ref q_129) :: (.ref q_130) :: (.ref q_131) :: (.ref q_132) :: (.ref q_133) :: (.ref q_134) :: (.int 0) :: (.int 0) :: (.int 0) :: (.int 0) :: (.int 0) :: (.int 0) :: (.int 0) :: (.int 0) :: (.int 0) :: (.ref q_135) :: (.ref q_136) :: (.int 0) :: (.ref q_137) :: (.int 0) :: (.int 0) :: (.int 0) :: (.int 0) :: (.int 0) :: (.int 0) :: (.ref q_138) :: (.int 0) :: (.ref q_139) :: (.ref q_140) :: (.ref q_141) :: (.ref q_142) :: (.ref q_143) :: (.ref q_144) :: (.ref q_145) :: (.ref q_146) :: (.ref q_147) :: (.ref q_148) :: (.int 0) :: (.int 0) :: (.ref q_149) :: (.ref q_150) :: []))), (q_105, .inl (cI, 2, .inl (lst [0, 0])))]) [0, 1] rfl
      have hD := hD.sub (ws' := [(q_102, .inr (10, ((.ref q_103) :: (.ref q_104) :: (.int 0) :: (.int 0) :: (.int 0) :: (.int (-1)) :: (.int 0) :: (.int 0) :: (.int 0) :: (.int 0) :: (.long 0) :: (.ref q_105) :: (.ref q_106) :: (.ref q_107) :: (.ref q_108) :: (.ref q_109) :: (.ref q_110) :: (.ref q_111) :: (.ref q_112) :: (.ref q_113) :: (.ref q_114) :: (.ref q_115) :: (.ref q_116) :: (.ref q_117) :: (.ref q_118) :: (.ref q_119) :: (.ref q_120) :: (.ref q_121) :: (.ref q_122) :: (.ref q_123) :: (.ref q_124) :: (.ref q_125) :: (.ref q_126) :: (.ref q_127) :: (.ref q_128) :: (.ref q_129) :: (.ref q_130) :: (.ref q_131) :: (.ref q_132) :: (.ref q_133) :: (.ref q_134) :: (.int 0) :: (.int 0) :: (.int 0) :: (.int 0) :: (.int 0) :: (.int 0) :: (.int 0) :: (.int 0) :: (.int 0) :: (.ref q_135) :: (.ref q_136) :: (.int 0) :: (.ref q_137) :: (.int 0) :: (.int 0) :: (.int 0) :: (.int 0) :: (.int 0) :: (.int 0) :: (.ref q_138) :: (.int 0) :: (.ref q_139) :: (.ref q_140) :: (.ref q_141) :: (.ref q_142) :: (.ref q_143) :: (.ref q_144) :: (.ref q_145) :: (.ref q_146) :: (.ref q_147) :: (.ref q_148) :: (.int 0) :: (.int 0) :: (.ref q_149) :: (.ref q_150) :: []))), (q_105, .inl (cI, 2, .inl (lst [0, 0])))]) [0, 1] (by decide) rfl
      refine lv_aload_n hx hb dL_law_1016 rfl (lv_at hl 1 rfl) ?_
      refine lv_aload_n hx hb dL_law_1017 rfl (lv_at hl 3 rfl) ?_
      refine lv_iload_n hx hb dL_law_1018 rfl (lv_at hl 0 rfl) ?_
      refine lv_iconst (v := 1) hx hb dL_law_1019 (by decide +kernel) ?_
      refine lv_iadd hx hb dL_law_1020 ?_
      refine xt_i (v := 1) (by decide +kernel) ?_
      refine va_sld hx hb hX hbl hbA hS (vin (by decide +kernel)) dL_law_1021 ?_
      refine xt_i (v := xs 1) rfl ?_
      refine lv_aload_n hx hb dL_law_1022 rfl (lv_at hl 3 rfl) ?_
      refine lv_iload_n hx hb dL_law_1023 rfl (lv_at hl 0 rfl) ?_
      refine lv_iconst (v := 2) hx hb dL_law_1024 (by decide +kernel) ?_
      refine lv_iadd hx hb dL_law_1025 ?_
      refine xt_i (v := 2) (by decide +kernel) ?_
      refine va_sld hx hb hX hbl hbA hS (vin (by decide +kernel)) dL_law_1026 ?_
      refine xt_i (v := xs 2) rfl ?_
      refine xc_core (wr := []) (k := 116) (n := 11963) (xc_runV (As := [.int (xs 1), .int (xs 2)]) (rest := [.int (-1000000000)]) hx hb hml hown hts hG hE hP hD hS hA [0, 1] (by decide) rfl (cX10_will_1 l D cB cI cJ cZ aK aV q_102 ((xs 1)) ((xs 2)) q_103 q_104 q_105 q_106 q_107 q_108 q_109 q_110 q_111 q_112 q_113 q_114 q_115 q_116 q_117 q_118 q_119 q_120 q_121 q_122 q_123 q_124 q_125 q_126 q_127 q_128 q_129 q_130 q_131 q_132 q_133 q_134 q_135 q_136 q_137 q_138 q_139 q_140 q_141 q_142 q_143 q_144 q_145 q_146 q_147 q_148 q_149 q_150) kw1917 kw1914 kw1915 kw1916 kw127 (show XD yX10_will 2 from by decide +kernel) (by decide) rfl rfl 0 rfl hl.1 rfl (Nat.le_of_ble_eq_true rfl) dL_law_1027 (by decide)) hP hD hS hA [0, 1] [] rfl rfl (by decide) (by decide) (Nat.le_of_ble_eq_true rfl) (Nat.le_of_ble_eq_true rfl) (fun r w1 H locs hpost hP hD hS => ?_)
      obtain rfl := hpost
      have hP := hP.sub (ws' := []) [] rfl
      have hD := hD.sub (ws' := []) [] (by decide) rfl
      refine lv_icmp_eq (tgt := 1527) hx hb dL_law_1030 (by decide) (fun _ => ?_) (fun h => absurd h (by decide +kernel))
      refine lv_iinc (v := 6) (lv' := [(3, .int 6), (2, .ref q_102), (1, .ref q_1), (0, .ref b)]) hx hb dL_law_1527 hl (k := 0) rfl (by decide +kernel) (by decide) rfl (fun ls hl => ?_)
      refine lv_goto (tgt := 18) hx hb dL_law_1530 (by decide) ?_
      refine lv_iload_n hx hb dL_law_18 rfl (lv_at hl 0 rfl) ?_
      refine lv_aload_n hx hb dL_law_19 rfl (lv_at hl 3 rfl) ?_
      refine va_slen hx hb hX hbl hbA hS dL_law_20 ?_
      refine xt_i (v := 6) (by decide +kernel) ?_
      refine lv_bipush (v := 6) hx hb dL_law_21 (by decide +kernel) ?_
      refine lv_isub hx hb dL_law_23 ?_
      refine xt_i (v := 0) (by decide +kernel) ?_
      refine lv_icmp_gt (tgt := 1533) hx hb dL_law_24 (by decide) (fun _ => ?_) (fun h => absurd h (by decide +kernel))
      refine lv_iconst (v := 1) hx hb dL_law_1533 (by decide +kernel) ?_
      refine va_forget (fun q hq => by have z := hS.2.2 q hq; rw [hAe] at z; exact z) ?_
      refine W.widen (k := 600000) (n := 7302250) (Nat.le_of_ble_eq_true rfl) (Nat.le_of_ble_eq_true rfl) ?_
      exact lw_ret hx hb hr hlocks dL_law_1534
    by_cases c_187 : v_157 = 29
    · subst c_187
      have hP := hP.sub (ws' := [(q_1, .inr (9, [.ref q_2, .ref q_3, .ref q_4, .ref q_5, .ref q_6, .ref q_7, .ref q_8, .ref q_9, .ref q_10, .ref q_11, .ref q_12, .ref q_13, .int 0])), (q_4, .inr (8, [.int 0, .int 0, .int 0, .ref q_16, .ref q_17, .ref q_18, .ref q_19, .ref q_20, .ref q_21, .ref q_22, .ref q_23, .ref q_24, .ref q_25, .int 0, .int 1, .int 0, .int 0, .int 0])), (q_102, .inr (10, ((.ref q_103) :: (.ref q_104) :: (.int 0) :: (.int 0) :: (.int 0) :: (.int (-1)) :: (.int 0) :: (.int 0) :: (.int 0) :: (.int 0) :: (.long 0) :: (.ref q_105) :: (.ref q_106) :: (.ref q_107) :: (.ref q_108) :: (.ref q_109) :: (.ref q_110) :: (.ref q_111) :: (.ref q_112) :: (.ref q_113) :: (.ref q_114) :: (.ref q_115) :: (.ref q_116) :: (.ref q_117) :: (.ref q_118) :: (.ref q_119) :: (.ref q_120) :: (.ref q_121) :: (.ref q_122) :: (.ref q_123) :: (.ref q_124) :: (.ref q_125) :: (.ref q_126) :: (.ref q_127) :: (.ref q_128) :: (.ref q_129) :: (.ref q_130) :: (.ref q_131) :: (.ref q_132) :: (.ref q_133) :: (.ref q_134) :: (.int 0) :: (.int 0) :: (.int 0) :: (.int 0) :: (.int 0) :: (.int 0) :: (.int 0) :: (.int 0) :: (.int 0) :: (.ref q_135) :: (.ref q_136) :: (.int 0) :: (.ref q_137) :: (.int 0) :: (.int 0) :: (.int 0) :: (.int 0) :: (.int 0) :: (.int 0) :: (.ref q_138) :: (.int 0) :: (.ref q_139) :: (.ref q_140) :: (.ref q_141) :: (.ref q_142) :: (.ref q_143) :: (.ref q_144) :: (.ref q_145) :: (.ref q_146) :: (.ref q_147) :: (.ref q_148) :: (.int 0) :: (.int 0) :: (.ref q_149) :: (.ref q_150) :: []))), (q_105, .inl (cI, 2, .inl (lst [0, 0])))]) [0, 3, 67, 70] rfl
      have hD := hD.sub (ws' := [(q_1, .inr (9, [.ref q_2, .ref q_3, .ref q_4, .ref q_5, .ref q_6, .ref q_7, .ref q_8, .ref q_9, .ref q_10, .ref q_11, .ref q_12, .ref q_13, .int 0])), (q_4, .inr (8, [.int 0, .int 0, .int 0, .ref q_16, .ref q_17, .ref q_18, .ref q_19, .ref q_20, .ref q_21, .ref q_22, .ref q_23, .ref q_24, .ref q_25, .int 0, .int 1, .int 0, .int 0, .int 0])), (q_102, .inr (10, ((.ref q_103) :: (.ref q_104) :: (.int 0) :: (.int 0) :: (.int 0) :: (.int (-1)) :: (.int 0) :: (.int 0) :: (.int 0) :: (.int 0) :: (.long 0) :: (.ref q_105) :: (.ref q_106) :: (.ref q_107) :: (.ref q_108) :: (.ref q_109) :: (.ref q_110) :: (.ref q_111) :: (.ref q_112) :: (.ref q_113) :: (.ref q_114) :: (.ref q_115) :: (.ref q_116) :: (.ref q_117) :: (.ref q_118) :: (.ref q_119) :: (.ref q_120) :: (.ref q_121) :: (.ref q_122) :: (.ref q_123) :: (.ref q_124) :: (.ref q_125) :: (.ref q_126) :: (.ref q_127) :: (.ref q_128) :: (.ref q_129) :: (.ref q_130) :: (.ref q_131) :: (.ref q_132) :: (.ref q_133) :: (.ref q_134) :: (.int 0) :: (.int 0) :: (.int 0) :: (.int 0) :: (.int 0) :: (.int 0) :: (.int 0) :: (.int 0) :: (.int 0) :: (.ref q_135) :: (.ref q_136) :: (.int 0) :: (.ref q_137) :: (.int 0) :: (.int 0) :: (.int 0) :: (.int 0) :: (.int 0) :: (.int 0) :: (.ref q_138) :: (.int 0) :: (.ref q_139) :: (.ref q_140) :: (.ref q_141) :: (.ref q_142) :: (.ref q_143) :: (.ref q_144) :: (.ref q_145) :: (.ref q_146) :: (.ref q_147) :: (.ref q_148) :: (.int 0) :: (.int 0) :: (.ref q_149) :: (.ref q_150) :: []))), (q_105, .inl (cI, 2, .inl (lst [0, 0])))]) [0, 3, 67, 70] (by decide) rfl
      refine lv_tableIn (off := 1002) (tgt := 1035) hx hb dL_law_33 (by decide) (by decide) (by decide +kernel) (by decide) ?_
      refine lv_aload_n hx hb dL_law_1035 rfl (lv_at hl 2 rfl) ?_
      refine lv_aload_n hx hb dL_law_1036 rfl (lv_at hl 3 rfl) ?_
      refine lv_iload_n hx hb dL_law_1037 rfl (lv_at hl 0 rfl) ?_
      refine lv_iconst (v := 1) hx hb dL_law_1038 (by decide +kernel) ?_
      refine lv_iadd hx hb dL_law_1039 ?_
      refine xt_i (v := 1) (by decide +kernel) ?_
      refine va_sld hx hb hX hbl hbA hS (vin (by decide +kernel)) dL_law_1040 ?_
      refine xt_i (v := xs 1) rfl ?_
      refine xc_core (wr := [(q_102, .inr (10, ((.ref q_103) :: (.ref q_104) :: (.int 0) :: (.int 0) :: (.int 0) :: (.int (-1)) :: (.int 0) :: (.int 0) :: (.int 0) :: (.int 0) :: (.long 0) :: (.ref q_105) :: (.ref q_106) :: (.ref q_107) :: (.ref q_108) :: (.ref q_109) :: (.ref q_110) :: (.ref q_111) :: (.ref q_112) :: (.ref q_113) :: (.ref q_114) :: (.ref q_115) :: (.ref q_116) :: (.ref q_117) :: (.ref q_118) :: (.ref q_119) :: (.ref q_120) :: (.ref q_121) :: (.ref q_122) :: (.ref q_123) :: (.ref q_124) :: (.ref q_125) :: (.ref q_126) :: (.ref q_127) :: (.ref q_128) :: (.ref q_129) :: (.ref q_130) :: (.ref q_131) :: (.ref q_132) :: (.ref q_133) :: (.ref q_134) :: (.int 0) :: (.int 0) :: (.int 0) :: (.int 0) :: (.int 0) :: (.int 0) :: (.int 0) :: (.int 0) :: (.int 0) :: (.ref q_135) :: (.ref q_136) :: (.int 0) :: (.ref q_137) :: (.int 0) :: (.int 0) :: (.int 0) :: (.int 0) :: (.int 0) :: (.int 0) :: (.ref q_138) :: (.int 0) :: (.ref q_139) :: (.ref q_140) :: (.ref q_141) :: (.ref q_142) :: (.ref q_143) :: (.ref q_144) :: (.ref q_145) :: (.ref q_146) :: (.ref q_147) :: (.ref q_148) :: (.int 0) :: (.int 0) :: (.ref q_149) :: (.ref q_150) :: []))), (q_105, .inl (cI, 2, .inl (lst [0, 0])))]) (k := 116) (n := 11963) (xc_runV (As := [.int (xs 1)]) (rest := []) hx hb hml hown hts hG hE hP hD hS hA [0, 1] (by decide) rfl (cX9_ruin_1 l D cB cI cJ cZ aK aV q_1 ((xs 1)) q_2 q_3 q_4 q_5 q_6 q_7 q_8 q_9 q_10 q_11 q_12 q_13 q_16 q_17 q_18 q_19 q_20 q_21 q_22 q_23 q_24 q_25) kw1156 kw1153 kw1154 kw1155 kw112 (show XD yX9_ruin 1 from by decide +kernel) (by decide) rfl rfl 0 rfl hl.1 rfl (Nat.le_of_ble_eq_true rfl) dL_law_1041 (by decide)) hP hD hS hA [0, 1] [2, 3] rfl rfl (by decide) (by decide) (Nat.le_of_ble_eq_true rfl) (Nat.le_of_ble_eq_true rfl) (fun r w1 H locs hpost hP hD hS => ?_)
      obtain rfl := hpost
      have hP := hP.sub (ws' := [(q_102, .inr (10, ((.ref q_103) :: (.ref q_104) :: (.int 0) :: (.int 0) :: (.int 0) :: (.int (-1)) :: (.int 0) :: (.int 0) :: (.int 0) :: (.int 0) :: (.long 0) :: (.ref q_105) :: (.ref q_106) :: (.ref q_107) :: (.ref q_108) :: (.ref q_109) :: (.ref q_110) :: (.ref q_111) :: (.ref q_112) :: (.ref q_113) :: (.ref q_114) :: (.ref q_115) :: (.ref q_116) :: (.ref q_117) :: (.ref q_118) :: (.ref q_119) :: (.ref q_120) :: (.ref q_121) :: (.ref q_122) :: (.ref q_123) :: (.ref q_124) :: (.ref q_125) :: (.ref q_126) :: (.ref q_127) :: (.ref q_128) :: (.ref q_129) :: (.ref q_130) :: (.ref q_131) :: (.ref q_132) :: (.ref q_133) :: (.ref q_134) :: (.int 0) :: (.int 0) :: (.int 0) :: (.int 0) :: (.int 0) :: (.int 0) :: (.int 0) :: (.int 0) :: (.int 0) :: (.ref q_135) :: (.ref q_136) :: (.int 0) :: (.ref q_137) :: (.int 0) :: (.int 0) :: (.int 0) :: (.int 0) :: (.int 0) :: (.int 0) :: (.ref q_138) :: (.int 0) :: (.ref q_139) :: (.ref q_140) :: (.ref q_141) :: (.ref q_142) :: (.ref q_143) :: (.ref q_144) :: (.ref q_145) :: (.ref q_146) :: (.ref q_147) :: (.ref q_148) :: (.int 0) :: (.int 0) :: (.ref q_149) :: (.ref q_150) :: []))), (q_105, .inl (cI, 2, .inl (lst [0, 0])))]) [0, 1] rfl
      have hD := hD.sub (ws' := [(q_102, .inr (10, ((.ref q_103) :: (.ref q_104) :: (.int 0) :: (.int 0) :: (.int 0) :: (.int (-1)) :: (.int 0) :: (.int 0) :: (.int 0) :: (.int 0) :: (.long 0) :: (.ref q_105) :: (.ref q_106) :: (.ref q_107) :: (.ref q_108) :: (.ref q_109) :: (.ref q_110) :: (.ref q_111) :: (.ref q_112) :: (.ref q_113) :: (.ref q_114) :: (.ref q_115) :: (.ref q_116) :: (.ref q_117) :: (.ref q_118) :: (.ref q_119) :: (.ref q_120) :: (.ref q_121) :: (.ref q_122) :: (.ref q_123) :: (.ref q_124) :: (.ref q_125) :: (.ref q_126) :: (.ref q_127) :: (.ref q_128) :: (.ref q_129) :: (.ref q_130) :: (.ref q_131) :: (.ref q_132) :: (.ref q_133) :: (.ref q_134) :: (.int 0) :: (.int 0) :: (.int 0) :: (.int 0) :: (.int 0) :: (.int 0) :: (.int 0) :: (.int 0) :: (.int 0) :: (.ref q_135) :: (.ref q_136) :: (.int 0) :: (.ref q_137) :: (.int 0) :: (.int 0) :: (.int 0) :: (.int 0) :: (.int 0) :: (.int 0) :: (.ref q_138) :: (.int 0) :: (.ref q_139) :: (.ref q_140) :: (.ref q_141) :: (.ref q_142) :: (.ref q_143) :: (.ref q_144) :: (.ref q_145) :: (.ref q_146) :: (.ref q_147) :: (.ref q_148) :: (.int 0) :: (.int 0) :: (.ref q_149) :: (.ref q_150) :: []))), (q_105, .inl (cI, 2, .inl (lst [0, 0])))]) [0, 1] (by decide) rfl
      refine lv_aload_n hx hb dL_law_1044 rfl (lv_at hl 1 rfl) ?_
      refine lv_aload_n hx hb dL_law_1045 rfl (lv_at hl 3 rfl) ?_
      refine lv_iload_n hx hb dL_law_1046 rfl (lv_at hl 0 rfl) ?_
      refine lv_iconst (v := 1) hx hb dL_law_1047 (by decide +kernel) ?_
      refine lv_iadd hx hb dL_law_1048 ?_
      refine xt_i (v := 1) (by decide +kernel) ?_
      refine va_sld hx hb hX hbl hbA hS (vin (by decide +kernel)) dL_law_1049 ?_
      refine xt_i (v := xs 1) rfl ?_
      refine xc_core (wr := []) (k := 116) (n := 11963) (xc_runV (As := [.int (xs 1)]) (rest := [.int (-1)]) hx hb hml hown hts hG hE hP hD hS hA [0, 1] (by decide) rfl (cX10_ruin_1 l D cB cI cJ cZ aK aV q_102 ((xs 1)) q_103 q_104 q_105 q_106 q_107 q_108 q_109 q_110 q_111 q_112 q_113 q_114 q_115 q_116 q_117 q_118 q_119 q_120 q_121 q_122 q_123 q_124 q_125 q_126 q_127 q_128 q_129 q_130 q_131 q_132 q_133 q_134 q_135 q_136 q_137 q_138 q_139 q_140 q_141 q_142 q_143 q_144 q_145 q_146 q_147 q_148 q_149 q_150) kw1928 kw1925 kw1926 kw1927 kw127 (show XD yX10_ruin 1 from by decide +kernel) (by decide) rfl rfl 0 rfl hl.1 rfl (Nat.le_of_ble_eq_true rfl) dL_law_1050 (by decide)) hP hD hS hA [0, 1] [] rfl rfl (by decide) (by decide) (Nat.le_of_ble_eq_true rfl) (Nat.le_of_ble_eq_true rfl) (fun r w1 H locs hpost hP hD hS => ?_)
      obtain rfl := hpost
      have hP := hP.sub (ws' := []) [] rfl
      have hD := hD.sub (ws' := []) [] (by decide) rfl
      refine lv_icmp_eq (tgt := 1527) hx hb dL_law_1053 (by decide) (fun _ => ?_) (fun h => absurd h (by decide +kernel))
      refine lv_iinc (v := 6) (lv' := [(3, .int 6), (2, .ref q_102), (1, .ref q_1), (0, .ref b)]) hx hb dL_law_1527 hl (k := 0) rfl (by decide +kernel) (by decide) rfl (fun ls hl => ?_)
      refine lv_goto (tgt := 18) hx hb dL_law_1530 (by decide) ?_
      refine lv_iload_n hx hb dL_law_18 rfl (lv_at hl 0 rfl) ?_
      refine lv_aload_n hx hb dL_law_19 rfl (lv_at hl 3 rfl) ?_
      refine va_slen hx hb hX hbl hbA hS dL_law_20 ?_
      refine xt_i (v := 6) (by decide +kernel) ?_
      refine lv_bipush (v := 6) hx hb dL_law_21 (by decide +kernel) ?_
      refine lv_isub hx hb dL_law_23 ?_
      refine xt_i (v := 0) (by decide +kernel) ?_
      refine lv_icmp_gt (tgt := 1533) hx hb dL_law_24 (by decide) (fun _ => ?_) (fun h => absurd h (by decide +kernel))
      refine lv_iconst (v := 1) hx hb dL_law_1533 (by decide +kernel) ?_
      refine va_forget (fun q hq => by have z := hS.2.2 q hq; rw [hAe] at z; exact z) ?_
      refine W.widen (k := 600000) (n := 7302250) (Nat.le_of_ble_eq_true rfl) (Nat.le_of_ble_eq_true rfl) ?_
      exact lw_ret hx hb hr hlocks dL_law_1534
    by_cases c_188 : v_157 = 30
    · subst c_188
      have hP := hP.sub (ws' := [(q_1, .inr (9, [.ref q_2, .ref q_3, .ref q_4, .ref q_5, .ref q_6, .ref q_7, .ref q_8, .ref q_9, .ref q_10, .ref q_11, .ref q_12, .ref q_13, .int 0])), (q_4, .inr (8, [.int 0, .int 0, .int 0, .ref q_16, .ref q_17, .ref q_18, .ref q_19, .ref q_20, .ref q_21, .ref q_22, .ref q_23, .ref q_24, .ref q_25, .int 0, .int 1, .int 0, .int 0, .int 0])), (q_102, .inr (10, ((.ref q_103) :: (.ref q_104) :: (.int 0) :: (.int 0) :: (.int 0) :: (.int (-1)) :: (.int 0) :: (.int 0) :: (.int 0) :: (.int 0) :: (.long 0) :: (.ref q_105) :: (.ref q_106) :: (.ref q_107) :: (.ref q_108) :: (.ref q_109) :: (.ref q_110) :: (.ref q_111) :: (.ref q_112) :: (.ref q_113) :: (.ref q_114) :: (.ref q_115) :: (.ref q_116) :: (.ref q_117) :: (.ref q_118) :: (.ref q_119) :: (.ref q_120) :: (.ref q_121) :: (.ref q_122) :: (.ref q_123) :: (.ref q_124) :: (.ref q_125) :: (.ref q_126) :: (.ref q_127) :: (.ref q_128) :: (.ref q_129) :: (.ref q_130) :: (.ref q_131) :: (.ref q_132) :: (.ref q_133) :: (.ref q_134) :: (.int 0) :: (.int 0) :: (.int 0) :: (.int 0) :: (.int 0) :: (.int 0) :: (.int 0) :: (.int 0) :: (.int 0) :: (.ref q_135) :: (.ref q_136) :: (.int 0) :: (.ref q_137) :: (.int 0) :: (.int 0) :: (.int 0) :: (.int 0) :: (.int 0) :: (.int 0) :: (.ref q_138) :: (.int 0) :: (.ref q_139) :: (.ref q_140) :: (.ref q_141) :: (.ref q_142) :: (.ref q_143) :: (.ref q_144) :: (.ref q_145) :: (.ref q_146) :: (.ref q_147) :: (.ref q_148) :: (.int 0) :: (.int 0) :: (.ref q_149) :: (.ref q_150) :: []))), (q_107, .inl (cI, 2, .inl (lst [0, 0])))]) [0, 3, 67, 72] rfl
      have hD := hD.sub (ws' := [(q_1, .inr (9, [.ref q_2, .ref q_3, .ref q_4, .ref q_5, .ref q_6, .ref q_7, .ref q_8, .ref q_9, .ref q_10, .ref q_11, .ref q_12, .ref q_13, .int 0])), (q_4, .inr (8, [.int 0, .int 0, .int 0, .ref q_16, .ref q_17, .ref q_18, .ref q_19, .ref q_20, .ref q_21, .ref q_22, .ref q_23, .ref q_24, .ref q_25, .int 0, .int 1, .int 0, .int 0, .int 0])), (q_102, .inr (10, ((.ref q_103) :: (.ref q_104) :: (.int 0) :: (.int 0) :: (.int 0) :: (.int (-1)) :: (.int 0) :: (.int 0) :: (.int 0) :: (.int 0) :: (.long 0) :: (.ref q_105) :: (.ref q_106) :: (.ref q_107) :: (.ref q_108) :: (.ref q_109) :: (.ref q_110) :: (.ref q_111) :: (.ref q_112) :: (.ref q_113) :: (.ref q_114) :: (.ref q_115) :: (.ref q_116) :: (.ref q_117) :: (.ref q_118) :: (.ref q_119) :: (.ref q_120) :: (.ref q_121) :: (.ref q_122) :: (.ref q_123) :: (.ref q_124) :: (.ref q_125) :: (.ref q_126) :: (.ref q_127) :: (.ref q_128) :: (.ref q_129) :: (.ref q_130) :: (.ref q_131) :: (.ref q_132) :: (.ref q_133) :: (.ref q_134) :: (.int 0) :: (.int 0) :: (.int 0) :: (.int 0) :: (.int 0) :: (.int 0) :: (.int 0) :: (.int 0) :: (.int 0) :: (.ref q_135) :: (.ref q_136) :: (.int 0) :: (.ref q_137) :: (.int 0) :: (.int 0) :: (.int 0) :: (.int 0) :: (.int 0) :: (.int 0) :: (.ref q_138) :: (.int 0) :: (.ref q_139) :: (.ref q_140) :: (.ref q_141) :: (.ref q_142) :: (.ref q_143) :: (.ref q_144) :: (.ref q_145) :: (.ref q_146) :: (.ref q_147) :: (.ref q_148) :: (.int 0) :: (.int 0) :: (.ref q_149) :: (.ref q_150) :: []))), (q_107, .inl (cI, 2, .inl (lst [0, 0])))]) [0, 3, 67, 72] (by decide) rfl
      refine lv_tableIn (off := 1025) (tgt := 1058) hx hb dL_law_33 (by decide) (by decide) (by decide +kernel) (by decide) ?_
      refine lv_aload_n hx hb dL_law_1058 rfl (lv_at hl 2 rfl) ?_
      refine lv_aload_n hx hb dL_law_1059 rfl (lv_at hl 3 rfl) ?_
      refine lv_iload_n hx hb dL_law_1060 rfl (lv_at hl 0 rfl) ?_
      refine lv_iconst (v := 1) hx hb dL_law_1061 (by decide +kernel) ?_
      refine lv_iadd hx hb dL_law_1062 ?_
      refine xt_i (v := 1) (by decide +kernel) ?_
      refine va_sld hx hb hX hbl hbA hS (vin (by decide +kernel)) dL_law_1063 ?_
      refine xt_i (v := xs 1) rfl ?_
      refine lv_aload_n hx hb dL_law_1064 rfl (lv_at hl 3 rfl) ?_
      refine lv_iload_n hx hb dL_law_1065 rfl (lv_at hl 0 rfl) ?_
      refine lv_iconst (v := 2) hx hb dL_law_1066 (by decide +kernel) ?_
      refine lv_iadd hx hb dL_law_1067 ?_
      refine xt_i (v := 2) (by decide +kernel) ?_
      refine va_sld hx hb hX hbl hbA hS (vin (by decide +kernel)) dL_law_1068 ?_
      refine xt_i (v := xs 2) rfl ?_
      refine xc_core (wr := [(q_102, .inr (10, ((.ref q_103) :: (.ref q_104) :: (.int 0) :: (.int 0) :: (.int 0) :: (.int (-1)) :: (.int 0) :: (.int 0) :: (.int 0) :: (.int 0) :: (.long 0) :: (.ref q_105) :: (.ref q_106) :: (.ref q_107) :: (.ref q_108) :: (.ref q_109) :: (.ref q_110) :: (.ref q_111) :: (.ref q_112) :: (.ref q_113) :: (.ref q_114) :: (.ref q_115) :: (.ref q_116) :: (.ref q_117) :: (.ref q_118) :: (.ref q_119) :: (.ref q_120) :: (.ref q_121) :: (.ref q_122) :: (.ref q_123) :: (.ref q_124) :: (.ref q_125) :: (.ref q_126) :: (.ref q_127) :: (.ref q_128) :: (.ref q_129) :: (.ref q_130) :: (.ref q_131) :: (.ref q_132) :: (.ref q_133) :: (.ref q_134) :: (.int 0) :: (.int 0) :: (.int 0) :: (.int 0) :: (.int 0) :: (.int 0) :: (.int 0) :: (.int 0) :: (.int 0) :: (.ref q_135) :: (.ref q_136) :: (.int 0) :: (.ref q_137) :: (.int 0) :: (.int 0) :: (.int 0) :: (.int 0) :: (.int 0) :: (.int 0) :: (.ref q_138) :: (.int 0) :: (.ref q_139) :: (.ref q_140) :: (.ref q_141) :: (.ref q_142) :: (.ref q_143) :: (.ref q_144) :: (.ref q_145) :: (.ref q_146) :: (.ref q_147) :: (.ref q_148) :: (.int 0) :: (.int 0) :: (.ref q_149) :: (.ref q_150) :: []))), (q_107, .inl (cI, 2, .inl (lst [0, 0])))]) (k := 116) (n := 11963) (xc_runV (As := [.int (xs 1), .int (xs 2)]) (rest := []) hx hb hml hown hts hG hE hP hD hS hA [0, 1] (by decide) rfl (cX9_grown_1 l D cB cI cJ cZ aK aV q_1 ((xs 1)) ((xs 2)) q_2 q_3 q_4 q_5 q_6 q_7 q_8 q_9 q_10 q_11 q_12 q_13 q_16 q_17 q_18 q_19 q_20 q_21 q_22 q_23 q_24 q_25) kw1160 kw1157 kw1158 kw1159 kw112 (show XD yX9_grown 2 from by decide +kernel) (by decide) rfl rfl 0 rfl hl.1 rfl (Nat.le_of_ble_eq_true rfl) dL_law_1069 (by decide)) hP hD hS hA [0, 1] [2, 3] rfl rfl (by decide) (by decide) (Nat.le_of_ble_eq_true rfl) (Nat.le_of_ble_eq_true rfl) (fun r w1 H locs hpost hP hD hS => ?_)
      obtain rfl := hpost
      have hP := hP.sub (ws' := [(q_102, .inr (10, ((.ref q_103) :: (.ref q_104) :: (.int 0) :: (.int 0) :: (.int 0) :: (.int (-1)) :: (.int 0) :: (.int 0) :: (.int 0) :: (.int 0) :: (.long 0) :: (.ref q_105) :: (.ref q_106) :: (.ref q_107) :: (.ref q_108) :: (.ref q_109) :: (.ref q_110) :: (.ref q_111) :: (.ref q_112) :: (.ref q_113) :: (.ref q_114) :: (.ref q_115) :: (.ref q_116) :: (.ref q_117) :: (.ref q_118) :: (.ref q_119) :: (.ref q_120) :: (.ref q_121) :: (.ref q_122) :: (.ref q_123) :: (.ref q_124) :: (.ref q_125) :: (.ref q_126) :: (.ref q_127) :: (.ref q_128) :: (.ref q_129) :: (.ref q_130) :: (.ref q_131) :: (.ref q_132) :: (.ref q_133) :: (.ref q_134) :: (.int 0) :: (.int 0) :: (.int 0) :: (.int 0) :: (.int 0) :: (.int 0) :: (.int 0) :: (.int 0) :: (.int 0) :: (.ref q_135) :: (.ref q_136) :: (.int 0) :: (.ref q_137) :: (.int 0) :: (.int 0) :: (.int 0) :: (.int 0) :: (.int 0) :: (.int 0) :: (.ref q_138) :: (.int 0) :: (.ref q_139) :: (.ref q_140) :: (.ref q_141) :: (.ref q_142) :: (.ref q_143) :: (.ref q_144) :: (.ref q_145) :: (.ref q_146) :: (.ref q_147) :: (.ref q_148) :: (.int 0) :: (.int 0) :: (.ref q_149) :: (.ref q_150) :: []))), (q_107, .inl (cI, 2, .inl (lst [0, 0])))]) [0, 1] rfl
      have hD := hD.sub (ws' := [(q_102, .inr (10, ((.ref q_103) :: (.ref q_104) :: (.int 0) :: (.int 0) :: (.int 0) :: (.int (-1)) :: (.int 0) :: (.int 0) :: (.int 0) :: (.int 0) :: (.long 0) :: (.ref q_105) :: (.ref q_106) :: (.ref q_107) :: (.ref q_108) :: (.ref q_109) :: (.ref q_110) :: (.ref q_111) :: (.ref q_112) :: (.ref q_113) :: (.ref q_114) :: (.ref q_115) :: (.ref q_116) :: (.ref q_117) :: (.ref q_118) :: (.ref q_119) :: (.ref q_120) :: (.ref q_121) :: (.ref q_122) :: (.ref q_123) :: (.ref q_124) :: (.ref q_125) :: (.ref q_126) :: (.ref q_127) :: (.ref q_128) :: (.ref q_129) :: (.ref q_130) :: (.ref q_131) :: (.ref q_132) :: (.ref q_133) :: (.ref q_134) :: (.int 0) :: (.int 0) :: (.int 0) :: (.int 0) :: (.int 0) :: (.int 0) :: (.int 0) :: (.int 0) :: (.int 0) :: (.ref q_135) :: (.ref q_136) :: (.int 0) :: (.ref q_137) :: (.int 0) :: (.int 0) :: (.int 0) :: (.int 0) :: (.int 0) :: (.int 0) :: (.ref q_138) :: (.int 0) :: (.ref q_139) :: (.ref q_140) :: (.ref q_141) :: (.ref q_142) :: (.ref q_143) :: (.ref q_144) :: (.ref q_145) :: (.ref q_146) :: (.ref q_147) :: (.ref q_148) :: (.int 0) :: (.int 0) :: (.ref q_149) :: (.ref q_150) :: []))), (q_107, .inl (cI, 2, .inl (lst [0, 0])))]) [0, 1] (by decide) rfl
      refine lv_aload_n hx hb dL_law_1072 rfl (lv_at hl 1 rfl) ?_
      refine lv_aload_n hx hb dL_law_1073 rfl (lv_at hl 3 rfl) ?_
      refine lv_iload_n hx hb dL_law_1074 rfl (lv_at hl 0 rfl) ?_
      refine lv_iconst (v := 1) hx hb dL_law_1075 (by decide +kernel) ?_
      refine lv_iadd hx hb dL_law_1076 ?_
      refine xt_i (v := 1) (by decide +kernel) ?_
      refine va_sld hx hb hX hbl hbA hS (vin (by decide +kernel)) dL_law_1077 ?_
      refine xt_i (v := xs 1) rfl ?_
      refine lv_aload_n hx hb dL_law_1078 rfl (lv_at hl 3 rfl) ?_
      refine lv_iload_n hx hb dL_law_1079 rfl (lv_at hl 0 rfl) ?_
      refine lv_iconst (v := 2) hx hb dL_law_1080 (by decide +kernel) ?_
      refine lv_iadd hx hb dL_law_1081 ?_
      refine xt_i (v := 2) (by decide +kernel) ?_
      refine va_sld hx hb hX hbl hbA hS (vin (by decide +kernel)) dL_law_1082 ?_
      refine xt_i (v := xs 2) rfl ?_
      refine xc_core (wr := []) (k := 116) (n := 11963) (xc_runV (As := [.int (xs 1), .int (xs 2)]) (rest := [.int (-1)]) hx hb hml hown hts hG hE hP hD hS hA [0, 1] (by decide) rfl (cX10_grown_1 l D cB cI cJ cZ aK aV q_102 ((xs 1)) ((xs 2)) q_103 q_104 q_105 q_106 q_107 q_108 q_109 q_110 q_111 q_112 q_113 q_114 q_115 q_116 q_117 q_118 q_119 q_120 q_121 q_122 q_123 q_124 q_125 q_126 q_127 q_128 q_129 q_130 q_131 q_132 q_133 q_134 q_135 q_136 q_137 q_138 q_139 q_140 q_141 q_142 q_143 q_144 q_145 q_146 q_147 q_148 q_149 q_150) kw1932 kw1929 kw1930 kw1931 kw127 (show XD yX10_grown 2 from by decide +kernel) (by decide) rfl rfl 0 rfl hl.1 rfl (Nat.le_of_ble_eq_true rfl) dL_law_1083 (by decide)) hP hD hS hA [0, 1] [] rfl rfl (by decide) (by decide) (Nat.le_of_ble_eq_true rfl) (Nat.le_of_ble_eq_true rfl) (fun r w1 H locs hpost hP hD hS => ?_)
      obtain rfl := hpost
      have hP := hP.sub (ws' := []) [] rfl
      have hD := hD.sub (ws' := []) [] (by decide) rfl
      refine lv_icmp_eq (tgt := 1527) hx hb dL_law_1086 (by decide) (fun _ => ?_) (fun h => absurd h (by decide +kernel))
      refine lv_iinc (v := 6) (lv' := [(3, .int 6), (2, .ref q_102), (1, .ref q_1), (0, .ref b)]) hx hb dL_law_1527 hl (k := 0) rfl (by decide +kernel) (by decide) rfl (fun ls hl => ?_)
      refine lv_goto (tgt := 18) hx hb dL_law_1530 (by decide) ?_
      refine lv_iload_n hx hb dL_law_18 rfl (lv_at hl 0 rfl) ?_
      refine lv_aload_n hx hb dL_law_19 rfl (lv_at hl 3 rfl) ?_
      refine va_slen hx hb hX hbl hbA hS dL_law_20 ?_
      refine xt_i (v := 6) (by decide +kernel) ?_
      refine lv_bipush (v := 6) hx hb dL_law_21 (by decide +kernel) ?_
      refine lv_isub hx hb dL_law_23 ?_
      refine xt_i (v := 0) (by decide +kernel) ?_
      refine lv_icmp_gt (tgt := 1533) hx hb dL_law_24 (by decide) (fun _ => ?_) (fun h => absurd h (by decide +kernel))
      refine lv_iconst (v := 1) hx hb dL_law_1533 (by decide +kernel) ?_
      refine va_forget (fun q hq => by have z := hS.2.2 q hq; rw [hAe] at z; exact z) ?_
      refine W.widen (k := 600000) (n := 7302250) (Nat.le_of_ble_eq_true rfl) (Nat.le_of_ble_eq_true rfl) ?_
      exact lw_ret hx hb hr hlocks dL_law_1534
    by_cases c_189 : v_157 = 31
    · subst c_189
      have hP := hP.sub (ws' := [(q_1, .inr (9, [.ref q_2, .ref q_3, .ref q_4, .ref q_5, .ref q_6, .ref q_7, .ref q_8, .ref q_9, .ref q_10, .ref q_11, .ref q_12, .ref q_13, .int 0])), (q_4, .inr (8, [.int 0, .int 0, .int 0, .ref q_16, .ref q_17, .ref q_18, .ref q_19, .ref q_20, .ref q_21, .ref q_22, .ref q_23, .ref q_24, .ref q_25, .int 0, .int 1, .int 0, .int 0, .int 0])), (q_102, .inr (10, ((.ref q_103) :: (.ref q_104) :: (.int 0) :: (.int 0) :: (.int 0) :: (.int (-1)) :: (.int 0) :: (.int 0) :: (.int 0) :: (.int 0) :: (.long 0) :: (.ref q_105) :: (.ref q_106) :: (.ref q_107) :: (.ref q_108) :: (.ref q_109) :: (.ref q_110) :: (.ref q_111) :: (.ref q_112) :: (.ref q_113) :: (.ref q_114) :: (.ref q_115) :: (.ref q_116) :: (.ref q_117) :: (.ref q_118) :: (.ref q_119) :: (.ref q_120) :: (.ref q_121) :: (.ref q_122) :: (.ref q_123) :: (.ref q_124) :: (.ref q_125) :: (.ref q_126) :: (.ref q_127) :: (.ref q_128) :: (.ref q_129) :: (.ref q_130) :: (.ref q_131) :: (.ref q_132) :: (.ref q_133) :: (.ref q_134) :: (.int 0) :: (.int 0) :: (.int 0) :: (.int 0) :: (.int 0) :: (.int 0) :: (.int 0) :: (.int 0) :: (.int 0) :: (.ref q_135) :: (.ref q_136) :: (.int 0) :: (.ref q_137) :: (.int 0) :: (.int 0) :: (.int 0) :: (.int 0) :: (.int 0) :: (.int 0) :: (.ref q_138) :: (.int 0) :: (.ref q_139) :: (.ref q_140) :: (.ref q_141) :: (.ref q_142) :: (.ref q_143) :: (.ref q_144) :: (.ref q_145) :: (.ref q_146) :: (.ref q_147) :: (.ref q_148) :: (.int 0) :: (.int 0) :: (.ref q_149) :: (.ref q_150) :: []))), (q_105, .inl (cI, 2, .inl (lst [0, 0]))), (q_107, .inl (cI, 2, .inl (lst [0, 0]))), (q_135, .inl (cI, 27, .inl (lst [(-1), (-1), (-1), (-1), (-1), (-1), (-1), 0, 0, 0, 0, 0, 0, 0, (-1), (-1), (-1), (-1), (-1), (-1), (-1), 0, 0, 0, 0, 0, 0]))), (q_139, .inl (cI, 27, .inl (fun _ => 0)))]) [0, 3, 67, 70, 72, 100, 104] rfl
      have hD := hD.sub (ws' := [(q_1, .inr (9, [.ref q_2, .ref q_3, .ref q_4, .ref q_5, .ref q_6, .ref q_7, .ref q_8, .ref q_9, .ref q_10, .ref q_11, .ref q_12, .ref q_13, .int 0])), (q_4, .inr (8, [.int 0, .int 0, .int 0, .ref q_16, .ref q_17, .ref q_18, .ref q_19, .ref q_20, .ref q_21, .ref q_22, .ref q_23, .ref q_24, .ref q_25, .int 0, .int 1, .int 0, .int 0, .int 0])), (q_102, .inr (10, ((.ref q_103) :: (.ref q_104) :: (.int 0) :: (.int 0) :: (.int 0) :: (.int (-1)) :: (.int 0) :: (.int 0) :: (.int 0) :: (.int 0) :: (.long 0) :: (.ref q_105) :: (.ref q_106) :: (.ref q_107) :: (.ref q_108) :: (.ref q_109) :: (.ref q_110) :: (.ref q_111) :: (.ref q_112) :: (.ref q_113) :: (.ref q_114) :: (.ref q_115) :: (.ref q_116) :: (.ref q_117) :: (.ref q_118) :: (.ref q_119) :: (.ref q_120) :: (.ref q_121) :: (.ref q_122) :: (.ref q_123) :: (.ref q_124) :: (.ref q_125) :: (.ref q_126) :: (.ref q_127) :: (.ref q_128) :: (.ref q_129) :: (.ref q_130) :: (.ref q_131) :: (.ref q_132) :: (.ref q_133) :: (.ref q_134) :: (.int 0) :: (.int 0) :: (.int 0) :: (.int 0) :: (.int 0) :: (.int 0) :: (.int 0) :: (.int 0) :: (.int 0) :: (.ref q_135) :: (.ref q_136) :: (.int 0) :: (.ref q_137) :: (.int 0) :: (.int 0) :: (.int 0) :: (.int 0) :: (.int 0) :: (.int 0) :: (.ref q_138) :: (.int 0) :: (.ref q_139) :: (.ref q_140) :: (.ref q_141) :: (.ref q_142) :: (.ref q_143) :: (.ref q_144) :: (.ref q_145) :: (.ref q_146) :: (.ref q_147) :: (.ref q_148) :: (.int 0) :: (.int 0) :: (.ref q_149) :: (.ref q_150) :: []))), (q_105, .inl (cI, 2, .inl (lst [0, 0]))), (q_107, .inl (cI, 2, .inl (lst [0, 0]))), (q_135, .inl (cI, 27, .inl (lst [(-1), (-1), (-1), (-1), (-1), (-1), (-1), 0, 0, 0, 0, 0, 0, 0, (-1), (-1), (-1), (-1), (-1), (-1), (-1), 0, 0, 0, 0, 0, 0]))), (q_139, .inl (cI, 27, .inl (fun _ => 0)))]) [0, 3, 67, 70, 72, 100, 104] (by decide) rfl
      refine lv_tableIn (off := 1058) (tgt := 1091) hx hb dL_law_33 (by decide) (by decide) (by decide +kernel) (by decide) ?_
      refine lv_aload_n hx hb dL_law_1091 rfl (lv_at hl 2 rfl) ?_
      refine lv_aload_n hx hb dL_law_1092 rfl (lv_at hl 3 rfl) ?_
      refine lv_iload_n hx hb dL_law_1093 rfl (lv_at hl 0 rfl) ?_
      refine lv_iconst (v := 1) hx hb dL_law_1094 (by decide +kernel) ?_
      refine lv_iadd hx hb dL_law_1095 ?_
      refine xt_i (v := 1) (by decide +kernel) ?_
      refine va_sld hx hb hX hbl hbA hS (vin (by decide +kernel)) dL_law_1096 ?_
      refine xt_i (v := xs 1) rfl ?_
      refine xc_core (wr := [(q_102, .inr (10, ((.ref q_103) :: (.ref q_104) :: (.int 0) :: (.int 0) :: (.int 0) :: (.int (-1)) :: (.int 0) :: (.int 0) :: (.int 0) :: (.int 0) :: (.long 0) :: (.ref q_105) :: (.ref q_106) :: (.ref q_107) :: (.ref q_108) :: (.ref q_109) :: (.ref q_110) :: (.ref q_111) :: (.ref q_112) :: (.ref q_113) :: (.ref q_114) :: (.ref q_115) :: (.ref q_116) :: (.ref q_117) :: (.ref q_118) :: (.ref q_119) :: (.ref q_120) :: (.ref q_121) :: (.ref q_122) :: (.ref q_123) :: (.ref q_124) :: (.ref q_125) :: (.ref q_126) :: (.ref q_127) :: (.ref q_128) :: (.ref q_129) :: (.ref q_130) :: (.ref q_131) :: (.ref q_132) :: (.ref q_133) :: (.ref q_134) :: (.int 0) :: (.int 0) :: (.int 0) :: (.int 0) :: (.int 0) :: (.int 0) :: (.int 0) :: (.int 0) :: (.int 0) :: (.ref q_135) :: (.ref q_136) :: (.int 0) :: (.ref q_137) :: (.int 0) :: (.int 0) :: (.int 0) :: (.int 0) :: (.int 0) :: (.int 0) :: (.ref q_138) :: (.int 0) :: (.ref q_139) :: (.ref q_140) :: (.ref q_141) :: (.ref q_142) :: (.ref q_143) :: (.ref q_144) :: (.ref q_145) :: (.ref q_146) :: (.ref q_147) :: (.ref q_148) :: (.int 0) :: (.int 0) :: (.ref q_149) :: (.ref q_150) :: []))), (q_105, .inl (cI, 2, .inl (lst [0, 0]))), (q_107, .inl (cI, 2, .inl (lst [0, 0]))), (q_135, .inl (cI, 27, .inl (lst [(-1), (-1), (-1), (-1), (-1), (-1), (-1), 0, 0, 0, 0, 0, 0, 0, (-1), (-1), (-1), (-1), (-1), (-1), (-1), 0, 0, 0, 0, 0, 0]))), (q_139, .inl (cI, 27, .inl (fun _ => 0)))]) (k := 116) (n := 11963) (xc_runV (As := [.int (xs 1)]) (rest := []) hx hb hml hown hts hG hE hP hD hS hA [0, 1] (by decide) rfl (cX9_richest_1 l D cB cI cJ cZ aK aV q_1 ((xs 1)) q_2 q_3 q_4 q_5 q_6 q_7 q_8 q_9 q_10 q_11 q_12 q_13 q_16 q_17 q_18 q_19 q_20 q_21 q_22 q_23 q_24 q_25) kw1164 kw1161 kw1162 kw1163 kw112 (show XD yX9_richest 1 from by decide +kernel) (by decide) rfl rfl 0 rfl hl.1 rfl (Nat.le_of_ble_eq_true rfl) dL_law_1097 (by decide)) hP hD hS hA [0, 1] [2, 3, 4, 5, 6] rfl rfl (by decide) (by decide) (Nat.le_of_ble_eq_true rfl) (Nat.le_of_ble_eq_true rfl) (fun r w1 H locs hpost hP hD hS => ?_)
      obtain rfl := hpost
      have hP := hP.sub (ws' := [(q_102, .inr (10, ((.ref q_103) :: (.ref q_104) :: (.int 0) :: (.int 0) :: (.int 0) :: (.int (-1)) :: (.int 0) :: (.int 0) :: (.int 0) :: (.int 0) :: (.long 0) :: (.ref q_105) :: (.ref q_106) :: (.ref q_107) :: (.ref q_108) :: (.ref q_109) :: (.ref q_110) :: (.ref q_111) :: (.ref q_112) :: (.ref q_113) :: (.ref q_114) :: (.ref q_115) :: (.ref q_116) :: (.ref q_117) :: (.ref q_118) :: (.ref q_119) :: (.ref q_120) :: (.ref q_121) :: (.ref q_122) :: (.ref q_123) :: (.ref q_124) :: (.ref q_125) :: (.ref q_126) :: (.ref q_127) :: (.ref q_128) :: (.ref q_129) :: (.ref q_130) :: (.ref q_131) :: (.ref q_132) :: (.ref q_133) :: (.ref q_134) :: (.int 0) :: (.int 0) :: (.int 0) :: (.int 0) :: (.int 0) :: (.int 0) :: (.int 0) :: (.int 0) :: (.int 0) :: (.ref q_135) :: (.ref q_136) :: (.int 0) :: (.ref q_137) :: (.int 0) :: (.int 0) :: (.int 0) :: (.int 0) :: (.int 0) :: (.int 0) :: (.ref q_138) :: (.int 0) :: (.ref q_139) :: (.ref q_140) :: (.ref q_141) :: (.ref q_142) :: (.ref q_143) :: (.ref q_144) :: (.ref q_145) :: (.ref q_146) :: (.ref q_147) :: (.ref q_148) :: (.int 0) :: (.int 0) :: (.ref q_149) :: (.ref q_150) :: []))), (q_105, .inl (cI, 2, .inl (lst [0, 0]))), (q_107, .inl (cI, 2, .inl (lst [0, 0]))), (q_135, .inl (cI, 27, .inl (lst [(-1), (-1), (-1), (-1), (-1), (-1), (-1), 0, 0, 0, 0, 0, 0, 0, (-1), (-1), (-1), (-1), (-1), (-1), (-1), 0, 0, 0, 0, 0, 0]))), (q_139, .inl (cI, 27, .inl (fun _ => 0)))]) [0, 1, 2, 3, 4] rfl
      have hD := hD.sub (ws' := [(q_102, .inr (10, ((.ref q_103) :: (.ref q_104) :: (.int 0) :: (.int 0) :: (.int 0) :: (.int (-1)) :: (.int 0) :: (.int 0) :: (.int 0) :: (.int 0) :: (.long 0) :: (.ref q_105) :: (.ref q_106) :: (.ref q_107) :: (.ref q_108) :: (.ref q_109) :: (.ref q_110) :: (.ref q_111) :: (.ref q_112) :: (.ref q_113) :: (.ref q_114) :: (.ref q_115) :: (.ref q_116) :: (.ref q_117) :: (.ref q_118) :: (.ref q_119) :: (.ref q_120) :: (.ref q_121) :: (.ref q_122) :: (.ref q_123) :: (.ref q_124) :: (.ref q_125) :: (.ref q_126) :: (.ref q_127) :: (.ref q_128) :: (.ref q_129) :: (.ref q_130) :: (.ref q_131) :: (.ref q_132) :: (.ref q_133) :: (.ref q_134) :: (.int 0) :: (.int 0) :: (.int 0) :: (.int 0) :: (.int 0) :: (.int 0) :: (.int 0) :: (.int 0) :: (.int 0) :: (.ref q_135) :: (.ref q_136) :: (.int 0) :: (.ref q_137) :: (.int 0) :: (.int 0) :: (.int 0) :: (.int 0) :: (.int 0) :: (.int 0) :: (.ref q_138) :: (.int 0) :: (.ref q_139) :: (.ref q_140) :: (.ref q_141) :: (.ref q_142) :: (.ref q_143) :: (.ref q_144) :: (.ref q_145) :: (.ref q_146) :: (.ref q_147) :: (.ref q_148) :: (.int 0) :: (.int 0) :: (.ref q_149) :: (.ref q_150) :: []))), (q_105, .inl (cI, 2, .inl (lst [0, 0]))), (q_107, .inl (cI, 2, .inl (lst [0, 0]))), (q_135, .inl (cI, 27, .inl (lst [(-1), (-1), (-1), (-1), (-1), (-1), (-1), 0, 0, 0, 0, 0, 0, 0, (-1), (-1), (-1), (-1), (-1), (-1), (-1), 0, 0, 0, 0, 0, 0]))), (q_139, .inl (cI, 27, .inl (fun _ => 0)))]) [0, 1, 2, 3, 4] (by decide) rfl
      refine lv_aload_n hx hb dL_law_1100 rfl (lv_at hl 1 rfl) ?_
      refine lv_aload_n hx hb dL_law_1101 rfl (lv_at hl 3 rfl) ?_
      refine lv_iload_n hx hb dL_law_1102 rfl (lv_at hl 0 rfl) ?_
      refine lv_iconst (v := 1) hx hb dL_law_1103 (by decide +kernel) ?_
      refine lv_iadd hx hb dL_law_1104 ?_
      refine xt_i (v := 1) (by decide +kernel) ?_
      refine va_sld hx hb hX hbl hbA hS (vin (by decide +kernel)) dL_law_1105 ?_
      refine xt_i (v := xs 1) rfl ?_
      refine xc_core (wr := []) (k := 116) (n := 11963) (xc_runV (As := [.int (xs 1)]) (rest := [.int (-1)]) hx hb hml hown hts hG hE hP hD hS hA [0, 1, 2, 3, 4] (by decide) rfl (cX10_richest_1 l D cB cI cJ cZ aK aV q_102 ((xs 1)) q_103 q_104 q_105 q_106 q_107 q_108 q_109 q_110 q_111 q_112 q_113 q_114 q_115 q_116 q_117 q_118 q_119 q_120 q_121 q_122 q_123 q_124 q_125 q_126 q_127 q_128 q_129 q_130 q_131 q_132 q_133 q_134 q_135 q_136 q_137 q_138 q_139 q_140 q_141 q_142 q_143 q_144 q_145 q_146 q_147 q_148 q_149 q_150 ((lst [(-1), (-1), (-1), (-1), (-1), (-1), (-1), 0, 0, 0, 0, 0, 0, 0, (-1), (-1), (-1), (-1), (-1), (-1), (-1), 0, 0, 0, 0, 0, 0])) ((fun _ => 0))) kw1936 kw1933 kw1934 kw1935 kw127 (show XD yX10_richest 1 from by decide +kernel) (by decide) rfl rfl 0 rfl hl.1 rfl (Nat.le_of_ble_eq_true rfl) dL_law_1106 (by decide)) hP hD hS hA [0, 1, 2, 3, 4] [] rfl rfl (by decide) (by decide) (Nat.le_of_ble_eq_true rfl) (Nat.le_of_ble_eq_true rfl) (fun r w1 H locs hpost hP hD hS => ?_)
      obtain rfl := hpost
      have hP := hP.sub (ws' := []) [] rfl
      have hD := hD.sub (ws' := []) [] (by decide) rfl
      refine lv_icmp_eq (tgt := 1527) hx hb dL_law_1109 (by decide) (fun _ => ?_) (fun h => absurd h (by decide +kernel))
      refine lv_iinc (v := 6) (lv' := [(3, .int 6), (2, .ref q_102), (1, .ref q_1), (0, .ref b)]) hx hb dL_law_1527 hl (k := 0) rfl (by decide +kernel) (by decide) rfl (fun ls hl => ?_)
      refine lv_goto (tgt := 18) hx hb dL_law_1530 (by decide) ?_
      refine lv_iload_n hx hb dL_law_18 rfl (lv_at hl 0 rfl) ?_
      refine lv_aload_n hx hb dL_law_19 rfl (lv_at hl 3 rfl) ?_
      refine va_slen hx hb hX hbl hbA hS dL_law_20 ?_
      refine xt_i (v := 6) (by decide +kernel) ?_
      refine lv_bipush (v := 6) hx hb dL_law_21 (by decide +kernel) ?_
      refine lv_isub hx hb dL_law_23 ?_
      refine xt_i (v := 0) (by decide +kernel) ?_
      refine lv_icmp_gt (tgt := 1533) hx hb dL_law_24 (by decide) (fun _ => ?_) (fun h => absurd h (by decide +kernel))
      refine lv_iconst (v := 1) hx hb dL_law_1533 (by decide +kernel) ?_
      refine va_forget (fun q hq => by have z := hS.2.2 q hq; rw [hAe] at z; exact z) ?_
      refine W.widen (k := 600000) (n := 7302250) (Nat.le_of_ble_eq_true rfl) (Nat.le_of_ble_eq_true rfl) ?_
      exact lw_ret hx hb hr hlocks dL_law_1534
    by_cases c_190 : v_157 = 32
    · subst c_190
      have hP := hP.sub (ws' := [(q_1, .inr (9, [.ref q_2, .ref q_3, .ref q_4, .ref q_5, .ref q_6, .ref q_7, .ref q_8, .ref q_9, .ref q_10, .ref q_11, .ref q_12, .ref q_13, .int 0])), (q_4, .inr (8, [.int 0, .int 0, .int 0, .ref q_16, .ref q_17, .ref q_18, .ref q_19, .ref q_20, .ref q_21, .ref q_22, .ref q_23, .ref q_24, .ref q_25, .int 0, .int 1, .int 0, .int 0, .int 0])), (q_102, .inr (10, ((.ref q_103) :: (.ref q_104) :: (.int 0) :: (.int 0) :: (.int 0) :: (.int (-1)) :: (.int 0) :: (.int 0) :: (.int 0) :: (.int 0) :: (.long 0) :: (.ref q_105) :: (.ref q_106) :: (.ref q_107) :: (.ref q_108) :: (.ref q_109) :: (.ref q_110) :: (.ref q_111) :: (.ref q_112) :: (.ref q_113) :: (.ref q_114) :: (.ref q_115) :: (.ref q_116) :: (.ref q_117) :: (.ref q_118) :: (.ref q_119) :: (.ref q_120) :: (.ref q_121) :: (.ref q_122) :: (.ref q_123) :: (.ref q_124) :: (.ref q_125) :: (.ref q_126) :: (.ref q_127) :: (.ref q_128) :: (.ref q_129) :: (.ref q_130) :: (.ref q_131) :: (.ref q_132) :: (.ref q_133) :: (.ref q_134) :: (.int 0) :: (.int 0) :: (.int 0) :: (.int 0) :: (.int 0) :: (.int 0) :: (.int 0) :: (.int 0) :: (.int 0) :: (.ref q_135) :: (.ref q_136) :: (.int 0) :: (.ref q_137) :: (.int 0) :: (.int 0) :: (.int 0) :: (.int 0) :: (.int 0) :: (.int 0) :: (.ref q_138) :: (.int 0) :: (.ref q_139) :: (.ref q_140) :: (.ref q_141) :: (.ref q_142) :: (.ref q_143) :: (.ref q_144) :: (.ref q_145) :: (.ref q_146) :: (.ref q_147) :: (.ref q_148) :: (.int 0) :: (.int 0) :: (.ref q_149) :: (.ref q_150) :: []))), (q_107, .inl (cI, 2, .inl (lst [0, 0])))]) [0, 3, 67, 72] rfl
      have hD := hD.sub (ws' := [(q_1, .inr (9, [.ref q_2, .ref q_3, .ref q_4, .ref q_5, .ref q_6, .ref q_7, .ref q_8, .ref q_9, .ref q_10, .ref q_11, .ref q_12, .ref q_13, .int 0])), (q_4, .inr (8, [.int 0, .int 0, .int 0, .ref q_16, .ref q_17, .ref q_18, .ref q_19, .ref q_20, .ref q_21, .ref q_22, .ref q_23, .ref q_24, .ref q_25, .int 0, .int 1, .int 0, .int 0, .int 0])), (q_102, .inr (10, ((.ref q_103) :: (.ref q_104) :: (.int 0) :: (.int 0) :: (.int 0) :: (.int (-1)) :: (.int 0) :: (.int 0) :: (.int 0) :: (.int 0) :: (.long 0) :: (.ref q_105) :: (.ref q_106) :: (.ref q_107) :: (.ref q_108) :: (.ref q_109) :: (.ref q_110) :: (.ref q_111) :: (.ref q_112) :: (.ref q_113) :: (.ref q_114) :: (.ref q_115) :: (.ref q_116) :: (.ref q_117) :: (.ref q_118) :: (.ref q_119) :: (.ref q_120) :: (.ref q_121) :: (.ref q_122) :: (.ref q_123) :: (.ref q_124) :: (.ref q_125) :: (.ref q_126) :: (.ref q_127) :: (.ref q_128) :: (.ref q_129) :: (.ref q_130) :: (.ref q_131) :: (.ref q_132) :: (.ref q_133) :: (.ref q_134) :: (.int 0) :: (.int 0) :: (.int 0) :: (.int 0) :: (.int 0) :: (.int 0) :: (.int 0) :: (.int 0) :: (.int 0) :: (.ref q_135) :: (.ref q_136) :: (.int 0) :: (.ref q_137) :: (.int 0) :: (.int 0) :: (.int 0) :: (.int 0) :: (.int 0) :: (.int 0) :: (.ref q_138) :: (.int 0) :: (.ref q_139) :: (.ref q_140) :: (.ref q_141) :: (.ref q_142) :: (.ref q_143) :: (.ref q_144) :: (.ref q_145) :: (.ref q_146) :: (.ref q_147) :: (.ref q_148) :: (.int 0) :: (.int 0) :: (.ref q_149) :: (.ref q_150) :: []))), (q_107, .inl (cI, 2, .inl (lst [0, 0])))]) [0, 3, 67, 72] (by decide) rfl
      refine lv_tableIn (off := 1081) (tgt := 1114) hx hb dL_law_33 (by decide) (by decide) (by decide +kernel) (by decide) ?_
      refine lv_aload_n hx hb dL_law_1114 rfl (lv_at hl 2 rfl) ?_
      refine lv_aload_n hx hb dL_law_1115 rfl (lv_at hl 3 rfl) ?_
      refine lv_iload_n hx hb dL_law_1116 rfl (lv_at hl 0 rfl) ?_
      refine lv_iconst (v := 1) hx hb dL_law_1117 (by decide +kernel) ?_
      refine lv_iadd hx hb dL_law_1118 ?_
      refine xt_i (v := 1) (by decide +kernel) ?_
      refine va_sld hx hb hX hbl hbA hS (vin (by decide +kernel)) dL_law_1119 ?_
      refine xt_i (v := xs 1) rfl ?_
      refine lv_aload_n hx hb dL_law_1120 rfl (lv_at hl 3 rfl) ?_
      refine lv_iload_n hx hb dL_law_1121 rfl (lv_at hl 0 rfl) ?_
      refine lv_iconst (v := 2) hx hb dL_law_1122 (by decide +kernel) ?_
      refine lv_iadd hx hb dL_law_1123 ?_
      refine xt_i (v := 2) (by decide +kernel) ?_
      refine va_sld hx hb hX hbl hbA hS (vin (by decide +kernel)) dL_law_1124 ?_
      refine xt_i (v := xs 2) rfl ?_
      refine xc_core (wr := [(q_102, .inr (10, ((.ref q_103) :: (.ref q_104) :: (.int 0) :: (.int 0) :: (.int 0) :: (.int (-1)) :: (.int 0) :: (.int 0) :: (.int 0) :: (.int 0) :: (.long 0) :: (.ref q_105) :: (.ref q_106) :: (.ref q_107) :: (.ref q_108) :: (.ref q_109) :: (.ref q_110) :: (.ref q_111) :: (.ref q_112) :: (.ref q_113) :: (.ref q_114) :: (.ref q_115) :: (.ref q_116) :: (.ref q_117) :: (.ref q_118) :: (.ref q_119) :: (.ref q_120) :: (.ref q_121) :: (.ref q_122) :: (.ref q_123) :: (.ref q_124) :: (.ref q_125) :: (.ref q_126) :: (.ref q_127) :: (.ref q_128) :: (.ref q_129) :: (.ref q_130) :: (.ref q_131) :: (.ref q_132) :: (.ref q_133) :: (.ref q_134) :: (.int 0) :: (.int 0) :: (.int 0) :: (.int 0) :: (.int 0) :: (.int 0) :: (.int 0) :: (.int 0) :: (.int 0) :: (.ref q_135) :: (.ref q_136) :: (.int 0) :: (.ref q_137) :: (.int 0) :: (.int 0) :: (.int 0) :: (.int 0) :: (.int 0) :: (.int 0) :: (.ref q_138) :: (.int 0) :: (.ref q_139) :: (.ref q_140) :: (.ref q_141) :: (.ref q_142) :: (.ref q_143) :: (.ref q_144) :: (.ref q_145) :: (.ref q_146) :: (.ref q_147) :: (.ref q_148) :: (.int 0) :: (.int 0) :: (.ref q_149) :: (.ref q_150) :: []))), (q_107, .inl (cI, 2, .inl (lst [0, 0])))]) (k := 116) (n := 11963) (xc_runV (As := [.int (xs 1), .int (xs 2)]) (rest := []) hx hb hml hown hts hG hE hP hD hS hA [0, 1] (by decide) rfl (cX9_odds_1 l D cB cI cJ cZ aK aV q_1 ((xs 1)) ((xs 2)) q_2 q_3 q_4 q_5 q_6 q_7 q_8 q_9 q_10 q_11 q_12 q_13 q_16 q_17 q_18 q_19 q_20 q_21 q_22 q_23 q_24 q_25) kw1168 kw1165 kw1166 kw1167 kw112 (show XD yX9_odds 2 from by decide +kernel) (by decide) rfl rfl 0 rfl hl.1 rfl (Nat.le_of_ble_eq_true rfl) dL_law_1125 (by decide)) hP hD hS hA [0, 1] [2, 3] rfl rfl (by decide) (by decide) (Nat.le_of_ble_eq_true rfl) (Nat.le_of_ble_eq_true rfl) (fun r w1 H locs hpost hP hD hS => ?_)
      obtain rfl := hpost
      have hP := hP.sub (ws' := [(q_102, .inr (10, ((.ref q_103) :: (.ref q_104) :: (.int 0) :: (.int 0) :: (.int 0) :: (.int (-1)) :: (.int 0) :: (.int 0) :: (.int 0) :: (.int 0) :: (.long 0) :: (.ref q_105) :: (.ref q_106) :: (.ref q_107) :: (.ref q_108) :: (.ref q_109) :: (.ref q_110) :: (.ref q_111) :: (.ref q_112) :: (.ref q_113) :: (.ref q_114) :: (.ref q_115) :: (.ref q_116) :: (.ref q_117) :: (.ref q_118) :: (.ref q_119) :: (.ref q_120) :: (.ref q_121) :: (.ref q_122) :: (.ref q_123) :: (.ref q_124) :: (.ref q_125) :: (.ref q_126) :: (.ref q_127) :: (.ref q_128) :: (.ref q_129) :: (.ref q_130) :: (.ref q_131) :: (.ref q_132) :: (.ref q_133) :: (.ref q_134) :: (.int 0) :: (.int 0) :: (.int 0) :: (.int 0) :: (.int 0) :: (.int 0) :: (.int 0) :: (.int 0) :: (.int 0) :: (.ref q_135) :: (.ref q_136) :: (.int 0) :: (.ref q_137) :: (.int 0) :: (.int 0) :: (.int 0) :: (.int 0) :: (.int 0) :: (.int 0) :: (.ref q_138) :: (.int 0) :: (.ref q_139) :: (.ref q_140) :: (.ref q_141) :: (.ref q_142) :: (.ref q_143) :: (.ref q_144) :: (.ref q_145) :: (.ref q_146) :: (.ref q_147) :: (.ref q_148) :: (.int 0) :: (.int 0) :: (.ref q_149) :: (.ref q_150) :: []))), (q_107, .inl (cI, 2, .inl (lst [0, 0])))]) [0, 1] rfl
      have hD := hD.sub (ws' := [(q_102, .inr (10, ((.ref q_103) :: (.ref q_104) :: (.int 0) :: (.int 0) :: (.int 0) :: (.int (-1)) :: (.int 0) :: (.int 0) :: (.int 0) :: (.int 0) :: (.long 0) :: (.ref q_105) :: (.ref q_106) :: (.ref q_107) :: (.ref q_108) :: (.ref q_109) :: (.ref q_110) :: (.ref q_111) :: (.ref q_112) :: (.ref q_113) :: (.ref q_114) :: (.ref q_115) :: (.ref q_116) :: (.ref q_117) :: (.ref q_118) :: (.ref q_119) :: (.ref q_120) :: (.ref q_121) :: (.ref q_122) :: (.ref q_123) :: (.ref q_124) :: (.ref q_125) :: (.ref q_126) :: (.ref q_127) :: (.ref q_128) :: (.ref q_129) :: (.ref q_130) :: (.ref q_131) :: (.ref q_132) :: (.ref q_133) :: (.ref q_134) :: (.int 0) :: (.int 0) :: (.int 0) :: (.int 0) :: (.int 0) :: (.int 0) :: (.int 0) :: (.int 0) :: (.int 0) :: (.ref q_135) :: (.ref q_136) :: (.int 0) :: (.ref q_137) :: (.int 0) :: (.int 0) :: (.int 0) :: (.int 0) :: (.int 0) :: (.int 0) :: (.ref q_138) :: (.int 0) :: (.ref q_139) :: (.ref q_140) :: (.ref q_141) :: (.ref q_142) :: (.ref q_143) :: (.ref q_144) :: (.ref q_145) :: (.ref q_146) :: (.ref q_147) :: (.ref q_148) :: (.int 0) :: (.int 0) :: (.ref q_149) :: (.ref q_150) :: []))), (q_107, .inl (cI, 2, .inl (lst [0, 0])))]) [0, 1] (by decide) rfl
      refine lv_aload_n hx hb dL_law_1128 rfl (lv_at hl 1 rfl) ?_
      refine lv_aload_n hx hb dL_law_1129 rfl (lv_at hl 3 rfl) ?_
      refine lv_iload_n hx hb dL_law_1130 rfl (lv_at hl 0 rfl) ?_
      refine lv_iconst (v := 1) hx hb dL_law_1131 (by decide +kernel) ?_
      refine lv_iadd hx hb dL_law_1132 ?_
      refine xt_i (v := 1) (by decide +kernel) ?_
      refine va_sld hx hb hX hbl hbA hS (vin (by decide +kernel)) dL_law_1133 ?_
      refine xt_i (v := xs 1) rfl ?_
      refine lv_aload_n hx hb dL_law_1134 rfl (lv_at hl 3 rfl) ?_
      refine lv_iload_n hx hb dL_law_1135 rfl (lv_at hl 0 rfl) ?_
      refine lv_iconst (v := 2) hx hb dL_law_1136 (by decide +kernel) ?_
      refine lv_iadd hx hb dL_law_1137 ?_
      refine xt_i (v := 2) (by decide +kernel) ?_
      refine va_sld hx hb hX hbl hbA hS (vin (by decide +kernel)) dL_law_1138 ?_
      refine xt_i (v := xs 2) rfl ?_
      refine xc_core (wr := []) (k := 116) (n := 11963) (xc_runV (As := [.int (xs 1), .int (xs 2)]) (rest := [.int (-1)]) hx hb hml hown hts hG hE hP hD hS hA [0, 1] (by decide) rfl (cX10_odds_1 l D cB cI cJ cZ aK aV q_102 ((xs 1)) ((xs 2)) q_103 q_104 q_105 q_106 q_107 q_108 q_109 q_110 q_111 q_112 q_113 q_114 q_115 q_116 q_117 q_118 q_119 q_120 q_121 q_122 q_123 q_124 q_125 q_126 q_127 q_128 q_129 q_130 q_131 q_132 q_133 q_134 q_135 q_136 q_137 q_138 q_139 q_140 q_141 q_142 q_143 q_144 q_145 q_146 q_147 q_148 q_149 q_150) kw1940 kw1937 kw1938 kw1939 kw127 (show XD yX10_odds 2 from by decide +kernel) (by decide) rfl rfl 0 rfl hl.1 rfl (Nat.le_of_ble_eq_true rfl) dL_law_1139 (by decide)) hP hD hS hA [0, 1] [] rfl rfl (by decide) (by decide) (Nat.le_of_ble_eq_true rfl) (Nat.le_of_ble_eq_true rfl) (fun r w1 H locs hpost hP hD hS => ?_)
      obtain rfl := hpost
      have hP := hP.sub (ws' := []) [] rfl
      have hD := hD.sub (ws' := []) [] (by decide) rfl
      refine lv_icmp_eq (tgt := 1527) hx hb dL_law_1142 (by decide) (fun _ => ?_) (fun h => absurd h (by decide +kernel))
      refine lv_iinc (v := 6) (lv' := [(3, .int 6), (2, .ref q_102), (1, .ref q_1), (0, .ref b)]) hx hb dL_law_1527 hl (k := 0) rfl (by decide +kernel) (by decide) rfl (fun ls hl => ?_)
      refine lv_goto (tgt := 18) hx hb dL_law_1530 (by decide) ?_
      refine lv_iload_n hx hb dL_law_18 rfl (lv_at hl 0 rfl) ?_
      refine lv_aload_n hx hb dL_law_19 rfl (lv_at hl 3 rfl) ?_
      refine va_slen hx hb hX hbl hbA hS dL_law_20 ?_
      refine xt_i (v := 6) (by decide +kernel) ?_
      refine lv_bipush (v := 6) hx hb dL_law_21 (by decide +kernel) ?_
      refine lv_isub hx hb dL_law_23 ?_
      refine xt_i (v := 0) (by decide +kernel) ?_
      refine lv_icmp_gt (tgt := 1533) hx hb dL_law_24 (by decide) (fun _ => ?_) (fun h => absurd h (by decide +kernel))
      refine lv_iconst (v := 1) hx hb dL_law_1533 (by decide +kernel) ?_
      refine va_forget (fun q hq => by have z := hS.2.2 q hq; rw [hAe] at z; exact z) ?_
      refine W.widen (k := 600000) (n := 7302250) (Nat.le_of_ble_eq_true rfl) (Nat.le_of_ble_eq_true rfl) ?_
      exact lw_ret hx hb hr hlocks dL_law_1534
    by_cases c_191 : v_157 = 33
    · subst c_191
      have hP := hP.sub (ws' := [(q_1, .inr (9, [.ref q_2, .ref q_3, .ref q_4, .ref q_5, .ref q_6, .ref q_7, .ref q_8, .ref q_9, .ref q_10, .ref q_11, .ref q_12, .ref q_13, .int 0])), (q_11, .inr (5, [.ref q_101, .int 0])), (q_102, .inr (10, ((.ref q_103) :: (.ref q_104) :: (.int 0) :: (.int 0) :: (.int 0) :: (.int (-1)) :: (.int 0) :: (.int 0) :: (.int 0) :: (.int 0) :: (.long 0) :: (.ref q_105) :: (.ref q_106) :: (.ref q_107) :: (.ref q_108) :: (.ref q_109) :: (.ref q_110) :: (.ref q_111) :: (.ref q_112) :: (.ref q_113) :: (.ref q_114) :: (.ref q_115) :: (.ref q_116) :: (.ref q_117) :: (.ref q_118) :: (.ref q_119) :: (.ref q_120) :: (.ref q_121) :: (.ref q_122) :: (.ref q_123) :: (.ref q_124) :: (.ref q_125) :: (.ref q_126) :: (.ref q_127) :: (.ref q_128) :: (.ref q_129) :: (.ref q_130) :: (.ref q_131) :: (.ref q_132) :: (.ref q_133) :: (.ref q_134) :: (.int 0) :: (.int 0) :: (.int 0) :: (.int 0) :: (.int 0) :: (.int 0) :: (.int 0) :: (.int 0) :: (.int 0) :: (.ref q_135) :: (.ref q_136) :: (.int 0) :: (.ref q_137) :: (.int 0) :: (.int 0) :: (.int 0) :: (.int 0) :: (.int 0) :: (.int 0) :: (.ref q_138) :: (.int 0) :: (.ref q_139) :: (.ref q_140) :: (.ref q_141) :: (.ref q_142) :: (.ref q_143) :: (.ref q_144) :: (.ref q_145) :: (.ref q_146) :: (.ref q_147) :: (.ref q_148) :: (.int 0) :: (.int 0) :: (.ref q_149) :: (.ref q_150) :: [])))]) [0, 63, 67] rfl
      have hD := hD.sub (ws' := [(q_1, .inr (9, [.ref q_2, .ref q_3, .ref q_4, .ref q_5, .ref q_6, .ref q_7, .ref q_8, .ref q_9, .ref q_10, .ref q_11, .ref q_12, .ref q_13, .int 0])), (q_11, .inr (5, [.ref q_101, .int 0])), (q_102, .inr (10, ((.ref q_103) :: (.ref q_104) :: (.int 0) :: (.int 0) :: (.int 0) :: (.int (-1)) :: (.int 0) :: (.int 0) :: (.int 0) :: (.int 0) :: (.long 0) :: (.ref q_105) :: (.ref q_106) :: (.ref q_107) :: (.ref q_108) :: (.ref q_109) :: (.ref q_110) :: (.ref q_111) :: (.ref q_112) :: (.ref q_113) :: (.ref q_114) :: (.ref q_115) :: (.ref q_116) :: (.ref q_117) :: (.ref q_118) :: (.ref q_119) :: (.ref q_120) :: (.ref q_121) :: (.ref q_122) :: (.ref q_123) :: (.ref q_124) :: (.ref q_125) :: (.ref q_126) :: (.ref q_127) :: (.ref q_128) :: (.ref q_129) :: (.ref q_130) :: (.ref q_131) :: (.ref q_132) :: (.ref q_133) :: (.ref q_134) :: (.int 0) :: (.int 0) :: (.int 0) :: (.int 0) :: (.int 0) :: (.int 0) :: (.int 0) :: (.int 0) :: (.int 0) :: (.ref q_135) :: (.ref q_136) :: (.int 0) :: (.ref q_137) :: (.int 0) :: (.int 0) :: (.int 0) :: (.int 0) :: (.int 0) :: (.int 0) :: (.ref q_138) :: (.int 0) :: (.ref q_139) :: (.ref q_140) :: (.ref q_141) :: (.ref q_142) :: (.ref q_143) :: (.ref q_144) :: (.ref q_145) :: (.ref q_146) :: (.ref q_147) :: (.ref q_148) :: (.int 0) :: (.int 0) :: (.ref q_149) :: (.ref q_150) :: [])))]) [0, 63, 67] (by decide) rfl
      refine lv_tableIn (off := 1114) (tgt := 1147) hx hb dL_law_33 (by decide) (by decide) (by decide +kernel) (by decide) ?_
      refine lv_aload_n hx hb dL_law_1147 rfl (lv_at hl 2 rfl) ?_
      refine lv_aload_n hx hb dL_law_1148 rfl (lv_at hl 3 rfl) ?_
      refine lv_iload_n hx hb dL_law_1149 rfl (lv_at hl 0 rfl) ?_
      refine lv_iconst (v := 1) hx hb dL_law_1150 (by decide +kernel) ?_
      refine lv_iadd hx hb dL_law_1151 ?_
      refine xt_i (v := 1) (by decide +kernel) ?_
      refine va_sld hx hb hX hbl hbA hS (vin (by decide +kernel)) dL_law_1152 ?_
      refine xt_i (v := xs 1) rfl ?_
      refine xc_core (wr := [(q_102, .inr (10, ((.ref q_103) :: (.ref q_104) :: (.int 0) :: (.int 0) :: (.int 0) :: (.int (-1)) :: (.int 0) :: (.int 0) :: (.int 0) :: (.int 0) :: (.long 0) :: (.ref q_105) :: (.ref q_106) :: (.ref q_107) :: (.ref q_108) :: (.ref q_109) :: (.ref q_110) :: (.ref q_111) :: (.ref q_112) :: (.ref q_113) :: (.ref q_114) :: (.ref q_115) :: (.ref q_116) :: (.ref q_117) :: (.ref q_118) :: (.ref q_119) :: (.ref q_120) :: (.ref q_121) :: (.ref q_122) :: (.ref q_123) :: (.ref q_124) :: (.ref q_125) :: (.ref q_126) :: (.ref q_127) :: (.ref q_128) :: (.ref q_129) :: (.ref q_130) :: (.ref q_131) :: (.ref q_132) :: (.ref q_133) :: (.ref q_134) :: (.int 0) :: (.int 0) :: (.int 0) :: (.int 0) :: (.int 0) :: (.int 0) :: (.int 0) :: (.int 0) :: (.int 0) :: (.ref q_135) :: (.ref q_136) :: (.int 0) :: (.ref q_137) :: (.int 0) :: (.int 0) :: (.int 0) :: (.int 0) :: (.int 0) :: (.int 0) :: (.ref q_138) :: (.int 0) :: (.ref q_139) :: (.ref q_140) :: (.ref q_141) :: (.ref q_142) :: (.ref q_143) :: (.ref q_144) :: (.ref q_145) :: (.ref q_146) :: (.ref q_147) :: (.ref q_148) :: (.int 0) :: (.int 0) :: (.ref q_149) :: (.ref q_150) :: [])))]) (k := 116) (n := 11963) (xc_runV (As := [.int (xs 1)]) (rest := []) hx hb hml hown hts hG hE hP hD hS hA [0, 1] (by decide) rfl (cX9_lies_1 l D cB cI cJ cZ aK aV q_1 ((xs 1)) q_2 q_3 q_4 q_5 q_6 q_7 q_8 q_9 q_10 q_11 q_12 q_13 q_101) kw1175 kw1172 kw1173 kw1174 kw112 (show XD yX9_lies 1 from by decide +kernel) (by decide) rfl rfl 0 rfl hl.1 rfl (Nat.le_of_ble_eq_true rfl) dL_law_1153 (by decide)) hP hD hS hA [0, 1] [2] rfl rfl (by decide) (by decide) (Nat.le_of_ble_eq_true rfl) (Nat.le_of_ble_eq_true rfl) (fun r w1 H locs hpost hP hD hS => ?_)
      obtain rfl := hpost
      have hP := hP.sub (ws' := [(q_102, .inr (10, ((.ref q_103) :: (.ref q_104) :: (.int 0) :: (.int 0) :: (.int 0) :: (.int (-1)) :: (.int 0) :: (.int 0) :: (.int 0) :: (.int 0) :: (.long 0) :: (.ref q_105) :: (.ref q_106) :: (.ref q_107) :: (.ref q_108) :: (.ref q_109) :: (.ref q_110) :: (.ref q_111) :: (.ref q_112) :: (.ref q_113) :: (.ref q_114) :: (.ref q_115) :: (.ref q_116) :: (.ref q_117) :: (.ref q_118) :: (.ref q_119) :: (.ref q_120) :: (.ref q_121) :: (.ref q_122) :: (.ref q_123) :: (.ref q_124) :: (.ref q_125) :: (.ref q_126) :: (.ref q_127) :: (.ref q_128) :: (.ref q_129) :: (.ref q_130) :: (.ref q_131) :: (.ref q_132) :: (.ref q_133) :: (.ref q_134) :: (.int 0) :: (.int 0) :: (.int 0) :: (.int 0) :: (.int 0) :: (.int 0) :: (.int 0) :: (.int 0) :: (.int 0) :: (.ref q_135) :: (.ref q_136) :: (.int 0) :: (.ref q_137) :: (.int 0) :: (.int 0) :: (.int 0) :: (.int 0) :: (.int 0) :: (.int 0) :: (.ref q_138) :: (.int 0) :: (.ref q_139) :: (.ref q_140) :: (.ref q_141) :: (.ref q_142) :: (.ref q_143) :: (.ref q_144) :: (.ref q_145) :: (.ref q_146) :: (.ref q_147) :: (.ref q_148) :: (.int 0) :: (.int 0) :: (.ref q_149) :: (.ref q_150) :: [])))]) [0] rfl
      have hD := hD.sub (ws' := [(q_102, .inr (10, ((.ref q_103) :: (.ref q_104) :: (.int 0) :: (.int 0) :: (.int 0) :: (.int (-1)) :: (.int 0) :: (.int 0) :: (.int 0) :: (.int 0) :: (.long 0) :: (.ref q_105) :: (.ref q_106) :: (.ref q_107) :: (.ref q_108) :: (.ref q_109) :: (.ref q_110) :: (.ref q_111) :: (.ref q_112) :: (.ref q_113) :: (.ref q_114) :: (.ref q_115) :: (.ref q_116) :: (.ref q_117) :: (.ref q_118) :: (.ref q_119) :: (.ref q_120) :: (.ref q_121) :: (.ref q_122) :: (.ref q_123) :: (.ref q_124) :: (.ref q_125) :: (.ref q_126) :: (.ref q_127) :: (.ref q_128) :: (.ref q_129) :: (.ref q_130) :: (.ref q_131) :: (.ref q_132) :: (.ref q_133) :: (.ref q_134) :: (.int 0) :: (.int 0) :: (.int 0) :: (.int 0) :: (.int 0) :: (.int 0) :: (.int 0) :: (.int 0) :: (.int 0) :: (.ref q_135) :: (.ref q_136) :: (.int 0) :: (.ref q_137) :: (.int 0) :: (.int 0) :: (.int 0) :: (.int 0) :: (.int 0) :: (.int 0) :: (.ref q_138) :: (.int 0) :: (.ref q_139) :: (.ref q_140) :: (.ref q_141) :: (.ref q_142) :: (.ref q_143) :: (.ref q_144) :: (.ref q_145) :: (.ref q_146) :: (.ref q_147) :: (.ref q_148) :: (.int 0) :: (.int 0) :: (.ref q_149) :: (.ref q_150) :: [])))]) [0] (by decide) rfl
      refine lv_aload_n hx hb dL_law_1156 rfl (lv_at hl 1 rfl) ?_
      refine lv_aload_n hx hb dL_law_1157 rfl (lv_at hl 3 rfl) ?_
      refine lv_iload_n hx hb dL_law_1158 rfl (lv_at hl 0 rfl) ?_
      refine lv_iconst (v := 1) hx hb dL_law_1159 (by decide +kernel) ?_
      refine lv_iadd hx hb dL_law_1160 ?_
      refine xt_i (v := 1) (by decide +kernel) ?_
      refine va_sld hx hb hX hbl hbA hS (vin (by decide +kernel)) dL_law_1161 ?_
      refine xt_i (v := xs 1) rfl ?_
      refine xc_core (wr := []) (k := 116) (n := 11963) (xc_runV (As := [.int (xs 1)]) (rest := [.int (-2)]) hx hb hml hown hts hG hE hP hD hS hA [0] (by decide) rfl (cX10_lies_1 l D cB cI cJ cZ aK aV q_102 ((xs 1)) q_103 q_104 q_105 q_106 q_107 q_108 q_109 q_110 q_111 q_112 q_113 q_114 q_115 q_116 q_117 q_118 q_119 q_120 q_121 q_122 q_123 q_124 q_125 q_126 q_127 q_128 q_129 q_130 q_131 q_132 q_133 q_134 q_135 q_136 q_137 q_138 q_139 q_140 q_141 q_142 q_143 q_144 q_145 q_146 q_147 q_148 q_149 q_150) kw1846 kw1843 kw1844 kw1845 kw127 (show XD yX10_lies 1 from by decide +kernel) (by decide) rfl rfl 0 rfl hl.1 rfl (Nat.le_of_ble_eq_true rfl) dL_law_1162 (by decide)) hP hD hS hA [0] [] rfl rfl (by decide) (by decide) (Nat.le_of_ble_eq_true rfl) (Nat.le_of_ble_eq_true rfl) (fun r w1 H locs hpost hP hD hS => ?_)
      obtain rfl := hpost
      have hP := hP.sub (ws' := []) [] rfl
      have hD := hD.sub (ws' := []) [] (by decide) rfl
      refine lv_icmp_eq (tgt := 1527) hx hb dL_law_1165 (by decide) (fun _ => ?_) (fun h => absurd h (by decide +kernel))
      refine lv_iinc (v := 6) (lv' := [(3, .int 6), (2, .ref q_102), (1, .ref q_1), (0, .ref b)]) hx hb dL_law_1527 hl (k := 0) rfl (by decide +kernel) (by decide) rfl (fun ls hl => ?_)
      refine lv_goto (tgt := 18) hx hb dL_law_1530 (by decide) ?_
      refine lv_iload_n hx hb dL_law_18 rfl (lv_at hl 0 rfl) ?_
      refine lv_aload_n hx hb dL_law_19 rfl (lv_at hl 3 rfl) ?_
      refine va_slen hx hb hX hbl hbA hS dL_law_20 ?_
      refine xt_i (v := 6) (by decide +kernel) ?_
      refine lv_bipush (v := 6) hx hb dL_law_21 (by decide +kernel) ?_
      refine lv_isub hx hb dL_law_23 ?_
      refine xt_i (v := 0) (by decide +kernel) ?_
      refine lv_icmp_gt (tgt := 1533) hx hb dL_law_24 (by decide) (fun _ => ?_) (fun h => absurd h (by decide +kernel))
      refine lv_iconst (v := 1) hx hb dL_law_1533 (by decide +kernel) ?_
      refine va_forget (fun q hq => by have z := hS.2.2 q hq; rw [hAe] at z; exact z) ?_
      refine W.widen (k := 600000) (n := 7302250) (Nat.le_of_ble_eq_true rfl) (Nat.le_of_ble_eq_true rfl) ?_
      exact lw_ret hx hb hr hlocks dL_law_1534
    by_cases c_192 : v_157 = 34
    · subst c_192
      have hP := hP.sub (ws' := [(q_1, .inr (9, [.ref q_2, .ref q_3, .ref q_4, .ref q_5, .ref q_6, .ref q_7, .ref q_8, .ref q_9, .ref q_10, .ref q_11, .ref q_12, .ref q_13, .int 0])), (q_10, .inr (6, [.ref q_96, .ref q_97, .ref q_98, .ref q_99, .ref q_100, .int 0])), (q_96, .inl (cI, 30, .inl (fun _ => 0))), (q_97, .inl (cI, 30, .inl (fun _ => 0))), (q_98, .inl (cZ, 30, .inl (fun _ => 0))), (q_99, .inl (cI, 30, .inl (fun _ => 0))), (q_100, .inl (cI, 30, .inl (fun _ => 0))), (q_102, .inr (10, ((.ref q_103) :: (.ref q_104) :: (.int 0) :: (.int 0) :: (.int 0) :: (.int (-1)) :: (.int 0) :: (.int 0) :: (.int 0) :: (.int 0) :: (.long 0) :: (.ref q_105) :: (.ref q_106) :: (.ref q_107) :: (.ref q_108) :: (.ref q_109) :: (.ref q_110) :: (.ref q_111) :: (.ref q_112) :: (.ref q_113) :: (.ref q_114) :: (.ref q_115) :: (.ref q_116) :: (.ref q_117) :: (.ref q_118) :: (.ref q_119) :: (.ref q_120) :: (.ref q_121) :: (.ref q_122) :: (.ref q_123) :: (.ref q_124) :: (.ref q_125) :: (.ref q_126) :: (.ref q_127) :: (.ref q_128) :: (.ref q_129) :: (.ref q_130) :: (.ref q_131) :: (.ref q_132) :: (.ref q_133) :: (.ref q_134) :: (.int 0) :: (.int 0) :: (.int 0) :: (.int 0) :: (.int 0) :: (.int 0) :: (.int 0) :: (.int 0) :: (.int 0) :: (.ref q_135) :: (.ref q_136) :: (.int 0) :: (.ref q_137) :: (.int 0) :: (.int 0) :: (.int 0) :: (.int 0) :: (.int 0) :: (.int 0) :: (.ref q_138) :: (.int 0) :: (.ref q_139) :: (.ref q_140) :: (.ref q_141) :: (.ref q_142) :: (.ref q_143) :: (.ref q_144) :: (.ref q_145) :: (.ref q_146) :: (.ref q_147) :: (.ref q_148) :: (.int 0) :: (.int 0) :: (.ref q_149) :: (.ref q_150) :: []))), (q_143, .inl (cI, 30, .inl (fun _ => 0))), (q_144, .inl (cI, 30, .inl (fun _ => 0))), (q_145, .inl (cI, 30, .inl (fun _ => 0))), (q_146, .inl (cI, 30, .inl (fun _ => 0))), (q_147, .inl (cI, 30, .inl (fun _ => 0)))]) [0, 57, 58, 59, 60, 61, 62, 67, 108, 109, 110, 111, 112] rfl
      have hD := hD.sub (ws' := [(q_1, .inr (9, [.ref q_2, .ref q_3, .ref q_4, .ref q_5, .ref q_6, .ref q_7, .ref q_8, .ref q_9, .ref q_10, .ref q_11, .ref q_12, .ref q_13, .int 0])), (q_10, .inr (6, [.ref q_96, .ref q_97, .ref q_98, .ref q_99, .ref q_100, .int 0])), (q_96, .inl (cI, 30, .inl (fun _ => 0))), (q_97, .inl (cI, 30, .inl (fun _ => 0))), (q_98, .inl (cZ, 30, .inl (fun _ => 0))), (q_99, .inl (cI, 30, .inl (fun _ => 0))), (q_100, .inl (cI, 30, .inl (fun _ => 0))), (q_102, .inr (10, ((.ref q_103) :: (.ref q_104) :: (.int 0) :: (.int 0) :: (.int 0) :: (.int (-1)) :: (.int 0) :: (.int 0) :: (.int 0) :: (.int 0) :: (.long 0) :: (.ref q_105) :: (.ref q_106) :: (.ref q_107) :: (.ref q_108) :: (.ref q_109) :: (.ref q_110) :: (.ref q_111) :: (.ref q_112) :: (.ref q_113) :: (.ref q_114) :: (.ref q_115) :: (.ref q_116) :: (.ref q_117) :: (.ref q_118) :: (.ref q_119) :: (.ref q_120) :: (.ref q_121) :: (.ref q_122) :: (.ref q_123) :: (.ref q_124) :: (.ref q_125) :: (.ref q_126) :: (.ref q_127) :: (.ref q_128) :: (.ref q_129) :: (.ref q_130) :: (.ref q_131) :: (.ref q_132) :: (.ref q_133) :: (.ref q_134) :: (.int 0) :: (.int 0) :: (.int 0) :: (.int 0) :: (.int 0) :: (.int 0) :: (.int 0) :: (.int 0) :: (.int 0) :: (.ref q_135) :: (.ref q_136) :: (.int 0) :: (.ref q_137) :: (.int 0) :: (.int 0) :: (.int 0) :: (.int 0) :: (.int 0) :: (.int 0) :: (.ref q_138) :: (.int 0) :: (.ref q_139) :: (.ref q_140) :: (.ref q_141) :: (.ref q_142) :: (.ref q_143) :: (.ref q_144) :: (.ref q_145) :: (.ref q_146) :: (.ref q_147) :: (.ref q_148) :: (.int 0) :: (.int 0) :: (.ref q_149) :: (.ref q_150) :: []))), (q_143, .inl (cI, 30, .inl (fun _ => 0))), (q_144, .inl (cI, 30, .inl (fun _ => 0))), (q_145, .inl (cI, 30, .inl (fun _ => 0))), (q_146, .inl (cI, 30, .inl (fun _ => 0))), (q_147, .inl (cI, 30, .inl (fun _ => 0)))]) [0, 57, 58, 59, 60, 61, 62, 67, 108, 109, 110, 111, 112] (by decide) rfl
      refine lv_tableIn (off := 1137) (tgt := 1170) hx hb dL_law_33 (by decide) (by decide) (by decide +kernel) (by decide) ?_
      refine lv_aload_n hx hb dL_law_1170 rfl (lv_at hl 2 rfl) ?_
      refine lv_aload_n hx hb dL_law_1171 rfl (lv_at hl 3 rfl) ?_
      refine lv_iload_n hx hb dL_law_1172 rfl (lv_at hl 0 rfl) ?_
      refine lv_iconst (v := 1) hx hb dL_law_1173 (by decide +kernel) ?_
      refine lv_iadd hx hb dL_law_1174 ?_
      refine xt_i (v := 1) (by decide +kernel) ?_
      refine va_sld hx hb hX hbl hbA hS (vin (by decide +kernel)) dL_law_1175 ?_
      refine xt_i (v := xs 1) rfl ?_
      refine lv_aload_n hx hb dL_law_1176 rfl (lv_at hl 3 rfl) ?_
      refine lv_iload_n hx hb dL_law_1177 rfl (lv_at hl 0 rfl) ?_
      refine lv_iconst (v := 2) hx hb dL_law_1178 (by decide +kernel) ?_
      refine lv_iadd hx hb dL_law_1179 ?_
      refine xt_i (v := 2) (by decide +kernel) ?_
      refine va_sld hx hb hX hbl hbA hS (vin (by decide +kernel)) dL_law_1180 ?_
      refine xt_i (v := xs 2) rfl ?_
      refine lv_if_eq (tgt := 1188) hx hb dL_law_1181 (by decide) (fun c_193 => ?_) (fun c_193 => ?_)
      · -- (xs 2) eq 0 True
        refine lv_iconst (v := 0) hx hb dL_law_1188 (by decide +kernel) ?_
        refine xc_core (wr := [(q_102, .inr (10, ((.ref q_103) :: (.ref q_104) :: (.int 0) :: (.int 0) :: (.int 0) :: (.int (-1)) :: (.int 0) :: (.int 0) :: (.int 0) :: (.int 0) :: (.long 0) :: (.ref q_105) :: (.ref q_106) :: (.ref q_107) :: (.ref q_108) :: (.ref q_109) :: (.ref q_110) :: (.ref q_111) :: (.ref q_112) :: (.ref q_113) :: (.ref q_114) :: (.ref q_115) :: (.ref q_116) :: (.ref q_117) :: (.ref q_118) :: (.ref q_119) :: (.ref q_120) :: (.ref q_121) :: (.ref q_122) :: (.ref q_123) :: (.ref q_124) :: (.ref q_125) :: (.ref q_126) :: (.ref q_127) :: (.ref q_128) :: (.ref q_129) :: (.ref q_130) :: (.ref q_131) :: (.ref q_132) :: (.ref q_133) :: (.ref q_134) :: (.int 0) :: (.int 0) :: (.int 0) :: (.int 0) :: (.int 0) :: (.int 0) :: (.int 0) :: (.int 0) :: (.int 0) :: (.ref q_135) :: (.ref q_136) :: (.int 0) :: (.ref q_137) :: (.int 0) :: (.int 0) :: (.int 0) :: (.int 0) :: (.int 0) :: (.int 0) :: (.ref q_138) :: (.int 0) :: (.ref q_139) :: (.ref q_140) :: (.ref q_141) :: (.ref q_142) :: (.ref q_143) :: (.ref q_144) :: (.ref q_145) :: (.ref q_146) :: (.ref q_147) :: (.ref q_148) :: (.int 0) :: (.int 0) :: (.ref q_149) :: (.ref q_150) :: []))), (q_143, .inl (cI, 30, .inl (fun _ => 0))), (q_144, .inl (cI, 30, .inl (fun _ => 0))), (q_145, .inl (cI, 30, .inl (fun _ => 0))), (q_146, .inl (cI, 30, .inl (fun _ => 0))), (q_147, .inl (cI, 30, .inl (fun _ => 0)))]) (k := 116) (n := 11963) (xc_runV (As := [.int (xs 1), .int 0]) (rest := []) hx hb hml hown hts hG hE hP hD hS hA [0, 1, 2, 3, 4, 5, 6] (by decide) rfl (cX9_yields_1 l D cB cI cJ cZ aK aV q_1 ((xs 1)) 0 q_2 q_3 q_4 q_5 q_6 q_7 q_8 q_9 q_10 q_11 q_12 q_13 q_96 q_97 q_98 q_99 q_100 ((fun _ => 0))) kw1179 kw1176 kw1177 kw1178 kw112 (show XD yX9_yields 2 from by decide +kernel) (by decide) rfl rfl 0 rfl hl.1 rfl (Nat.le_of_ble_eq_true rfl) dL_law_1189 (by decide)) hP hD hS hA [0, 1, 2, 3, 4, 5, 6] [7, 8, 9, 10, 11, 12] rfl rfl (by decide) (by decide) (Nat.le_of_ble_eq_true rfl) (Nat.le_of_ble_eq_true rfl) (fun r w1 H locs hpost hP hD hS => ?_)
        obtain rfl := hpost
        have hP := hP.sub (ws' := [(q_102, .inr (10, ((.ref q_103) :: (.ref q_104) :: (.int 0) :: (.int 0) :: (.int 0) :: (.int (-1)) :: (.int 0) :: (.int 0) :: (.int 0) :: (.int 0) :: (.long 0) :: (.ref q_105) :: (.ref q_106) :: (.ref q_107) :: (.ref q_108) :: (.ref q_109) :: (.ref q_110) :: (.ref q_111) :: (.ref q_112) :: (.ref q_113) :: (.ref q_114) :: (.ref q_115) :: (.ref q_116) :: (.ref q_117) :: (.ref q_118) :: (.ref q_119) :: (.ref q_120) :: (.ref q_121) :: (.ref q_122) :: (.ref q_123) :: (.ref q_124) :: (.ref q_125) :: (.ref q_126) :: (.ref q_127) :: (.ref q_128) :: (.ref q_129) :: (.ref q_130) :: (.ref q_131) :: (.ref q_132) :: (.ref q_133) :: (.ref q_134) :: (.int 0) :: (.int 0) :: (.int 0) :: (.int 0) :: (.int 0) :: (.int 0) :: (.int 0) :: (.int 0) :: (.int 0) :: (.ref q_135) :: (.ref q_136) :: (.int 0) :: (.ref q_137) :: (.int 0) :: (.int 0) :: (.int 0) :: (.int 0) :: (.int 0) :: (.int 0) :: (.ref q_138) :: (.int 0) :: (.ref q_139) :: (.ref q_140) :: (.ref q_141) :: (.ref q_142) :: (.ref q_143) :: (.ref q_144) :: (.ref q_145) :: (.ref q_146) :: (.ref q_147) :: (.ref q_148) :: (.int 0) :: (.int 0) :: (.ref q_149) :: (.ref q_150) :: []))), (q_143, .inl (cI, 30, .inl (fun _ => 0))), (q_144, .inl (cI, 30, .inl (fun _ => 0))), (q_145, .inl (cI, 30, .inl (fun _ => 0))), (q_146, .inl (cI, 30, .inl (fun _ => 0))), (q_147, .inl (cI, 30, .inl (fun _ => 0)))]) [0, 1, 2, 3, 4, 5] rfl
        have hD := hD.sub (ws' := [(q_102, .inr (10, ((.ref q_103) :: (.ref q_104) :: (.int 0) :: (.int 0) :: (.int 0) :: (.int (-1)) :: (.int 0) :: (.int 0) :: (.int 0) :: (.int 0) :: (.long 0) :: (.ref q_105) :: (.ref q_106) :: (.ref q_107) :: (.ref q_108) :: (.ref q_109) :: (.ref q_110) :: (.ref q_111) :: (.ref q_112) :: (.ref q_113) :: (.ref q_114) :: (.ref q_115) :: (.ref q_116) :: (.ref q_117) :: (.ref q_118) :: (.ref q_119) :: (.ref q_120) :: (.ref q_121) :: (.ref q_122) :: (.ref q_123) :: (.ref q_124) :: (.ref q_125) :: (.ref q_126) :: (.ref q_127) :: (.ref q_128) :: (.ref q_129) :: (.ref q_130) :: (.ref q_131) :: (.ref q_132) :: (.ref q_133) :: (.ref q_134) :: (.int 0) :: (.int 0) :: (.int 0) :: (.int 0) :: (.int 0) :: (.int 0) :: (.int 0) :: (.int 0) :: (.int 0) :: (.ref q_135) :: (.ref q_136) :: (.int 0) :: (.ref q_137) :: (.int 0) :: (.int 0) :: (.int 0) :: (.int 0) :: (.int 0) :: (.int 0) :: (.ref q_138) :: (.int 0) :: (.ref q_139) :: (.ref q_140) :: (.ref q_141) :: (.ref q_142) :: (.ref q_143) :: (.ref q_144) :: (.ref q_145) :: (.ref q_146) :: (.ref q_147) :: (.ref q_148) :: (.int 0) :: (.int 0) :: (.ref q_149) :: (.ref q_150) :: []))), (q_143, .inl (cI, 30, .inl (fun _ => 0))), (q_144, .inl (cI, 30, .inl (fun _ => 0))), (q_145, .inl (cI, 30, .inl (fun _ => 0))), (q_146, .inl (cI, 30, .inl (fun _ => 0))), (q_147, .inl (cI, 30, .inl (fun _ => 0)))]) [0, 1, 2, 3, 4, 5] (by decide) rfl
        refine lv_aload_n hx hb dL_law_1192 rfl (lv_at hl 1 rfl) ?_
        refine lv_aload_n hx hb dL_law_1193 rfl (lv_at hl 3 rfl) ?_
        refine lv_iload_n hx hb dL_law_1194 rfl (lv_at hl 0 rfl) ?_
        refine lv_iconst (v := 1) hx hb dL_law_1195 (by decide +kernel) ?_
        refine lv_iadd hx hb dL_law_1196 ?_
        refine xt_i (v := 1) (by decide +kernel) ?_
        refine va_sld hx hb hX hbl hbA hS (vin (by decide +kernel)) dL_law_1197 ?_
        refine xt_i (v := xs 1) rfl ?_
        refine lv_aload_n hx hb dL_law_1198 rfl (lv_at hl 3 rfl) ?_
        refine lv_iload_n hx hb dL_law_1199 rfl (lv_at hl 0 rfl) ?_
        refine lv_iconst (v := 2) hx hb dL_law_1200 (by decide +kernel) ?_
        refine lv_iadd hx hb dL_law_1201 ?_
        refine xt_i (v := 2) (by decide +kernel) ?_
        refine va_sld hx hb hX hbl hbA hS (vin (by decide +kernel)) dL_law_1202 ?_
        refine xt_i (v := xs 2) rfl ?_
        refine lv_if_eq (tgt := 1210) hx hb dL_law_1203 (by decide) (fun _ => ?_) (fun c_194 => (by exfalso; have zc_193 := congrArg Int32.toInt c_193; have zc_194 := mt Int32.toInt_inj.mp c_194; have i32_0 : (0 : Int32).toInt = 0 := (by decide); omega))
        refine lv_iconst (v := 0) hx hb dL_law_1210 (by decide +kernel) ?_
        refine xc_core (wr := []) (k := 116) (n := 11963) (xc_runV (As := [.int (xs 1), .int 0]) (rest := [.int (if 0 ≤ ((xs 1)).toInt ∧ ((xs 1)).toInt ≤ 99 then 0 else -1)]) hx hb hml hown hts hG hE hP hD hS hA [0, 1, 2, 3, 4, 5] (by decide) rfl (cX10_yields_1 l D cB cI cJ cZ aK aV q_102 ((xs 1)) 0 q_103 q_104 q_105 q_106 q_107 q_108 q_109 q_110 q_111 q_112 q_113 q_114 q_115 q_116 q_117 q_118 q_119 q_120 q_121 q_122 q_123 q_124 q_125 q_126 q_127 q_128 q_129 q_130 q_131 q_132 q_133 q_134 q_135 q_136 q_137 q_138 q_139 q_140 q_141 q_142 q_143 q_144 q_145 q_146 q_147 q_148 q_149 q_150 ((fun _ => 0))) kw1947 kw1944 kw1945 kw1946 kw127 (show XD yX10_yields 2 from by decide +kernel) (by decide) rfl rfl 0 rfl hl.1 rfl (Nat.le_of_ble_eq_true rfl) dL_law_1211 (by decide)) hP hD hS hA [0, 1, 2, 3, 4, 5] [] rfl rfl (by decide) (by decide) (Nat.le_of_ble_eq_true rfl) (Nat.le_of_ble_eq_true rfl) (fun r w1 H locs hpost hP hD hS => ?_)
        obtain rfl := hpost
        have hP := hP.sub (ws' := []) [] rfl
        have hD := hD.sub (ws' := []) [] (by decide) rfl
        refine lv_icmp_eq (tgt := 1527) hx hb dL_law_1214 (by decide) (fun _ => ?_) (fun h => absurd rfl h)
        refine lv_iinc (v := 6) (lv' := [(3, .int 6), (2, .ref q_102), (1, .ref q_1), (0, .ref b)]) hx hb dL_law_1527 hl (k := 0) rfl (by decide +kernel) (by decide) rfl (fun ls hl => ?_)
        refine lv_goto (tgt := 18) hx hb dL_law_1530 (by decide) ?_
        refine lv_iload_n hx hb dL_law_18 rfl (lv_at hl 0 rfl) ?_
        refine lv_aload_n hx hb dL_law_19 rfl (lv_at hl 3 rfl) ?_
        refine va_slen hx hb hX hbl hbA hS dL_law_20 ?_
        refine xt_i (v := 6) (by decide +kernel) ?_
        refine lv_bipush (v := 6) hx hb dL_law_21 (by decide +kernel) ?_
        refine lv_isub hx hb dL_law_23 ?_
        refine xt_i (v := 0) (by decide +kernel) ?_
        refine lv_icmp_gt (tgt := 1533) hx hb dL_law_24 (by decide) (fun _ => ?_) (fun h => absurd h (by decide +kernel))
        refine lv_iconst (v := 1) hx hb dL_law_1533 (by decide +kernel) ?_
        refine va_forget (fun q hq => by have z := hS.2.2 q hq; rw [hAe] at z; exact z) ?_
        refine W.widen (k := 600000) (n := 7302250) (Nat.le_of_ble_eq_true rfl) (Nat.le_of_ble_eq_true rfl) ?_
        exact lw_ret hx hb hr hlocks dL_law_1534
      · -- (xs 2) eq 0 False
        refine lv_iconst (v := 1) hx hb dL_law_1184 (by decide +kernel) ?_
        refine lv_goto (tgt := 1189) hx hb dL_law_1185 (by decide) ?_
        refine xc_core (wr := [(q_102, .inr (10, ((.ref q_103) :: (.ref q_104) :: (.int 0) :: (.int 0) :: (.int 0) :: (.int (-1)) :: (.int 0) :: (.int 0) :: (.int 0) :: (.int 0) :: (.long 0) :: (.ref q_105) :: (.ref q_106) :: (.ref q_107) :: (.ref q_108) :: (.ref q_109) :: (.ref q_110) :: (.ref q_111) :: (.ref q_112) :: (.ref q_113) :: (.ref q_114) :: (.ref q_115) :: (.ref q_116) :: (.ref q_117) :: (.ref q_118) :: (.ref q_119) :: (.ref q_120) :: (.ref q_121) :: (.ref q_122) :: (.ref q_123) :: (.ref q_124) :: (.ref q_125) :: (.ref q_126) :: (.ref q_127) :: (.ref q_128) :: (.ref q_129) :: (.ref q_130) :: (.ref q_131) :: (.ref q_132) :: (.ref q_133) :: (.ref q_134) :: (.int 0) :: (.int 0) :: (.int 0) :: (.int 0) :: (.int 0) :: (.int 0) :: (.int 0) :: (.int 0) :: (.int 0) :: (.ref q_135) :: (.ref q_136) :: (.int 0) :: (.ref q_137) :: (.int 0) :: (.int 0) :: (.int 0) :: (.int 0) :: (.int 0) :: (.int 0) :: (.ref q_138) :: (.int 0) :: (.ref q_139) :: (.ref q_140) :: (.ref q_141) :: (.ref q_142) :: (.ref q_143) :: (.ref q_144) :: (.ref q_145) :: (.ref q_146) :: (.ref q_147) :: (.ref q_148) :: (.int 0) :: (.int 0) :: (.ref q_149) :: (.ref q_150) :: []))), (q_143, .inl (cI, 30, .inl (fun _ => 0))), (q_144, .inl (cI, 30, .inl (fun _ => 0))), (q_145, .inl (cI, 30, .inl (fun _ => 0))), (q_146, .inl (cI, 30, .inl (fun _ => 0))), (q_147, .inl (cI, 30, .inl (fun _ => 0)))]) (k := 116) (n := 11963) (xc_runV (As := [.int (xs 1), .int 1]) (rest := []) hx hb hml hown hts hG hE hP hD hS hA [0, 1, 2, 3, 4, 5, 6] (by decide) rfl (cX9_yields_1 l D cB cI cJ cZ aK aV q_1 ((xs 1)) 1 q_2 q_3 q_4 q_5 q_6 q_7 q_8 q_9 q_10 q_11 q_12 q_13 q_96 q_97 q_98 q_99 q_100 ((fun _ => 0))) kw1179 kw1176 kw1177 kw1178 kw112 (show XD yX9_yields 2 from by decide +kernel) (by decide) rfl rfl 0 rfl hl.1 rfl (Nat.le_of_ble_eq_true rfl) dL_law_1189 (by decide)) hP hD hS hA [0, 1, 2, 3, 4, 5, 6] [7, 8, 9, 10, 11, 12] rfl rfl (by decide) (by decide) (Nat.le_of_ble_eq_true rfl) (Nat.le_of_ble_eq_true rfl) (fun r w1 H locs hpost hP hD hS => ?_)
        obtain rfl := hpost
        have hP := hP.sub (ws' := [(q_102, .inr (10, ((.ref q_103) :: (.ref q_104) :: (.int 0) :: (.int 0) :: (.int 0) :: (.int (-1)) :: (.int 0) :: (.int 0) :: (.int 0) :: (.int 0) :: (.long 0) :: (.ref q_105) :: (.ref q_106) :: (.ref q_107) :: (.ref q_108) :: (.ref q_109) :: (.ref q_110) :: (.ref q_111) :: (.ref q_112) :: (.ref q_113) :: (.ref q_114) :: (.ref q_115) :: (.ref q_116) :: (.ref q_117) :: (.ref q_118) :: (.ref q_119) :: (.ref q_120) :: (.ref q_121) :: (.ref q_122) :: (.ref q_123) :: (.ref q_124) :: (.ref q_125) :: (.ref q_126) :: (.ref q_127) :: (.ref q_128) :: (.ref q_129) :: (.ref q_130) :: (.ref q_131) :: (.ref q_132) :: (.ref q_133) :: (.ref q_134) :: (.int 0) :: (.int 0) :: (.int 0) :: (.int 0) :: (.int 0) :: (.int 0) :: (.int 0) :: (.int 0) :: (.int 0) :: (.ref q_135) :: (.ref q_136) :: (.int 0) :: (.ref q_137) :: (.int 0) :: (.int 0) :: (.int 0) :: (.int 0) :: (.int 0) :: (.int 0) :: (.ref q_138) :: (.int 0) :: (.ref q_139) :: (.ref q_140) :: (.ref q_141) :: (.ref q_142) :: (.ref q_143) :: (.ref q_144) :: (.ref q_145) :: (.ref q_146) :: (.ref q_147) :: (.ref q_148) :: (.int 0) :: (.int 0) :: (.ref q_149) :: (.ref q_150) :: []))), (q_143, .inl (cI, 30, .inl (fun _ => 0))), (q_144, .inl (cI, 30, .inl (fun _ => 0))), (q_145, .inl (cI, 30, .inl (fun _ => 0))), (q_146, .inl (cI, 30, .inl (fun _ => 0))), (q_147, .inl (cI, 30, .inl (fun _ => 0)))]) [0, 1, 2, 3, 4, 5] rfl
        have hD := hD.sub (ws' := [(q_102, .inr (10, ((.ref q_103) :: (.ref q_104) :: (.int 0) :: (.int 0) :: (.int 0) :: (.int (-1)) :: (.int 0) :: (.int 0) :: (.int 0) :: (.int 0) :: (.long 0) :: (.ref q_105) :: (.ref q_106) :: (.ref q_107) :: (.ref q_108) :: (.ref q_109) :: (.ref q_110) :: (.ref q_111) :: (.ref q_112) :: (.ref q_113) :: (.ref q_114) :: (.ref q_115) :: (.ref q_116) :: (.ref q_117) :: (.ref q_118) :: (.ref q_119) :: (.ref q_120) :: (.ref q_121) :: (.ref q_122) :: (.ref q_123) :: (.ref q_124) :: (.ref q_125) :: (.ref q_126) :: (.ref q_127) :: (.ref q_128) :: (.ref q_129) :: (.ref q_130) :: (.ref q_131) :: (.ref q_132) :: (.ref q_133) :: (.ref q_134) :: (.int 0) :: (.int 0) :: (.int 0) :: (.int 0) :: (.int 0) :: (.int 0) :: (.int 0) :: (.int 0) :: (.int 0) :: (.ref q_135) :: (.ref q_136) :: (.int 0) :: (.ref q_137) :: (.int 0) :: (.int 0) :: (.int 0) :: (.int 0) :: (.int 0) :: (.int 0) :: (.ref q_138) :: (.int 0) :: (.ref q_139) :: (.ref q_140) :: (.ref q_141) :: (.ref q_142) :: (.ref q_143) :: (.ref q_144) :: (.ref q_145) :: (.ref q_146) :: (.ref q_147) :: (.ref q_148) :: (.int 0) :: (.int 0) :: (.ref q_149) :: (.ref q_150) :: []))), (q_143, .inl (cI, 30, .inl (fun _ => 0))), (q_144, .inl (cI, 30, .inl (fun _ => 0))), (q_145, .inl (cI, 30, .inl (fun _ => 0))), (q_146, .inl (cI, 30, .inl (fun _ => 0))), (q_147, .inl (cI, 30, .inl (fun _ => 0)))]) [0, 1, 2, 3, 4, 5] (by decide) rfl
        refine lv_aload_n hx hb dL_law_1192 rfl (lv_at hl 1 rfl) ?_
        refine lv_aload_n hx hb dL_law_1193 rfl (lv_at hl 3 rfl) ?_
        refine lv_iload_n hx hb dL_law_1194 rfl (lv_at hl 0 rfl) ?_
        refine lv_iconst (v := 1) hx hb dL_law_1195 (by decide +kernel) ?_
        refine lv_iadd hx hb dL_law_1196 ?_
        refine xt_i (v := 1) (by decide +kernel) ?_
        refine va_sld hx hb hX hbl hbA hS (vin (by decide +kernel)) dL_law_1197 ?_
        refine xt_i (v := xs 1) rfl ?_
        refine lv_aload_n hx hb dL_law_1198 rfl (lv_at hl 3 rfl) ?_
        refine lv_iload_n hx hb dL_law_1199 rfl (lv_at hl 0 rfl) ?_
        refine lv_iconst (v := 2) hx hb dL_law_1200 (by decide +kernel) ?_
        refine lv_iadd hx hb dL_law_1201 ?_
        refine xt_i (v := 2) (by decide +kernel) ?_
        refine va_sld hx hb hX hbl hbA hS (vin (by decide +kernel)) dL_law_1202 ?_
        refine xt_i (v := xs 2) rfl ?_
        refine lv_if_eq (tgt := 1210) hx hb dL_law_1203 (by decide) (fun c_195 => (by exfalso; have zc_193 := mt Int32.toInt_inj.mp c_193; have zc_195 := congrArg Int32.toInt c_195; have i32_0 : (0 : Int32).toInt = 0 := (by decide); omega)) (fun _ => ?_)
        refine lv_iconst (v := 1) hx hb dL_law_1206 (by decide +kernel) ?_
        refine lv_goto (tgt := 1211) hx hb dL_law_1207 (by decide) ?_
        refine xc_core (wr := []) (k := 116) (n := 11963) (xc_runV (As := [.int (xs 1), .int 1]) (rest := [.int (if 0 ≤ ((xs 1)).toInt ∧ ((xs 1)).toInt ≤ 99 then 0 else -1)]) hx hb hml hown hts hG hE hP hD hS hA [0, 1, 2, 3, 4, 5] (by decide) rfl (cX10_yields_1 l D cB cI cJ cZ aK aV q_102 ((xs 1)) 1 q_103 q_104 q_105 q_106 q_107 q_108 q_109 q_110 q_111 q_112 q_113 q_114 q_115 q_116 q_117 q_118 q_119 q_120 q_121 q_122 q_123 q_124 q_125 q_126 q_127 q_128 q_129 q_130 q_131 q_132 q_133 q_134 q_135 q_136 q_137 q_138 q_139 q_140 q_141 q_142 q_143 q_144 q_145 q_146 q_147 q_148 q_149 q_150 ((fun _ => 0))) kw1947 kw1944 kw1945 kw1946 kw127 (show XD yX10_yields 2 from by decide +kernel) (by decide) rfl rfl 0 rfl hl.1 rfl (Nat.le_of_ble_eq_true rfl) dL_law_1211 (by decide)) hP hD hS hA [0, 1, 2, 3, 4, 5] [] rfl rfl (by decide) (by decide) (Nat.le_of_ble_eq_true rfl) (Nat.le_of_ble_eq_true rfl) (fun r w1 H locs hpost hP hD hS => ?_)
        obtain rfl := hpost
        have hP := hP.sub (ws' := []) [] rfl
        have hD := hD.sub (ws' := []) [] (by decide) rfl
        refine lv_icmp_eq (tgt := 1527) hx hb dL_law_1214 (by decide) (fun _ => ?_) (fun h => absurd rfl h)
        refine lv_iinc (v := 6) (lv' := [(3, .int 6), (2, .ref q_102), (1, .ref q_1), (0, .ref b)]) hx hb dL_law_1527 hl (k := 0) rfl (by decide +kernel) (by decide) rfl (fun ls hl => ?_)
        refine lv_goto (tgt := 18) hx hb dL_law_1530 (by decide) ?_
        refine lv_iload_n hx hb dL_law_18 rfl (lv_at hl 0 rfl) ?_
        refine lv_aload_n hx hb dL_law_19 rfl (lv_at hl 3 rfl) ?_
        refine va_slen hx hb hX hbl hbA hS dL_law_20 ?_
        refine xt_i (v := 6) (by decide +kernel) ?_
        refine lv_bipush (v := 6) hx hb dL_law_21 (by decide +kernel) ?_
        refine lv_isub hx hb dL_law_23 ?_
        refine xt_i (v := 0) (by decide +kernel) ?_
        refine lv_icmp_gt (tgt := 1533) hx hb dL_law_24 (by decide) (fun _ => ?_) (fun h => absurd h (by decide +kernel))
        refine lv_iconst (v := 1) hx hb dL_law_1533 (by decide +kernel) ?_
        refine va_forget (fun q hq => by have z := hS.2.2 q hq; rw [hAe] at z; exact z) ?_
        refine W.widen (k := 600000) (n := 7302250) (Nat.le_of_ble_eq_true rfl) (Nat.le_of_ble_eq_true rfl) ?_
        exact lw_ret hx hb hr hlocks dL_law_1534
    by_cases c_196 : v_157 = 35
    · subst c_196
      have hP := hP.sub (ws' := [(q_1, .inr (9, [.ref q_2, .ref q_3, .ref q_4, .ref q_5, .ref q_6, .ref q_7, .ref q_8, .ref q_9, .ref q_10, .ref q_11, .ref q_12, .ref q_13, .int 0])), (q_10, .inr (6, [.ref q_96, .ref q_97, .ref q_98, .ref q_99, .ref q_100, .int 0])), (q_96, .inl (cI, 30, .inl (fun _ => 0))), (q_97, .inl (cI, 30, .inl (fun _ => 0))), (q_98, .inl (cZ, 30, .inl (fun _ => 0))), (q_99, .inl (cI, 30, .inl (fun _ => 0))), (q_100, .inl (cI, 30, .inl (fun _ => 0))), (q_102, .inr (10, ((.ref q_103) :: (.ref q_104) :: (.int 0) :: (.int 0) :: (.int 0) :: (.int (-1)) :: (.int 0) :: (.int 0) :: (.int 0) :: (.int 0) :: (.long 0) :: (.ref q_105) :: (.ref q_106) :: (.ref q_107) :: (.ref q_108) :: (.ref q_109) :: (.ref q_110) :: (.ref q_111) :: (.ref q_112) :: (.ref q_113) :: (.ref q_114) :: (.ref q_115) :: (.ref q_116) :: (.ref q_117) :: (.ref q_118) :: (.ref q_119) :: (.ref q_120) :: (.ref q_121) :: (.ref q_122) :: (.ref q_123) :: (.ref q_124) :: (.ref q_125) :: (.ref q_126) :: (.ref q_127) :: (.ref q_128) :: (.ref q_129) :: (.ref q_130) :: (.ref q_131) :: (.ref q_132) :: (.ref q_133) :: (.ref q_134) :: (.int 0) :: (.int 0) :: (.int 0) :: (.int 0) :: (.int 0) :: (.int 0) :: (.int 0) :: (.int 0) :: (.int 0) :: (.ref q_135) :: (.ref q_136) :: (.int 0) :: (.ref q_137) :: (.int 0) :: (.int 0) :: (.int 0) :: (.int 0) :: (.int 0) :: (.int 0) :: (.ref q_138) :: (.int 0) :: (.ref q_139) :: (.ref q_140) :: (.ref q_141) :: (.ref q_142) :: (.ref q_143) :: (.ref q_144) :: (.ref q_145) :: (.ref q_146) :: (.ref q_147) :: (.ref q_148) :: (.int 0) :: (.int 0) :: (.ref q_149) :: (.ref q_150) :: []))), (q_143, .inl (cI, 30, .inl (fun _ => 0))), (q_144, .inl (cI, 30, .inl (fun _ => 0))), (q_145, .inl (cI, 30, .inl (fun _ => 0))), (q_146, .inl (cI, 30, .inl (fun _ => 0))), (q_147, .inl (cI, 30, .inl (fun _ => 0)))]) [0, 57, 58, 59, 60, 61, 62, 67, 108, 109, 110, 111, 112] rfl
      have hD := hD.sub (ws' := [(q_1, .inr (9, [.ref q_2, .ref q_3, .ref q_4, .ref q_5, .ref q_6, .ref q_7, .ref q_8, .ref q_9, .ref q_10, .ref q_11, .ref q_12, .ref q_13, .int 0])), (q_10, .inr (6, [.ref q_96, .ref q_97, .ref q_98, .ref q_99, .ref q_100, .int 0])), (q_96, .inl (cI, 30, .inl (fun _ => 0))), (q_97, .inl (cI, 30, .inl (fun _ => 0))), (q_98, .inl (cZ, 30, .inl (fun _ => 0))), (q_99, .inl (cI, 30, .inl (fun _ => 0))), (q_100, .inl (cI, 30, .inl (fun _ => 0))), (q_102, .inr (10, ((.ref q_103) :: (.ref q_104) :: (.int 0) :: (.int 0) :: (.int 0) :: (.int (-1)) :: (.int 0) :: (.int 0) :: (.int 0) :: (.int 0) :: (.long 0) :: (.ref q_105) :: (.ref q_106) :: (.ref q_107) :: (.ref q_108) :: (.ref q_109) :: (.ref q_110) :: (.ref q_111) :: (.ref q_112) :: (.ref q_113) :: (.ref q_114) :: (.ref q_115) :: (.ref q_116) :: (.ref q_117) :: (.ref q_118) :: (.ref q_119) :: (.ref q_120) :: (.ref q_121) :: (.ref q_122) :: (.ref q_123) :: (.ref q_124) :: (.ref q_125) :: (.ref q_126) :: (.ref q_127) :: (.ref q_128) :: (.ref q_129) :: (.ref q_130) :: (.ref q_131) :: (.ref q_132) :: (.ref q_133) :: (.ref q_134) :: (.int 0) :: (.int 0) :: (.int 0) :: (.int 0) :: (.int 0) :: (.int 0) :: (.int 0) :: (.int 0) :: (.int 0) :: (.ref q_135) :: (.ref q_136) :: (.int 0) :: (.ref q_137) :: (.int 0) :: (.int 0) :: (.int 0) :: (.int 0) :: (.int 0) :: (.int 0) :: (.ref q_138) :: (.int 0) :: (.ref q_139) :: (.ref q_140) :: (.ref q_141) :: (.ref q_142) :: (.ref q_143) :: (.ref q_144) :: (.ref q_145) :: (.ref q_146) :: (.ref q_147) :: (.ref q_148) :: (.int 0) :: (.int 0) :: (.ref q_149) :: (.ref q_150) :: []))), (q_143, .inl (cI, 30, .inl (fun _ => 0))), (q_144, .inl (cI, 30, .inl (fun _ => 0))), (q_145, .inl (cI, 30, .inl (fun _ => 0))), (q_146, .inl (cI, 30, .inl (fun _ => 0))), (q_147, .inl (cI, 30, .inl (fun _ => 0)))]) [0, 57, 58, 59, 60, 61, 62, 67, 108, 109, 110, 111, 112] (by decide) rfl
      refine lv_tableIn (off := 1186) (tgt := 1219) hx hb dL_law_33 (by decide) (by decide) (by decide +kernel) (by decide) ?_
      refine lv_aload_n hx hb dL_law_1219 rfl (lv_at hl 2 rfl) ?_
      refine lv_aload_n hx hb dL_law_1220 rfl (lv_at hl 3 rfl) ?_
      refine lv_iload_n hx hb dL_law_1221 rfl (lv_at hl 0 rfl) ?_
      refine lv_iconst (v := 1) hx hb dL_law_1222 (by decide +kernel) ?_
      refine lv_iadd hx hb dL_law_1223 ?_
      refine xt_i (v := 1) (by decide +kernel) ?_
      refine va_sld hx hb hX hbl hbA hS (vin (by decide +kernel)) dL_law_1224 ?_
      refine xt_i (v := xs 1) rfl ?_
      refine lv_if_eq (tgt := 1232) hx hb dL_law_1225 (by decide) (fun c_197 => ?_) (fun c_197 => ?_)
      · -- (xs 1) eq 0 True
        refine lv_iconst (v := 0) hx hb dL_law_1232 (by decide +kernel) ?_
        refine xc_core (wr := [(q_102, .inr (10, ((.ref q_103) :: (.ref q_104) :: (.int 0) :: (.int 0) :: (.int 0) :: (.int (-1)) :: (.int 0) :: (.int 0) :: (.int 0) :: (.int 0) :: (.long 0) :: (.ref q_105) :: (.ref q_106) :: (.ref q_107) :: (.ref q_108) :: (.ref q_109) :: (.ref q_110) :: (.ref q_111) :: (.ref q_112) :: (.ref q_113) :: (.ref q_114) :: (.ref q_115) :: (.ref q_116) :: (.ref q_117) :: (.ref q_118) :: (.ref q_119) :: (.ref q_120) :: (.ref q_121) :: (.ref q_122) :: (.ref q_123) :: (.ref q_124) :: (.ref q_125) :: (.ref q_126) :: (.ref q_127) :: (.ref q_128) :: (.ref q_129) :: (.ref q_130) :: (.ref q_131) :: (.ref q_132) :: (.ref q_133) :: (.ref q_134) :: (.int 0) :: (.int 0) :: (.int 0) :: (.int 0) :: (.int 0) :: (.int 0) :: (.int 0) :: (.int 0) :: (.int 0) :: (.ref q_135) :: (.ref q_136) :: (.int 0) :: (.ref q_137) :: (.int 0) :: (.int 0) :: (.int 0) :: (.int 0) :: (.int 0) :: (.int 0) :: (.ref q_138) :: (.int 0) :: (.ref q_139) :: (.ref q_140) :: (.ref q_141) :: (.ref q_142) :: (.ref q_143) :: (.ref q_144) :: (.ref q_145) :: (.ref q_146) :: (.ref q_147) :: (.ref q_148) :: (.int 0) :: (.int 0) :: (.ref q_149) :: (.ref q_150) :: []))), (q_143, .inl (cI, 30, .inl (fun _ => 0))), (q_144, .inl (cI, 30, .inl (fun _ => 0))), (q_145, .inl (cI, 30, .inl (fun _ => 0))), (q_146, .inl (cI, 30, .inl (fun _ => 0))), (q_147, .inl (cI, 30, .inl (fun _ => 0)))]) (k := 116) (n := 11963) (xc_runV (As := [.int 0]) (rest := []) hx hb hml hown hts hG hE hP hD hS hA [0, 1, 2, 3, 4, 5, 6] (by decide) rfl (cX9_harbours_1 l D cB cI cJ cZ aK aV q_1 0 q_2 q_3 q_4 q_5 q_6 q_7 q_8 q_9 q_10 q_11 q_12 q_13 q_96 q_97 q_98 q_99 q_100 ((fun _ => 0))) kw1187 kw1184 kw1185 kw1186 kw112 (show XD yX9_harbours 1 from by decide +kernel) (by decide) rfl rfl 0 rfl hl.1 rfl (Nat.le_of_ble_eq_true rfl) dL_law_1233 (by decide)) hP hD hS hA [0, 1, 2, 3, 4, 5, 6] [7, 8, 9, 10, 11, 12] rfl rfl (by decide) (by decide) (Nat.le_of_ble_eq_true rfl) (Nat.le_of_ble_eq_true rfl) (fun r w1 H locs hpost hP hD hS => ?_)
        obtain rfl := hpost
        have hP := hP.sub (ws' := [(q_102, .inr (10, ((.ref q_103) :: (.ref q_104) :: (.int 0) :: (.int 0) :: (.int 0) :: (.int (-1)) :: (.int 0) :: (.int 0) :: (.int 0) :: (.int 0) :: (.long 0) :: (.ref q_105) :: (.ref q_106) :: (.ref q_107) :: (.ref q_108) :: (.ref q_109) :: (.ref q_110) :: (.ref q_111) :: (.ref q_112) :: (.ref q_113) :: (.ref q_114) :: (.ref q_115) :: (.ref q_116) :: (.ref q_117) :: (.ref q_118) :: (.ref q_119) :: (.ref q_120) :: (.ref q_121) :: (.ref q_122) :: (.ref q_123) :: (.ref q_124) :: (.ref q_125) :: (.ref q_126) :: (.ref q_127) :: (.ref q_128) :: (.ref q_129) :: (.ref q_130) :: (.ref q_131) :: (.ref q_132) :: (.ref q_133) :: (.ref q_134) :: (.int 0) :: (.int 0) :: (.int 0) :: (.int 0) :: (.int 0) :: (.int 0) :: (.int 0) :: (.int 0) :: (.int 0) :: (.ref q_135) :: (.ref q_136) :: (.int 0) :: (.ref q_137) :: (.int 0) :: (.int 0) :: (.int 0) :: (.int 0) :: (.int 0) :: (.int 0) :: (.ref q_138) :: (.int 0) :: (.ref q_139) :: (.ref q_140) :: (.ref q_141) :: (.ref q_142) :: (.ref q_143) :: (.ref q_144) :: (.ref q_145) :: (.ref q_146) :: (.ref q_147) :: (.ref q_148) :: (.int 0) :: (.int 0) :: (.ref q_149) :: (.ref q_150) :: []))), (q_143, .inl (cI, 30, .inl (fun _ => 0))), (q_144, .inl (cI, 30, .inl (fun _ => 0))), (q_145, .inl (cI, 30, .inl (fun _ => 0))), (q_146, .inl (cI, 30, .inl (fun _ => 0))), (q_147, .inl (cI, 30, .inl (fun _ => 0)))]) [0, 1, 2, 3, 4, 5] rfl
        have hD := hD.sub (ws' := [(q_102, .inr (10, ((.ref q_103) :: (.ref q_104) :: (.int 0) :: (.int 0) :: (.int 0) :: (.int (-1)) :: (.int 0) :: (.int 0) :: (.int 0) :: (.int 0) :: (.long 0) :: (.ref q_105) :: (.ref q_106) :: (.ref q_107) :: (.ref q_108) :: (.ref q_109) :: (.ref q_110) :: (.ref q_111) :: (.ref q_112) :: (.ref q_113) :: (.ref q_114) :: (.ref q_115) :: (.ref q_116) :: (.ref q_117) :: (.ref q_118) :: (.ref q_119) :: (.ref q_120) :: (.ref q_121) :: (.ref q_122) :: (.ref q_123) :: (.ref q_124) :: (.ref q_125) :: (.ref q_126) :: (.ref q_127) :: (.ref q_128) :: (.ref q_129) :: (.ref q_130) :: (.ref q_131) :: (.ref q_132) :: (.ref q_133) :: (.ref q_134) :: (.int 0) :: (.int 0) :: (.int 0) :: (.int 0) :: (.int 0) :: (.int 0) :: (.int 0) :: (.int 0) :: (.int 0) :: (.ref q_135) :: (.ref q_136) :: (.int 0) :: (.ref q_137) :: (.int 0) :: (.int 0) :: (.int 0) :: (.int 0) :: (.int 0) :: (.int 0) :: (.ref q_138) :: (.int 0) :: (.ref q_139) :: (.ref q_140) :: (.ref q_141) :: (.ref q_142) :: (.ref q_143) :: (.ref q_144) :: (.ref q_145) :: (.ref q_146) :: (.ref q_147) :: (.ref q_148) :: (.int 0) :: (.int 0) :: (.ref q_149) :: (.ref q_150) :: []))), (q_143, .inl (cI, 30, .inl (fun _ => 0))), (q_144, .inl (cI, 30, .inl (fun _ => 0))), (q_145, .inl (cI, 30, .inl (fun _ => 0))), (q_146, .inl (cI, 30, .inl (fun _ => 0))), (q_147, .inl (cI, 30, .inl (fun _ => 0)))]) [0, 1, 2, 3, 4, 5] (by decide) rfl
        refine lv_aload_n hx hb dL_law_1236 rfl (lv_at hl 1 rfl) ?_
        refine lv_aload_n hx hb dL_law_1237 rfl (lv_at hl 3 rfl) ?_
        refine lv_iload_n hx hb dL_law_1238 rfl (lv_at hl 0 rfl) ?_
        refine lv_iconst (v := 1) hx hb dL_law_1239 (by decide +kernel) ?_
        refine lv_iadd hx hb dL_law_1240 ?_
        refine xt_i (v := 1) (by decide +kernel) ?_
        refine va_sld hx hb hX hbl hbA hS (vin (by decide +kernel)) dL_law_1241 ?_
        refine xt_i (v := xs 1) rfl ?_
        refine lv_if_eq (tgt := 1249) hx hb dL_law_1242 (by decide) (fun _ => ?_) (fun c_198 => (by exfalso; have zc_197 := congrArg Int32.toInt c_197; have zc_198 := mt Int32.toInt_inj.mp c_198; have i32_0 : (0 : Int32).toInt = 0 := (by decide); omega))
        refine lv_iconst (v := 0) hx hb dL_law_1249 (by decide +kernel) ?_
        refine xc_core (wr := []) (k := 116) (n := 11963) (xc_runV (As := [.int 0]) (rest := [.int 0]) hx hb hml hown hts hG hE hP hD hS hA [0, 1, 2, 3, 4, 5] (by decide) rfl (cX10_harbours_1 l D cB cI cJ cZ aK aV q_102 0 q_103 q_104 q_105 q_106 q_107 q_108 q_109 q_110 q_111 q_112 q_113 q_114 q_115 q_116 q_117 q_118 q_119 q_120 q_121 q_122 q_123 q_124 q_125 q_126 q_127 q_128 q_129 q_130 q_131 q_132 q_133 q_134 q_135 q_136 q_137 q_138 q_139 q_140 q_141 q_142 q_143 q_144 q_145 q_146 q_147 q_148 q_149 q_150 ((fun _ => 0))) kw1955 kw1952 kw1953 kw1954 kw127 (show XD yX10_harbours 1 from by decide +kernel) (by decide) rfl rfl 0 rfl hl.1 rfl (Nat.le_of_ble_eq_true rfl) dL_law_1250 (by decide)) hP hD hS hA [0, 1, 2, 3, 4, 5] [] rfl rfl (by decide) (by decide) (Nat.le_of_ble_eq_true rfl) (Nat.le_of_ble_eq_true rfl) (fun r w1 H locs hpost hP hD hS => ?_)
        obtain rfl := hpost
        have hP := hP.sub (ws' := []) [] rfl
        have hD := hD.sub (ws' := []) [] (by decide) rfl
        refine lv_icmp_eq (tgt := 1527) hx hb dL_law_1253 (by decide) (fun _ => ?_) (fun h => absurd h (by decide +kernel))
        refine lv_iinc (v := 6) (lv' := [(3, .int 6), (2, .ref q_102), (1, .ref q_1), (0, .ref b)]) hx hb dL_law_1527 hl (k := 0) rfl (by decide +kernel) (by decide) rfl (fun ls hl => ?_)
        refine lv_goto (tgt := 18) hx hb dL_law_1530 (by decide) ?_
        refine lv_iload_n hx hb dL_law_18 rfl (lv_at hl 0 rfl) ?_
        refine lv_aload_n hx hb dL_law_19 rfl (lv_at hl 3 rfl) ?_
        refine va_slen hx hb hX hbl hbA hS dL_law_20 ?_
        refine xt_i (v := 6) (by decide +kernel) ?_
        refine lv_bipush (v := 6) hx hb dL_law_21 (by decide +kernel) ?_
        refine lv_isub hx hb dL_law_23 ?_
        refine xt_i (v := 0) (by decide +kernel) ?_
        refine lv_icmp_gt (tgt := 1533) hx hb dL_law_24 (by decide) (fun _ => ?_) (fun h => absurd h (by decide +kernel))
        refine lv_iconst (v := 1) hx hb dL_law_1533 (by decide +kernel) ?_
        refine va_forget (fun q hq => by have z := hS.2.2 q hq; rw [hAe] at z; exact z) ?_
        refine W.widen (k := 600000) (n := 7302250) (Nat.le_of_ble_eq_true rfl) (Nat.le_of_ble_eq_true rfl) ?_
        exact lw_ret hx hb hr hlocks dL_law_1534
      · -- (xs 1) eq 0 False
        refine lv_iconst (v := 1) hx hb dL_law_1228 (by decide +kernel) ?_
        refine lv_goto (tgt := 1233) hx hb dL_law_1229 (by decide) ?_
        refine xc_core (wr := [(q_102, .inr (10, ((.ref q_103) :: (.ref q_104) :: (.int 0) :: (.int 0) :: (.int 0) :: (.int (-1)) :: (.int 0) :: (.int 0) :: (.int 0) :: (.int 0) :: (.long 0) :: (.ref q_105) :: (.ref q_106) :: (.ref q_107) :: (.ref q_108) :: (.ref q_109) :: (.ref q_110) :: (.ref q_111) :: (.ref q_112) :: (.ref q_113) :: (.ref q_114) :: (.ref q_115) :: (.ref q_116) :: (.ref q_117) :: (.ref q_118) :: (.ref q_119) :: (.ref q_120) :: (.ref q_121) :: (.ref q_122) :: (.ref q_123) :: (.ref q_124) :: (.ref q_125) :: (.ref q_126) :: (.ref q_127) :: (.ref q_128) :: (.ref q_129) :: (.ref q_130) :: (.ref q_131) :: (.ref q_132) :: (.ref q_133) :: (.ref q_134) :: (.int 0) :: (.int 0) :: (.int 0) :: (.int 0) :: (.int 0) :: (.int 0) :: (.int 0) :: (.int 0) :: (.int 0) :: (.ref q_135) :: (.ref q_136) :: (.int 0) :: (.ref q_137) :: (.int 0) :: (.int 0) :: (.int 0) :: (.int 0) :: (.int 0) :: (.int 0) :: (.ref q_138) :: (.int 0) :: (.ref q_139) :: (.ref q_140) :: (.ref q_141) :: (.ref q_142) :: (.ref q_143) :: (.ref q_144) :: (.ref q_145) :: (.ref q_146) :: (.ref q_147) :: (.ref q_148) :: (.int 0) :: (.int 0) :: (.ref q_149) :: (.ref q_150) :: []))), (q_143, .inl (cI, 30, .inl (fun _ => 0))), (q_144, .inl (cI, 30, .inl (fun _ => 0))), (q_145, .inl (cI, 30, .inl (fun _ => 0))), (q_146, .inl (cI, 30, .inl (fun _ => 0))), (q_147, .inl (cI, 30, .inl (fun _ => 0)))]) (k := 116) (n := 11963) (xc_runV (As := [.int 1]) (rest := []) hx hb hml hown hts hG hE hP hD hS hA [0, 1, 2, 3, 4, 5, 6] (by decide) rfl (cX9_harbours_1 l D cB cI cJ cZ aK aV q_1 1 q_2 q_3 q_4 q_5 q_6 q_7 q_8 q_9 q_10 q_11 q_12 q_13 q_96 q_97 q_98 q_99 q_100 ((fun _ => 0))) kw1187 kw1184 kw1185 kw1186 kw112 (show XD yX9_harbours 1 from by decide +kernel) (by decide) rfl rfl 0 rfl hl.1 rfl (Nat.le_of_ble_eq_true rfl) dL_law_1233 (by decide)) hP hD hS hA [0, 1, 2, 3, 4, 5, 6] [7, 8, 9, 10, 11, 12] rfl rfl (by decide) (by decide) (Nat.le_of_ble_eq_true rfl) (Nat.le_of_ble_eq_true rfl) (fun r w1 H locs hpost hP hD hS => ?_)
        obtain rfl := hpost
        have hP := hP.sub (ws' := [(q_102, .inr (10, ((.ref q_103) :: (.ref q_104) :: (.int 0) :: (.int 0) :: (.int 0) :: (.int (-1)) :: (.int 0) :: (.int 0) :: (.int 0) :: (.int 0) :: (.long 0) :: (.ref q_105) :: (.ref q_106) :: (.ref q_107) :: (.ref q_108) :: (.ref q_109) :: (.ref q_110) :: (.ref q_111) :: (.ref q_112) :: (.ref q_113) :: (.ref q_114) :: (.ref q_115) :: (.ref q_116) :: (.ref q_117) :: (.ref q_118) :: (.ref q_119) :: (.ref q_120) :: (.ref q_121) :: (.ref q_122) :: (.ref q_123) :: (.ref q_124) :: (.ref q_125) :: (.ref q_126) :: (.ref q_127) :: (.ref q_128) :: (.ref q_129) :: (.ref q_130) :: (.ref q_131) :: (.ref q_132) :: (.ref q_133) :: (.ref q_134) :: (.int 0) :: (.int 0) :: (.int 0) :: (.int 0) :: (.int 0) :: (.int 0) :: (.int 0) :: (.int 0) :: (.int 0) :: (.ref q_135) :: (.ref q_136) :: (.int 0) :: (.ref q_137) :: (.int 0) :: (.int 0) :: (.int 0) :: (.int 0) :: (.int 0) :: (.int 0) :: (.ref q_138) :: (.int 0) :: (.ref q_139) :: (.ref q_140) :: (.ref q_141) :: (.ref q_142) :: (.ref q_143) :: (.ref q_144) :: (.ref q_145) :: (.ref q_146) :: (.ref q_147) :: (.ref q_148) :: (.int 0) :: (.int 0) :: (.ref q_149) :: (.ref q_150) :: []))), (q_143, .inl (cI, 30, .inl (fun _ => 0))), (q_144, .inl (cI, 30, .inl (fun _ => 0))), (q_145, .inl (cI, 30, .inl (fun _ => 0))), (q_146, .inl (cI, 30, .inl (fun _ => 0))), (q_147, .inl (cI, 30, .inl (fun _ => 0)))]) [0, 1, 2, 3, 4, 5] rfl
        have hD := hD.sub (ws' := [(q_102, .inr (10, ((.ref q_103) :: (.ref q_104) :: (.int 0) :: (.int 0) :: (.int 0) :: (.int (-1)) :: (.int 0) :: (.int 0) :: (.int 0) :: (.int 0) :: (.long 0) :: (.ref q_105) :: (.ref q_106) :: (.ref q_107) :: (.ref q_108) :: (.ref q_109) :: (.ref q_110) :: (.ref q_111) :: (.ref q_112) :: (.ref q_113) :: (.ref q_114) :: (.ref q_115) :: (.ref q_116) :: (.ref q_117) :: (.ref q_118) :: (.ref q_119) :: (.ref q_120) :: (.ref q_121) :: (.ref q_122) :: (.ref q_123) :: (.ref q_124) :: (.ref q_125) :: (.ref q_126) :: (.ref q_127) :: (.ref q_128) :: (.ref q_129) :: (.ref q_130) :: (.ref q_131) :: (.ref q_132) :: (.ref q_133) :: (.ref q_134) :: (.int 0) :: (.int 0) :: (.int 0) :: (.int 0) :: (.int 0) :: (.int 0) :: (.int 0) :: (.int 0) :: (.int 0) :: (.ref q_135) :: (.ref q_136) :: (.int 0) :: (.ref q_137) :: (.int 0) :: (.int 0) :: (.int 0) :: (.int 0) :: (.int 0) :: (.int 0) :: (.ref q_138) :: (.int 0) :: (.ref q_139) :: (.ref q_140) :: (.ref q_141) :: (.ref q_142) :: (.ref q_143) :: (.ref q_144) :: (.ref q_145) :: (.ref q_146) :: (.ref q_147) :: (.ref q_148) :: (.int 0) :: (.int 0) :: (.ref q_149) :: (.ref q_150) :: []))), (q_143, .inl (cI, 30, .inl (fun _ => 0))), (q_144, .inl (cI, 30, .inl (fun _ => 0))), (q_145, .inl (cI, 30, .inl (fun _ => 0))), (q_146, .inl (cI, 30, .inl (fun _ => 0))), (q_147, .inl (cI, 30, .inl (fun _ => 0)))]) [0, 1, 2, 3, 4, 5] (by decide) rfl
        refine lv_aload_n hx hb dL_law_1236 rfl (lv_at hl 1 rfl) ?_
        refine lv_aload_n hx hb dL_law_1237 rfl (lv_at hl 3 rfl) ?_
        refine lv_iload_n hx hb dL_law_1238 rfl (lv_at hl 0 rfl) ?_
        refine lv_iconst (v := 1) hx hb dL_law_1239 (by decide +kernel) ?_
        refine lv_iadd hx hb dL_law_1240 ?_
        refine xt_i (v := 1) (by decide +kernel) ?_
        refine va_sld hx hb hX hbl hbA hS (vin (by decide +kernel)) dL_law_1241 ?_
        refine xt_i (v := xs 1) rfl ?_
        refine lv_if_eq (tgt := 1249) hx hb dL_law_1242 (by decide) (fun c_199 => (by exfalso; have zc_197 := mt Int32.toInt_inj.mp c_197; have zc_199 := congrArg Int32.toInt c_199; have i32_0 : (0 : Int32).toInt = 0 := (by decide); omega)) (fun _ => ?_)
        refine lv_iconst (v := 1) hx hb dL_law_1245 (by decide +kernel) ?_
        refine lv_goto (tgt := 1250) hx hb dL_law_1246 (by decide) ?_
        refine xc_core (wr := []) (k := 116) (n := 11963) (xc_runV (As := [.int 1]) (rest := [.int 0]) hx hb hml hown hts hG hE hP hD hS hA [0, 1, 2, 3, 4, 5] (by decide) rfl (cX10_harbours_1 l D cB cI cJ cZ aK aV q_102 1 q_103 q_104 q_105 q_106 q_107 q_108 q_109 q_110 q_111 q_112 q_113 q_114 q_115 q_116 q_117 q_118 q_119 q_120 q_121 q_122 q_123 q_124 q_125 q_126 q_127 q_128 q_129 q_130 q_131 q_132 q_133 q_134 q_135 q_136 q_137 q_138 q_139 q_140 q_141 q_142 q_143 q_144 q_145 q_146 q_147 q_148 q_149 q_150 ((fun _ => 0))) kw1955 kw1952 kw1953 kw1954 kw127 (show XD yX10_harbours 1 from by decide +kernel) (by decide) rfl rfl 0 rfl hl.1 rfl (Nat.le_of_ble_eq_true rfl) dL_law_1250 (by decide)) hP hD hS hA [0, 1, 2, 3, 4, 5] [] rfl rfl (by decide) (by decide) (Nat.le_of_ble_eq_true rfl) (Nat.le_of_ble_eq_true rfl) (fun r w1 H locs hpost hP hD hS => ?_)
        obtain rfl := hpost
        have hP := hP.sub (ws' := []) [] rfl
        have hD := hD.sub (ws' := []) [] (by decide) rfl
        refine lv_icmp_eq (tgt := 1527) hx hb dL_law_1253 (by decide) (fun _ => ?_) (fun h => absurd h (by decide +kernel))
        refine lv_iinc (v := 6) (lv' := [(3, .int 6), (2, .ref q_102), (1, .ref q_1), (0, .ref b)]) hx hb dL_law_1527 hl (k := 0) rfl (by decide +kernel) (by decide) rfl (fun ls hl => ?_)
        refine lv_goto (tgt := 18) hx hb dL_law_1530 (by decide) ?_
        refine lv_iload_n hx hb dL_law_18 rfl (lv_at hl 0 rfl) ?_
        refine lv_aload_n hx hb dL_law_19 rfl (lv_at hl 3 rfl) ?_
        refine va_slen hx hb hX hbl hbA hS dL_law_20 ?_
        refine xt_i (v := 6) (by decide +kernel) ?_
        refine lv_bipush (v := 6) hx hb dL_law_21 (by decide +kernel) ?_
        refine lv_isub hx hb dL_law_23 ?_
        refine xt_i (v := 0) (by decide +kernel) ?_
        refine lv_icmp_gt (tgt := 1533) hx hb dL_law_24 (by decide) (fun _ => ?_) (fun h => absurd h (by decide +kernel))
        refine lv_iconst (v := 1) hx hb dL_law_1533 (by decide +kernel) ?_
        refine va_forget (fun q hq => by have z := hS.2.2 q hq; rw [hAe] at z; exact z) ?_
        refine W.widen (k := 600000) (n := 7302250) (Nat.le_of_ble_eq_true rfl) (Nat.le_of_ble_eq_true rfl) ?_
        exact lw_ret hx hb hr hlocks dL_law_1534
    by_cases c_200 : v_157 = 36
    · subst c_200
      have hP := hP.sub (ws' := [(q_1, .inr (9, [.ref q_2, .ref q_3, .ref q_4, .ref q_5, .ref q_6, .ref q_7, .ref q_8, .ref q_9, .ref q_10, .ref q_11, .ref q_12, .ref q_13, .int 0])), (q_4, .inr (8, [.int 0, .int 0, .int 0, .ref q_16, .ref q_17, .ref q_18, .ref q_19, .ref q_20, .ref q_21, .ref q_22, .ref q_23, .ref q_24, .ref q_25, .int 0, .int 1, .int 0, .int 0, .int 0])), (q_102, .inr (10, ((.ref q_103) :: (.ref q_104) :: (.int 0) :: (.int 0) :: (.int 0) :: (.int (-1)) :: (.int 0) :: (.int 0) :: (.int 0) :: (.int 0) :: (.long 0) :: (.ref q_105) :: (.ref q_106) :: (.ref q_107) :: (.ref q_108) :: (.ref q_109) :: (.ref q_110) :: (.ref q_111) :: (.ref q_112) :: (.ref q_113) :: (.ref q_114) :: (.ref q_115) :: (.ref q_116) :: (.ref q_117) :: (.ref q_118) :: (.ref q_119) :: (.ref q_120) :: (.ref q_121) :: (.ref q_122) :: (.ref q_123) :: (.ref q_124) :: (.ref q_125) :: (.ref q_126) :: (.ref q_127) :: (.ref q_128) :: (.ref q_129) :: (.ref q_130) :: (.ref q_131) :: (.ref q_132) :: (.ref q_133) :: (.ref q_134) :: (.int 0) :: (.int 0) :: (.int 0) :: (.int 0) :: (.int 0) :: (.int 0) :: (.int 0) :: (.int 0) :: (.int 0) :: (.ref q_135) :: (.ref q_136) :: (.int 0) :: (.ref q_137) :: (.int 0) :: (.int 0) :: (.int 0) :: (.int 0) :: (.int 0) :: (.int 0) :: (.ref q_138) :: (.int 0) :: (.ref q_139) :: (.ref q_140) :: (.ref q_141) :: (.ref q_142) :: (.ref q_143) :: (.ref q_144) :: (.ref q_145) :: (.ref q_146) :: (.ref q_147) :: (.ref q_148) :: (.int 0) :: (.int 0) :: (.ref q_149) :: (.ref q_150) :: []))), (q_105, .inl (cI, 2, .inl (lst [0, 0])))]) [0, 3, 67, 70] rfl
      have hD := hD.sub (ws' := [(q_1, .inr (9, [.ref q_2, .ref q_3, .ref q_4, .ref q_5, .ref q_6, .ref q_7, .ref q_8, .ref q_9, .ref q_10, .ref q_11, .ref q_12, .ref q_13, .int 0])), (q_4, .inr (8, [.int 0, .int 0, .int 0, .ref q_16, .ref q_17, .ref q_18, .ref q_19, .ref q_20, .ref q_21, .ref q_22, .ref q_23, .ref q_24, .ref q_25, .int 0, .int 1, .int 0, .int 0, .int 0])), (q_102, .inr (10, ((.ref q_103) :: (.ref q_104) :: (.int 0) :: (.int 0) :: (.int 0) :: (.int (-1)) :: (.int 0) :: (.int 0) :: (.int 0) :: (.int 0) :: (.long 0) :: (.ref q_105) :: (.ref q_106) :: (.ref q_107) :: (.ref q_108) :: (.ref q_109) :: (.ref q_110) :: (.ref q_111) :: (.ref q_112) :: (.ref q_113) :: (.ref q_114) :: (.ref q_115) :: (.ref q_116) :: (.ref q_117) :: (.ref q_118) :: (.ref q_119) :: (.ref q_120) :: (.ref q_121) :: (.ref q_122) :: (.ref q_123) :: (.ref q_124) :: (.ref q_125) :: (.ref q_126) :: (.ref q_127) :: (.ref q_128) :: (.ref q_129) :: (.ref q_130) :: (.ref q_131) :: (.ref q_132) :: (.ref q_133) :: (.ref q_134) :: (.int 0) :: (.int 0) :: (.int 0) :: (.int 0) :: (.int 0) :: (.int 0) :: (.int 0) :: (.int 0) :: (.int 0) :: (.ref q_135) :: (.ref q_136) :: (.int 0) :: (.ref q_137) :: (.int 0) :: (.int 0) :: (.int 0) :: (.int 0) :: (.int 0) :: (.int 0) :: (.ref q_138) :: (.int 0) :: (.ref q_139) :: (.ref q_140) :: (.ref q_141) :: (.ref q_142) :: (.ref q_143) :: (.ref q_144) :: (.ref q_145) :: (.ref q_146) :: (.ref q_147) :: (.ref q_148) :: (.int 0) :: (.int 0) :: (.ref q_149) :: (.ref q_150) :: []))), (q_105, .inl (cI, 2, .inl (lst [0, 0])))]) [0, 3, 67, 70] (by decide) rfl
      refine lv_tableIn (off := 1225) (tgt := 1258) hx hb dL_law_33 (by decide) (by decide) (by decide +kernel) (by decide) ?_
      refine lv_aload_n hx hb dL_law_1258 rfl (lv_at hl 2 rfl) ?_
      refine lv_aload_n hx hb dL_law_1259 rfl (lv_at hl 3 rfl) ?_
      refine lv_iload_n hx hb dL_law_1260 rfl (lv_at hl 0 rfl) ?_
      refine lv_iconst (v := 1) hx hb dL_law_1261 (by decide +kernel) ?_
      refine lv_iadd hx hb dL_law_1262 ?_
      refine xt_i (v := 1) (by decide +kernel) ?_
      refine va_sld hx hb hX hbl hbA hS (vin (by decide +kernel)) dL_law_1263 ?_
      refine xt_i (v := xs 1) rfl ?_
      refine lv_aload_n hx hb dL_law_1264 rfl (lv_at hl 3 rfl) ?_
      refine lv_iload_n hx hb dL_law_1265 rfl (lv_at hl 0 rfl) ?_
      refine lv_iconst (v := 2) hx hb dL_law_1266 (by decide +kernel) ?_
      refine lv_iadd hx hb dL_law_1267 ?_
      refine xt_i (v := 2) (by decide +kernel) ?_
      refine va_sld hx hb hX hbl hbA hS (vin (by decide +kernel)) dL_law_1268 ?_
      refine xt_i (v := xs 2) rfl ?_
      refine lv_if_eq (tgt := 1276) hx hb dL_law_1269 (by decide) (fun c_201 => ?_) (fun c_201 => ?_)
      · -- (xs 2) eq 0 True
        refine lv_iconst (v := 0) hx hb dL_law_1276 (by decide +kernel) ?_
        refine xc_core (wr := [(q_102, .inr (10, ((.ref q_103) :: (.ref q_104) :: (.int 0) :: (.int 0) :: (.int 0) :: (.int (-1)) :: (.int 0) :: (.int 0) :: (.int 0) :: (.int 0) :: (.long 0) :: (.ref q_105) :: (.ref q_106) :: (.ref q_107) :: (.ref q_108) :: (.ref q_109) :: (.ref q_110) :: (.ref q_111) :: (.ref q_112) :: (.ref q_113) :: (.ref q_114) :: (.ref q_115) :: (.ref q_116) :: (.ref q_117) :: (.ref q_118) :: (.ref q_119) :: (.ref q_120) :: (.ref q_121) :: (.ref q_122) :: (.ref q_123) :: (.ref q_124) :: (.ref q_125) :: (.ref q_126) :: (.ref q_127) :: (.ref q_128) :: (.ref q_129) :: (.ref q_130) :: (.ref q_131) :: (.ref q_132) :: (.ref q_133) :: (.ref q_134) :: (.int 0) :: (.int 0) :: (.int 0) :: (.int 0) :: (.int 0) :: (.int 0) :: (.int 0) :: (.int 0) :: (.int 0) :: (.ref q_135) :: (.ref q_136) :: (.int 0) :: (.ref q_137) :: (.int 0) :: (.int 0) :: (.int 0) :: (.int 0) :: (.int 0) :: (.int 0) :: (.ref q_138) :: (.int 0) :: (.ref q_139) :: (.ref q_140) :: (.ref q_141) :: (.ref q_142) :: (.ref q_143) :: (.ref q_144) :: (.ref q_145) :: (.ref q_146) :: (.ref q_147) :: (.ref q_148) :: (.int 0) :: (.int 0) :: (.ref q_149) :: (.ref q_150) :: []))), (q_105, .inl (cI, 2, .inl (lst [0, 0])))]) (k := 116) (n := 11963) (xc_runV (As := [.int (xs 1), .int 0]) (rest := []) hx hb hml hown hts hG hE hP hD hS hA [0, 1] (by decide) rfl (cX9_holds_1 l D cB cI cJ cZ aK aV q_1 ((xs 1)) 0 q_2 q_3 q_4 q_5 q_6 q_7 q_8 q_9 q_10 q_11 q_12 q_13 q_16 q_17 q_18 q_19 q_20 q_21 q_22 q_23 q_24 q_25) kw1191 kw1188 kw1189 kw1190 kw112 (show XD yX9_holds 2 from by decide +kernel) (by decide) rfl rfl 0 rfl hl.1 rfl (Nat.le_of_ble_eq_true rfl) dL_law_1277 (by decide)) hP hD hS hA [0, 1] [2, 3] rfl rfl (by decide) (by decide) (Nat.le_of_ble_eq_true rfl) (Nat.le_of_ble_eq_true rfl) (fun r w1 H locs hpost hP hD hS => ?_)
        obtain rfl := hpost
        have hP := hP.sub (ws' := [(q_102, .inr (10, ((.ref q_103) :: (.ref q_104) :: (.int 0) :: (.int 0) :: (.int 0) :: (.int (-1)) :: (.int 0) :: (.int 0) :: (.int 0) :: (.int 0) :: (.long 0) :: (.ref q_105) :: (.ref q_106) :: (.ref q_107) :: (.ref q_108) :: (.ref q_109) :: (.ref q_110) :: (.ref q_111) :: (.ref q_112) :: (.ref q_113) :: (.ref q_114) :: (.ref q_115) :: (.ref q_116) :: (.ref q_117) :: (.ref q_118) :: (.ref q_119) :: (.ref q_120) :: (.ref q_121) :: (.ref q_122) :: (.ref q_123) :: (.ref q_124) :: (.ref q_125) :: (.ref q_126) :: (.ref q_127) :: (.ref q_128) :: (.ref q_129) :: (.ref q_130) :: (.ref q_131) :: (.ref q_132) :: (.ref q_133) :: (.ref q_134) :: (.int 0) :: (.int 0) :: (.int 0) :: (.int 0) :: (.int 0) :: (.int 0) :: (.int 0) :: (.int 0) :: (.int 0) :: (.ref q_135) :: (.ref q_136) :: (.int 0) :: (.ref q_137) :: (.int 0) :: (.int 0) :: (.int 0) :: (.int 0) :: (.int 0) :: (.int 0) :: (.ref q_138) :: (.int 0) :: (.ref q_139) :: (.ref q_140) :: (.ref q_141) :: (.ref q_142) :: (.ref q_143) :: (.ref q_144) :: (.ref q_145) :: (.ref q_146) :: (.ref q_147) :: (.ref q_148) :: (.int 0) :: (.int 0) :: (.ref q_149) :: (.ref q_150) :: []))), (q_105, .inl (cI, 2, .inl (lst [0, 0])))]) [0, 1] rfl
        have hD := hD.sub (ws' := [(q_102, .inr (10, ((.ref q_103) :: (.ref q_104) :: (.int 0) :: (.int 0) :: (.int 0) :: (.int (-1)) :: (.int 0) :: (.int 0) :: (.int 0) :: (.int 0) :: (.long 0) :: (.ref q_105) :: (.ref q_106) :: (.ref q_107) :: (.ref q_108) :: (.ref q_109) :: (.ref q_110) :: (.ref q_111) :: (.ref q_112) :: (.ref q_113) :: (.ref q_114) :: (.ref q_115) :: (.ref q_116) :: (.ref q_117) :: (.ref q_118) :: (.ref q_119) :: (.ref q_120) :: (.ref q_121) :: (.ref q_122) :: (.ref q_123) :: (.ref q_124) :: (.ref q_125) :: (.ref q_126) :: (.ref q_127) :: (.ref q_128) :: (.ref q_129) :: (.ref q_130) :: (.ref q_131) :: (.ref q_132) :: (.ref q_133) :: (.ref q_134) :: (.int 0) :: (.int 0) :: (.int 0) :: (.int 0) :: (.int 0) :: (.int 0) :: (.int 0) :: (.int 0) :: (.int 0) :: (.ref q_135) :: (.ref q_136) :: (.int 0) :: (.ref q_137) :: (.int 0) :: (.int 0) :: (.int 0) :: (.int 0) :: (.int 0) :: (.int 0) :: (.ref q_138) :: (.int 0) :: (.ref q_139) :: (.ref q_140) :: (.ref q_141) :: (.ref q_142) :: (.ref q_143) :: (.ref q_144) :: (.ref q_145) :: (.ref q_146) :: (.ref q_147) :: (.ref q_148) :: (.int 0) :: (.int 0) :: (.ref q_149) :: (.ref q_150) :: []))), (q_105, .inl (cI, 2, .inl (lst [0, 0])))]) [0, 1] (by decide) rfl
        refine lv_aload_n hx hb dL_law_1280 rfl (lv_at hl 1 rfl) ?_
        refine lv_aload_n hx hb dL_law_1281 rfl (lv_at hl 3 rfl) ?_
        refine lv_iload_n hx hb dL_law_1282 rfl (lv_at hl 0 rfl) ?_
        refine lv_iconst (v := 1) hx hb dL_law_1283 (by decide +kernel) ?_
        refine lv_iadd hx hb dL_law_1284 ?_
        refine xt_i (v := 1) (by decide +kernel) ?_
        refine va_sld hx hb hX hbl hbA hS (vin (by decide +kernel)) dL_law_1285 ?_
        refine xt_i (v := xs 1) rfl ?_
        refine lv_aload_n hx hb dL_law_1286 rfl (lv_at hl 3 rfl) ?_
        refine lv_iload_n hx hb dL_law_1287 rfl (lv_at hl 0 rfl) ?_
        refine lv_iconst (v := 2) hx hb dL_law_1288 (by decide +kernel) ?_
        refine lv_iadd hx hb dL_law_1289 ?_
        refine xt_i (v := 2) (by decide +kernel) ?_
        refine va_sld hx hb hX hbl hbA hS (vin (by decide +kernel)) dL_law_1290 ?_
        refine xt_i (v := xs 2) rfl ?_
        refine lv_if_eq (tgt := 1298) hx hb dL_law_1291 (by decide) (fun _ => ?_) (fun c_202 => (by exfalso; have zc_201 := congrArg Int32.toInt c_201; have zc_202 := mt Int32.toInt_inj.mp c_202; have i32_0 : (0 : Int32).toInt = 0 := (by decide); omega))
        refine lv_iconst (v := 0) hx hb dL_law_1298 (by decide +kernel) ?_
        refine xc_core (wr := []) (k := 116) (n := 11963) (xc_runV (As := [.int (xs 1), .int 0]) (rest := [.int (-1)]) hx hb hml hown hts hG hE hP hD hS hA [0, 1] (by decide) rfl (cX10_holds_1 l D cB cI cJ cZ aK aV q_102 ((xs 1)) 0 q_103 q_104 q_105 q_106 q_107 q_108 q_109 q_110 q_111 q_112 q_113 q_114 q_115 q_116 q_117 q_118 q_119 q_120 q_121 q_122 q_123 q_124 q_125 q_126 q_127 q_128 q_129 q_130 q_131 q_132 q_133 q_134 q_135 q_136 q_137 q_138 q_139 q_140 q_141 q_142 q_143 q_144 q_145 q_146 q_147 q_148 q_149 q_150) kw1959 kw1956 kw1957 kw1958 kw127 (show XD yX10_holds 2 from by decide +kernel) (by decide) rfl rfl 0 rfl hl.1 rfl (Nat.le_of_ble_eq_true rfl) dL_law_1299 (by decide)) hP hD hS hA [0, 1] [] rfl rfl (by decide) (by decide) (Nat.le_of_ble_eq_true rfl) (Nat.le_of_ble_eq_true rfl) (fun r w1 H locs hpost hP hD hS => ?_)
        obtain rfl := hpost
        have hP := hP.sub (ws' := []) [] rfl
        have hD := hD.sub (ws' := []) [] (by decide) rfl
        refine lv_icmp_eq (tgt := 1527) hx hb dL_law_1302 (by decide) (fun _ => ?_) (fun h => absurd h (by decide +kernel))
        refine lv_iinc (v := 6) (lv' := [(3, .int 6), (2, .ref q_102), (1, .ref q_1), (0, .ref b)]) hx hb dL_law_1527 hl (k := 0) rfl (by decide +kernel) (by decide) rfl (fun ls hl => ?_)
        refine lv_goto (tgt := 18) hx hb dL_law_1530 (by decide) ?_
        refine lv_iload_n hx hb dL_law_18 rfl (lv_at hl 0 rfl) ?_
        refine lv_aload_n hx hb dL_law_19 rfl (lv_at hl 3 rfl) ?_
        refine va_slen hx hb hX hbl hbA hS dL_law_20 ?_
        refine xt_i (v := 6) (by decide +kernel) ?_
        refine lv_bipush (v := 6) hx hb dL_law_21 (by decide +kernel) ?_
        refine lv_isub hx hb dL_law_23 ?_
        refine xt_i (v := 0) (by decide +kernel) ?_
        refine lv_icmp_gt (tgt := 1533) hx hb dL_law_24 (by decide) (fun _ => ?_) (fun h => absurd h (by decide +kernel))
        refine lv_iconst (v := 1) hx hb dL_law_1533 (by decide +kernel) ?_
        refine va_forget (fun q hq => by have z := hS.2.2 q hq; rw [hAe] at z; exact z) ?_
        refine W.widen (k := 600000) (n := 7302250) (Nat.le_of_ble_eq_true rfl) (Nat.le_of_ble_eq_true rfl) ?_
        exact lw_ret hx hb hr hlocks dL_law_1534
      · -- (xs 2) eq 0 False
        refine lv_iconst (v := 1) hx hb dL_law_1272 (by decide +kernel) ?_
        refine lv_goto (tgt := 1277) hx hb dL_law_1273 (by decide) ?_
        refine xc_core (wr := [(q_102, .inr (10, ((.ref q_103) :: (.ref q_104) :: (.int 0) :: (.int 0) :: (.int 0) :: (.int (-1)) :: (.int 0) :: (.int 0) :: (.int 0) :: (.int 0) :: (.long 0) :: (.ref q_105) :: (.ref q_106) :: (.ref q_107) :: (.ref q_108) :: (.ref q_109) :: (.ref q_110) :: (.ref q_111) :: (.ref q_112) :: (.ref q_113) :: (.ref q_114) :: (.ref q_115) :: (.ref q_116) :: (.ref q_117) :: (.ref q_118) :: (.ref q_119) :: (.ref q_120) :: (.ref q_121) :: (.ref q_122) :: (.ref q_123) :: (.ref q_124) :: (.ref q_125) :: (.ref q_126) :: (.ref q_127) :: (.ref q_128) :: (.ref q_129) :: (.ref q_130) :: (.ref q_131) :: (.ref q_132) :: (.ref q_133) :: (.ref q_134) :: (.int 0) :: (.int 0) :: (.int 0) :: (.int 0) :: (.int 0) :: (.int 0) :: (.int 0) :: (.int 0) :: (.int 0) :: (.ref q_135) :: (.ref q_136) :: (.int 0) :: (.ref q_137) :: (.int 0) :: (.int 0) :: (.int 0) :: (.int 0) :: (.int 0) :: (.int 0) :: (.ref q_138) :: (.int 0) :: (.ref q_139) :: (.ref q_140) :: (.ref q_141) :: (.ref q_142) :: (.ref q_143) :: (.ref q_144) :: (.ref q_145) :: (.ref q_146) :: (.ref q_147) :: (.ref q_148) :: (.int 0) :: (.int 0) :: (.ref q_149) :: (.ref q_150) :: []))), (q_105, .inl (cI, 2, .inl (lst [0, 0])))]) (k := 116) (n := 11963) (xc_runV (As := [.int (xs 1), .int 1]) (rest := []) hx hb hml hown hts hG hE hP hD hS hA [0, 1] (by decide) rfl (cX9_holds_1 l D cB cI cJ cZ aK aV q_1 ((xs 1)) 1 q_2 q_3 q_4 q_5 q_6 q_7 q_8 q_9 q_10 q_11 q_12 q_13 q_16 q_17 q_18 q_19 q_20 q_21 q_22 q_23 q_24 q_25) kw1191 kw1188 kw1189 kw1190 kw112 (show XD yX9_holds 2 from by decide +kernel) (by decide) rfl rfl 0 rfl hl.1 rfl (Nat.le_of_ble_eq_true rfl) dL_law_1277 (by decide)) hP hD hS hA [0, 1] [2, 3] rfl rfl (by decide) (by decide) (Nat.le_of_ble_eq_true rfl) (Nat.le_of_ble_eq_true rfl) (fun r w1 H locs hpost hP hD hS => ?_)
        obtain rfl := hpost
        have hP := hP.sub (ws' := [(q_102, .inr (10, ((.ref q_103) :: (.ref q_104) :: (.int 0) :: (.int 0) :: (.int 0) :: (.int (-1)) :: (.int 0) :: (.int 0) :: (.int 0) :: (.int 0) :: (.long 0) :: (.ref q_105) :: (.ref q_106) :: (.ref q_107) :: (.ref q_108) :: (.ref q_109) :: (.ref q_110) :: (.ref q_111) :: (.ref q_112) :: (.ref q_113) :: (.ref q_114) :: (.ref q_115) :: (.ref q_116) :: (.ref q_117) :: (.ref q_118) :: (.ref q_119) :: (.ref q_120) :: (.ref q_121) :: (.ref q_122) :: (.ref q_123) :: (.ref q_124) :: (.ref q_125) :: (.ref q_126) :: (.ref q_127) :: (.ref q_128) :: (.ref q_129) :: (.ref q_130) :: (.ref q_131) :: (.ref q_132) :: (.ref q_133) :: (.ref q_134) :: (.int 0) :: (.int 0) :: (.int 0) :: (.int 0) :: (.int 0) :: (.int 0) :: (.int 0) :: (.int 0) :: (.int 0) :: (.ref q_135) :: (.ref q_136) :: (.int 0) :: (.ref q_137) :: (.int 0) :: (.int 0) :: (.int 0) :: (.int 0) :: (.int 0) :: (.int 0) :: (.ref q_138) :: (.int 0) :: (.ref q_139) :: (.ref q_140) :: (.ref q_141) :: (.ref q_142) :: (.ref q_143) :: (.ref q_144) :: (.ref q_145) :: (.ref q_146) :: (.ref q_147) :: (.ref q_148) :: (.int 0) :: (.int 0) :: (.ref q_149) :: (.ref q_150) :: []))), (q_105, .inl (cI, 2, .inl (lst [0, 0])))]) [0, 1] rfl
        have hD := hD.sub (ws' := [(q_102, .inr (10, ((.ref q_103) :: (.ref q_104) :: (.int 0) :: (.int 0) :: (.int 0) :: (.int (-1)) :: (.int 0) :: (.int 0) :: (.int 0) :: (.int 0) :: (.long 0) :: (.ref q_105) :: (.ref q_106) :: (.ref q_107) :: (.ref q_108) :: (.ref q_109) :: (.ref q_110) :: (.ref q_111) :: (.ref q_112) :: (.ref q_113) :: (.ref q_114) :: (.ref q_115) :: (.ref q_116) :: (.ref q_117) :: (.ref q_118) :: (.ref q_119) :: (.ref q_120) :: (.ref q_121) :: (.ref q_122) :: (.ref q_123) :: (.ref q_124) :: (.ref q_125) :: (.ref q_126) :: (.ref q_127) :: (.ref q_128) :: (.ref q_129) :: (.ref q_130) :: (.ref q_131) :: (.ref q_132) :: (.ref q_133) :: (.ref q_134) :: (.int 0) :: (.int 0) :: (.int 0) :: (.int 0) :: (.int 0) :: (.int 0) :: (.int 0) :: (.int 0) :: (.int 0) :: (.ref q_135) :: (.ref q_136) :: (.int 0) :: (.ref q_137) :: (.int 0) :: (.int 0) :: (.int 0) :: (.int 0) :: (.int 0) :: (.int 0) :: (.ref q_138) :: (.int 0) :: (.ref q_139) :: (.ref q_140) :: (.ref q_141) :: (.ref q_142) :: (.ref q_143) :: (.ref q_144) :: (.ref q_145) :: (.ref q_146) :: (.ref q_147) :: (.ref q_148) :: (.int 0) :: (.int 0) :: (.ref q_149) :: (.ref q_150) :: []))), (q_105, .inl (cI, 2, .inl (lst [0, 0])))]) [0, 1] (by decide) rfl
        refine lv_aload_n hx hb dL_law_1280 rfl (lv_at hl 1 rfl) ?_
        refine lv_aload_n hx hb dL_law_1281 rfl (lv_at hl 3 rfl) ?_
        refine lv_iload_n hx hb dL_law_1282 rfl (lv_at hl 0 rfl) ?_
        refine lv_iconst (v := 1) hx hb dL_law_1283 (by decide +kernel) ?_
        refine lv_iadd hx hb dL_law_1284 ?_
        refine xt_i (v := 1) (by decide +kernel) ?_
        refine va_sld hx hb hX hbl hbA hS (vin (by decide +kernel)) dL_law_1285 ?_
        refine xt_i (v := xs 1) rfl ?_
        refine lv_aload_n hx hb dL_law_1286 rfl (lv_at hl 3 rfl) ?_
        refine lv_iload_n hx hb dL_law_1287 rfl (lv_at hl 0 rfl) ?_
        refine lv_iconst (v := 2) hx hb dL_law_1288 (by decide +kernel) ?_
        refine lv_iadd hx hb dL_law_1289 ?_
        refine xt_i (v := 2) (by decide +kernel) ?_
        refine va_sld hx hb hX hbl hbA hS (vin (by decide +kernel)) dL_law_1290 ?_
        refine xt_i (v := xs 2) rfl ?_
        refine lv_if_eq (tgt := 1298) hx hb dL_law_1291 (by decide) (fun c_203 => (by exfalso; have zc_201 := mt Int32.toInt_inj.mp c_201; have zc_203 := congrArg Int32.toInt c_203; have i32_0 : (0 : Int32).toInt = 0 := (by decide); omega)) (fun _ => ?_)
        refine lv_iconst (v := 1) hx hb dL_law_1294 (by decide +kernel) ?_
        refine lv_goto (tgt := 1299) hx hb dL_law_1295 (by decide) ?_
        refine xc_core (wr := []) (k := 116) (n := 11963) (xc_runV (As := [.int (xs 1), .int 1]) (rest := [.int (-1)]) hx hb hml hown hts hG hE hP hD hS hA [0, 1] (by decide) rfl (cX10_holds_1 l D cB cI cJ cZ aK aV q_102 ((xs 1)) 1 q_103 q_104 q_105 q_106 q_107 q_108 q_109 q_110 q_111 q_112 q_113 q_114 q_115 q_116 q_117 q_118 q_119 q_120 q_121 q_122 q_123 q_124 q_125 q_126 q_127 q_128 q_129 q_130 q_131 q_132 q_133 q_134 q_135 q_136 q_137 q_138 q_139 q_140 q_141 q_142 q_143 q_144 q_145 q_146 q_147 q_148 q_149 q_150) kw1959 kw1956 kw1957 kw1958 kw127 (show XD yX10_holds 2 from by decide +kernel) (by decide) rfl rfl 0 rfl hl.1 rfl (Nat.le_of_ble_eq_true rfl) dL_law_1299 (by decide)) hP hD hS hA [0, 1] [] rfl rfl (by decide) (by decide) (Nat.le_of_ble_eq_true rfl) (Nat.le_of_ble_eq_true rfl) (fun r w1 H locs hpost hP hD hS => ?_)
        obtain rfl := hpost
        have hP := hP.sub (ws' := []) [] rfl
        have hD := hD.sub (ws' := []) [] (by decide) rfl
        refine lv_icmp_eq (tgt := 1527) hx hb dL_law_1302 (by decide) (fun _ => ?_) (fun h => absurd h (by decide +kernel))
        refine lv_iinc (v := 6) (lv' := [(3, .int 6), (2, .ref q_102), (1, .ref q_1), (0, .ref b)]) hx hb dL_law_1527 hl (k := 0) rfl (by decide +kernel) (by decide) rfl (fun ls hl => ?_)
        refine lv_goto (tgt := 18) hx hb dL_law_1530 (by decide) ?_
        refine lv_iload_n hx hb dL_law_18 rfl (lv_at hl 0 rfl) ?_
        refine lv_aload_n hx hb dL_law_19 rfl (lv_at hl 3 rfl) ?_
        refine va_slen hx hb hX hbl hbA hS dL_law_20 ?_
        refine xt_i (v := 6) (by decide +kernel) ?_
        refine lv_bipush (v := 6) hx hb dL_law_21 (by decide +kernel) ?_
        refine lv_isub hx hb dL_law_23 ?_
        refine xt_i (v := 0) (by decide +kernel) ?_
        refine lv_icmp_gt (tgt := 1533) hx hb dL_law_24 (by decide) (fun _ => ?_) (fun h => absurd h (by decide +kernel))
        refine lv_iconst (v := 1) hx hb dL_law_1533 (by decide +kernel) ?_
        refine va_forget (fun q hq => by have z := hS.2.2 q hq; rw [hAe] at z; exact z) ?_
        refine W.widen (k := 600000) (n := 7302250) (Nat.le_of_ble_eq_true rfl) (Nat.le_of_ble_eq_true rfl) ?_
        exact lw_ret hx hb hr hlocks dL_law_1534
    by_cases c_204 : v_157 = 37
    · subst c_204
      have hP := hP.sub (ws' := [(q_1, .inr (9, [.ref q_2, .ref q_3, .ref q_4, .ref q_5, .ref q_6, .ref q_7, .ref q_8, .ref q_9, .ref q_10, .ref q_11, .ref q_12, .ref q_13, .int 0])), (q_4, .inr (8, [.int 0, .int 0, .int 0, .ref q_16, .ref q_17, .ref q_18, .ref q_19, .ref q_20, .ref q_21, .ref q_22, .ref q_23, .ref q_24, .ref q_25, .int 0, .int 1, .int 0, .int 0, .int 0])), (q_102, .inr (10, ((.ref q_103) :: (.ref q_104) :: (.int 0) :: (.int 0) :: (.int 0) :: (.int (-1)) :: (.int 0) :: (.int 0) :: (.int 0) :: (.int 0) :: (.long 0) :: (.ref q_105) :: (.ref q_106) :: (.ref q_107) :: (.ref q_108) :: (.ref q_109) :: (.ref q_110) :: (.ref q_111) :: (.ref q_112) :: (.ref q_113) :: (.ref q_114) :: (.ref q_115) :: (.ref q_116) :: (.ref q_117) :: (.ref q_118) :: (.ref q_119) :: (.ref q_120) :: (.ref q_121) :: (.ref q_122) :: (.ref q_123) :: (.ref q_124) :: (.ref q_125) :: (.ref q_126) :: (.ref q_127) :: (.ref q_128) :: (.ref q_129) :: (.ref q_130) :: (.ref q_131) :: (.ref q_132) :: (.ref q_133) :: (.ref q_134) :: (.int 0) :: (.int 0) :: (.int 0) :: (.int 0) :: (.int 0) :: (.int 0) :: (.int 0) :: (.int 0) :: (.int 0) :: (.ref q_135) :: (.ref q_136) :: (.int 0) :: (.ref q_137) :: (.int 0) :: (.int 0) :: (.int 0) :: (.int 0) :: (.int 0) :: (.int 0) :: (.ref q_138) :: (.int 0) :: (.ref q_139) :: (.ref q_140) :: (.ref q_141) :: (.ref q_142) :: (.ref q_143) :: (.ref q_144) :: (.ref q_145) :: (.ref q_146) :: (.ref q_147) :: (.ref q_148) :: (.int 0) :: (.int 0) :: (.ref q_149) :: (.ref q_150) :: []))), (q_106, .inl (cI, 2, .inl (lst [0, 0])))]) [0, 3, 67, 71] rfl
      have hD := hD.sub (ws' := [(q_1, .inr (9, [.ref q_2, .ref q_3, .ref q_4, .ref q_5, .ref q_6, .ref q_7, .ref q_8, .ref q_9, .ref q_10, .ref q_11, .ref q_12, .ref q_13, .int 0])), (q_4, .inr (8, [.int 0, .int 0, .int 0, .ref q_16, .ref q_17, .ref q_18, .ref q_19, .ref q_20, .ref q_21, .ref q_22, .ref q_23, .ref q_24, .ref q_25, .int 0, .int 1, .int 0, .int 0, .int 0])), (q_102, .inr (10, ((.ref q_103) :: (.ref q_104) :: (.int 0) :: (.int 0) :: (.int 0) :: (.int (-1)) :: (.int 0) :: (.int 0) :: (.int 0) :: (.int 0) :: (.long 0) :: (.ref q_105) :: (.ref q_106) :: (.ref q_107) :: (.ref q_108) :: (.ref q_109) :: (.ref q_110) :: (.ref q_111) :: (.ref q_112) :: (.ref q_113) :: (.ref q_114) :: (.ref q_115) :: (.ref q_116) :: (.ref q_117) :: (.ref q_118) :: (.ref q_119) :: (.ref q_120) :: (.ref q_121) :: (.ref q_122) :: (.ref q_123) :: (.ref q_124) :: (.ref q_125) :: (.ref q_126) :: (.ref q_127) :: (.ref q_128) :: (.ref q_129) :: (.ref q_130) :: (.ref q_131) :: (.ref q_132) :: (.ref q_133) :: (.ref q_134) :: (.int 0) :: (.int 0) :: (.int 0) :: (.int 0) :: (.int 0) :: (.int 0) :: (.int 0) :: (.int 0) :: (.int 0) :: (.ref q_135) :: (.ref q_136) :: (.int 0) :: (.ref q_137) :: (.int 0) :: (.int 0) :: (.int 0) :: (.int 0) :: (.int 0) :: (.int 0) :: (.ref q_138) :: (.int 0) :: (.ref q_139) :: (.ref q_140) :: (.ref q_141) :: (.ref q_142) :: (.ref q_143) :: (.ref q_144) :: (.ref q_145) :: (.ref q_146) :: (.ref q_147) :: (.ref q_148) :: (.int 0) :: (.int 0) :: (.ref q_149) :: (.ref q_150) :: []))), (q_106, .inl (cI, 2, .inl (lst [0, 0])))]) [0, 3, 67, 71] (by decide) rfl
      refine lv_tableIn (off := 1274) (tgt := 1307) hx hb dL_law_33 (by decide) (by decide) (by decide +kernel) (by decide) ?_
      refine lv_aload_n hx hb dL_law_1307 rfl (lv_at hl 2 rfl) ?_
      refine lv_aload_n hx hb dL_law_1308 rfl (lv_at hl 3 rfl) ?_
      refine lv_iload_n hx hb dL_law_1309 rfl (lv_at hl 0 rfl) ?_
      refine lv_iconst (v := 1) hx hb dL_law_1310 (by decide +kernel) ?_
      refine lv_iadd hx hb dL_law_1311 ?_
      refine xt_i (v := 1) (by decide +kernel) ?_
      refine va_sld hx hb hX hbl hbA hS (vin (by decide +kernel)) dL_law_1312 ?_
      refine xt_i (v := xs 1) rfl ?_
      refine lv_aload_n hx hb dL_law_1313 rfl (lv_at hl 3 rfl) ?_
      refine lv_iload_n hx hb dL_law_1314 rfl (lv_at hl 0 rfl) ?_
      refine lv_iconst (v := 2) hx hb dL_law_1315 (by decide +kernel) ?_
      refine lv_iadd hx hb dL_law_1316 ?_
      refine xt_i (v := 2) (by decide +kernel) ?_
      refine va_sld hx hb hX hbl hbA hS (vin (by decide +kernel)) dL_law_1317 ?_
      refine xt_i (v := xs 2) rfl ?_
      refine lv_if_eq (tgt := 1325) hx hb dL_law_1318 (by decide) (fun c_205 => ?_) (fun c_205 => ?_)
      · -- (xs 2) eq 0 True
        refine lv_iconst (v := 0) hx hb dL_law_1325 (by decide +kernel) ?_
        refine xc_core (wr := [(q_102, .inr (10, ((.ref q_103) :: (.ref q_104) :: (.int 0) :: (.int 0) :: (.int 0) :: (.int (-1)) :: (.int 0) :: (.int 0) :: (.int 0) :: (.int 0) :: (.long 0) :: (.ref q_105) :: (.ref q_106) :: (.ref q_107) :: (.ref q_108) :: (.ref q_109) :: (.ref q_110) :: (.ref q_111) :: (.ref q_112) :: (.ref q_113) :: (.ref q_114) :: (.ref q_115) :: (.ref q_116) :: (.ref q_117) :: (.ref q_118) :: (.ref q_119) :: (.ref q_120) :: (.ref q_121) :: (.ref q_122) :: (.ref q_123) :: (.ref q_124) :: (.ref q_125) :: (.ref q_126) :: (.ref q_127) :: (.ref q_128) :: (.ref q_129) :: (.ref q_130) :: (.ref q_131) :: (.ref q_132) :: (.ref q_133) :: (.ref q_134) :: (.int 0) :: (.int 0) :: (.int 0) :: (.int 0) :: (.int 0) :: (.int 0) :: (.int 0) :: (.int 0) :: (.int 0) :: (.ref q_135) :: (.ref q_136) :: (.int 0) :: (.ref q_137) :: (.int 0) :: (.int 0) :: (.int 0) :: (.int 0) :: (.int 0) :: (.int 0) :: (.ref q_138) :: (.int 0) :: (.ref q_139) :: (.ref q_140) :: (.ref q_141) :: (.ref q_142) :: (.ref q_143) :: (.ref q_144) :: (.ref q_145) :: (.ref q_146) :: (.ref q_147) :: (.ref q_148) :: (.int 0) :: (.int 0) :: (.ref q_149) :: (.ref q_150) :: []))), (q_106, .inl (cI, 2, .inl (lst [0, 0])))]) (k := 116) (n := 11963) (xc_runV (As := [.int (xs 1), .int 0]) (rest := []) hx hb hml hown hts hG hE hP hD hS hA [0, 1] (by decide) rfl (cX9_grows_1 l D cB cI cJ cZ aK aV q_1 ((xs 1)) 0 q_2 q_3 q_4 q_5 q_6 q_7 q_8 q_9 q_10 q_11 q_12 q_13 q_16 q_17 q_18 q_19 q_20 q_21 q_22 q_23 q_24 q_25) kw1195 kw1192 kw1193 kw1194 kw112 (show XD yX9_grows 2 from by decide +kernel) (by decide) rfl rfl 0 rfl hl.1 rfl (Nat.le_of_ble_eq_true rfl) dL_law_1326 (by decide)) hP hD hS hA [0, 1] [2, 3] rfl rfl (by decide) (by decide) (Nat.le_of_ble_eq_true rfl) (Nat.le_of_ble_eq_true rfl) (fun r w1 H locs hpost hP hD hS => ?_)
        obtain rfl := hpost
        have hP := hP.sub (ws' := [(q_102, .inr (10, ((.ref q_103) :: (.ref q_104) :: (.int 0) :: (.int 0) :: (.int 0) :: (.int (-1)) :: (.int 0) :: (.int 0) :: (.int 0) :: (.int 0) :: (.long 0) :: (.ref q_105) :: (.ref q_106) :: (.ref q_107) :: (.ref q_108) :: (.ref q_109) :: (.ref q_110) :: (.ref q_111) :: (.ref q_112) :: (.ref q_113) :: (.ref q_114) :: (.ref q_115) :: (.ref q_116) :: (.ref q_117) :: (.ref q_118) :: (.ref q_119) :: (.ref q_120) :: (.ref q_121) :: (.ref q_122) :: (.ref q_123) :: (.ref q_124) :: (.ref q_125) :: (.ref q_126) :: (.ref q_127) :: (.ref q_128) :: (.ref q_129) :: (.ref q_130) :: (.ref q_131) :: (.ref q_132) :: (.ref q_133) :: (.ref q_134) :: (.int 0) :: (.int 0) :: (.int 0) :: (.int 0) :: (.int 0) :: (.int 0) :: (.int 0) :: (.int 0) :: (.int 0) :: (.ref q_135) :: (.ref q_136) :: (.int 0) :: (.ref q_137) :: (.int 0) :: (.int 0) :: (.int 0) :: (.int 0) :: (.int 0) :: (.int 0) :: (.ref q_138) :: (.int 0) :: (.ref q_139) :: (.ref q_140) :: (.ref q_141) :: (.ref q_142) :: (.ref q_143) :: (.ref q_144) :: (.ref q_145) :: (.ref q_146) :: (.ref q_147) :: (.ref q_148) :: (.int 0) :: (.int 0) :: (.ref q_149) :: (.ref q_150) :: []))), (q_106, .inl (cI, 2, .inl (lst [0, 0])))]) [0, 1] rfl
        have hD := hD.sub (ws' := [(q_102, .inr (10, ((.ref q_103) :: (.ref q_104) :: (.int 0) :: (.int 0) :: (.int 0) :: (.int (-1)) :: (.int 0) :: (.int 0) :: (.int 0) :: (.int 0) :: (.long 0) :: (.ref q_105) :: (.ref q_106) :: (.ref q_107) :: (.ref q_108) :: (.ref q_109) :: (.ref q_110) :: (.ref q_111) :: (.ref q_112) :: (.ref q_113) :: (.ref q_114) :: (.ref q_115) :: (.ref q_116) :: (.ref q_117) :: (.ref q_118) :: (.ref q_119) :: (.ref q_120) :: (.ref q_121) :: (.ref q_122) :: (.ref q_123) :: (.ref q_124) :: (.ref q_125) :: (.ref q_126) :: (.ref q_127) :: (.ref q_128) :: (.ref q_129) :: (.ref q_130) :: (.ref q_131) :: (.ref q_132) :: (.ref q_133) :: (.ref q_134) :: (.int 0) :: (.int 0) :: (.int 0) :: (.int 0) :: (.int 0) :: (.int 0) :: (.int 0) :: (.int 0) :: (.int 0) :: (.ref q_135) :: (.ref q_136) :: (.int 0) :: (.ref q_137) :: (.int 0) :: (.int 0) :: (.int 0) :: (.int 0) :: (.int 0) :: (.int 0) :: (.ref q_138) :: (.int 0) :: (.ref q_139) :: (.ref q_140) :: (.ref q_141) :: (.ref q_142) :: (.ref q_143) :: (.ref q_144) :: (.ref q_145) :: (.ref q_146) :: (.ref q_147) :: (.ref q_148) :: (.int 0) :: (.int 0) :: (.ref q_149) :: (.ref q_150) :: []))), (q_106, .inl (cI, 2, .inl (lst [0, 0])))]) [0, 1] (by decide) rfl
        refine lv_aload_n hx hb dL_law_1329 rfl (lv_at hl 1 rfl) ?_
        refine lv_aload_n hx hb dL_law_1330 rfl (lv_at hl 3 rfl) ?_
        refine lv_iload_n hx hb dL_law_1331 rfl (lv_at hl 0 rfl) ?_
        refine lv_iconst (v := 1) hx hb dL_law_1332 (by decide +kernel) ?_
        refine lv_iadd hx hb dL_law_1333 ?_
        refine xt_i (v := 1) (by decide +kernel) ?_
        refine va_sld hx hb hX hbl hbA hS (vin (by decide +kernel)) dL_law_1334 ?_
        refine xt_i (v := xs 1) rfl ?_
        refine lv_aload_n hx hb dL_law_1335 rfl (lv_at hl 3 rfl) ?_
        refine lv_iload_n hx hb dL_law_1336 rfl (lv_at hl 0 rfl) ?_
        refine lv_iconst (v := 2) hx hb dL_law_1337 (by decide +kernel) ?_
        refine lv_iadd hx hb dL_law_1338 ?_
        refine xt_i (v := 2) (by decide +kernel) ?_
        refine va_sld hx hb hX hbl hbA hS (vin (by decide +kernel)) dL_law_1339 ?_
        refine xt_i (v := xs 2) rfl ?_
        refine lv_if_eq (tgt := 1347) hx hb dL_law_1340 (by decide) (fun _ => ?_) (fun c_206 => (by exfalso; have zc_205 := congrArg Int32.toInt c_205; have zc_206 := mt Int32.toInt_inj.mp c_206; have i32_0 : (0 : Int32).toInt = 0 := (by decide); omega))
        refine lv_iconst (v := 0) hx hb dL_law_1347 (by decide +kernel) ?_
        refine xc_core (wr := []) (k := 116) (n := 11963) (xc_runV (As := [.int (xs 1), .int 0]) (rest := [.int (-1)]) hx hb hml hown hts hG hE hP hD hS hA [0, 1] (by decide) rfl (cX10_grows_1 l D cB cI cJ cZ aK aV q_102 ((xs 1)) 0 q_103 q_104 q_105 q_106 q_107 q_108 q_109 q_110 q_111 q_112 q_113 q_114 q_115 q_116 q_117 q_118 q_119 q_120 q_121 q_122 q_123 q_124 q_125 q_126 q_127 q_128 q_129 q_130 q_131 q_132 q_133 q_134 q_135 q_136 q_137 q_138 q_139 q_140 q_141 q_142 q_143 q_144 q_145 q_146 q_147 q_148 q_149 q_150) kw1963 kw1960 kw1961 kw1962 kw127 (show XD yX10_grows 2 from by decide +kernel) (by decide) rfl rfl 0 rfl hl.1 rfl (Nat.le_of_ble_eq_true rfl) dL_law_1348 (by decide)) hP hD hS hA [0, 1] [] rfl rfl (by decide) (by decide) (Nat.le_of_ble_eq_true rfl) (Nat.le_of_ble_eq_true rfl) (fun r w1 H locs hpost hP hD hS => ?_)
        obtain rfl := hpost
        have hP := hP.sub (ws' := []) [] rfl
        have hD := hD.sub (ws' := []) [] (by decide) rfl
        refine lv_icmp_eq (tgt := 1527) hx hb dL_law_1351 (by decide) (fun _ => ?_) (fun h => absurd h (by decide +kernel))
        refine lv_iinc (v := 6) (lv' := [(3, .int 6), (2, .ref q_102), (1, .ref q_1), (0, .ref b)]) hx hb dL_law_1527 hl (k := 0) rfl (by decide +kernel) (by decide) rfl (fun ls hl => ?_)
        refine lv_goto (tgt := 18) hx hb dL_law_1530 (by decide) ?_
        refine lv_iload_n hx hb dL_law_18 rfl (lv_at hl 0 rfl) ?_
        refine lv_aload_n hx hb dL_law_19 rfl (lv_at hl 3 rfl) ?_
        refine va_slen hx hb hX hbl hbA hS dL_law_20 ?_
        refine xt_i (v := 6) (by decide +kernel) ?_
        refine lv_bipush (v := 6) hx hb dL_law_21 (by decide +kernel) ?_
        refine lv_isub hx hb dL_law_23 ?_
        refine xt_i (v := 0) (by decide +kernel) ?_
        refine lv_icmp_gt (tgt := 1533) hx hb dL_law_24 (by decide) (fun _ => ?_) (fun h => absurd h (by decide +kernel))
        refine lv_iconst (v := 1) hx hb dL_law_1533 (by decide +kernel) ?_
        refine va_forget (fun q hq => by have z := hS.2.2 q hq; rw [hAe] at z; exact z) ?_
        refine W.widen (k := 600000) (n := 7302250) (Nat.le_of_ble_eq_true rfl) (Nat.le_of_ble_eq_true rfl) ?_
        exact lw_ret hx hb hr hlocks dL_law_1534
      · -- (xs 2) eq 0 False
        refine lv_iconst (v := 1) hx hb dL_law_1321 (by decide +kernel) ?_
        refine lv_goto (tgt := 1326) hx hb dL_law_1322 (by decide) ?_
        refine xc_core (wr := [(q_102, .inr (10, ((.ref q_103) :: (.ref q_104) :: (.int 0) :: (.int 0) :: (.int 0) :: (.int (-1)) :: (.int 0) :: (.int 0) :: (.int 0) :: (.int 0) :: (.long 0) :: (.ref q_105) :: (.ref q_106) :: (.ref q_107) :: (.ref q_108) :: (.ref q_109) :: (.ref q_110) :: (.ref q_111) :: (.ref q_112) :: (.ref q_113) :: (.ref q_114) :: (.ref q_115) :: (.ref q_116) :: (.ref q_117) :: (.ref q_118) :: (.ref q_119) :: (.ref q_120) :: (.ref q_121) :: (.ref q_122) :: (.ref q_123) :: (.ref q_124) :: (.ref q_125) :: (.ref q_126) :: (.ref q_127) :: (.ref q_128) :: (.ref q_129) :: (.ref q_130) :: (.ref q_131) :: (.ref q_132) :: (.ref q_133) :: (.ref q_134) :: (.int 0) :: (.int 0) :: (.int 0) :: (.int 0) :: (.int 0) :: (.int 0) :: (.int 0) :: (.int 0) :: (.int 0) :: (.ref q_135) :: (.ref q_136) :: (.int 0) :: (.ref q_137) :: (.int 0) :: (.int 0) :: (.int 0) :: (.int 0) :: (.int 0) :: (.int 0) :: (.ref q_138) :: (.int 0) :: (.ref q_139) :: (.ref q_140) :: (.ref q_141) :: (.ref q_142) :: (.ref q_143) :: (.ref q_144) :: (.ref q_145) :: (.ref q_146) :: (.ref q_147) :: (.ref q_148) :: (.int 0) :: (.int 0) :: (.ref q_149) :: (.ref q_150) :: []))), (q_106, .inl (cI, 2, .inl (lst [0, 0])))]) (k := 116) (n := 11963) (xc_runV (As := [.int (xs 1), .int 1]) (rest := []) hx hb hml hown hts hG hE hP hD hS hA [0, 1] (by decide) rfl (cX9_grows_1 l D cB cI cJ cZ aK aV q_1 ((xs 1)) 1 q_2 q_3 q_4 q_5 q_6 q_7 q_8 q_9 q_10 q_11 q_12 q_13 q_16 q_17 q_18 q_19 q_20 q_21 q_22 q_23 q_24 q_25) kw1195 kw1192 kw1193 kw1194 kw112 (show XD yX9_grows 2 from by decide +kernel) (by decide) rfl rfl 0 rfl hl.1 rfl (Nat.le_of_ble_eq_true rfl) dL_law_1326 (by decide)) hP hD hS hA [0, 1] [2, 3] rfl rfl (by decide) (by decide) (Nat.le_of_ble_eq_true rfl) (Nat.le_of_ble_eq_true rfl) (fun r w1 H locs hpost hP hD hS => ?_)
        obtain rfl := hpost
        have hP := hP.sub (ws' := [(q_102, .inr (10, ((.ref q_103) :: (.ref q_104) :: (.int 0) :: (.int 0) :: (.int 0) :: (.int (-1)) :: (.int 0) :: (.int 0) :: (.int 0) :: (.int 0) :: (.long 0) :: (.ref q_105) :: (.ref q_106) :: (.ref q_107) :: (.ref q_108) :: (.ref q_109) :: (.ref q_110) :: (.ref q_111) :: (.ref q_112) :: (.ref q_113) :: (.ref q_114) :: (.ref q_115) :: (.ref q_116) :: (.ref q_117) :: (.ref q_118) :: (.ref q_119) :: (.ref q_120) :: (.ref q_121) :: (.ref q_122) :: (.ref q_123) :: (.ref q_124) :: (.ref q_125) :: (.ref q_126) :: (.ref q_127) :: (.ref q_128) :: (.ref q_129) :: (.ref q_130) :: (.ref q_131) :: (.ref q_132) :: (.ref q_133) :: (.ref q_134) :: (.int 0) :: (.int 0) :: (.int 0) :: (.int 0) :: (.int 0) :: (.int 0) :: (.int 0) :: (.int 0) :: (.int 0) :: (.ref q_135) :: (.ref q_136) :: (.int 0) :: (.ref q_137) :: (.int 0) :: (.int 0) :: (.int 0) :: (.int 0) :: (.int 0) :: (.int 0) :: (.ref q_138) :: (.int 0) :: (.ref q_139) :: (.ref q_140) :: (.ref q_141) :: (.ref q_142) :: (.ref q_143) :: (.ref q_144) :: (.ref q_145) :: (.ref q_146) :: (.ref q_147) :: (.ref q_148) :: (.int 0) :: (.int 0) :: (.ref q_149) :: (.ref q_150) :: []))), (q_106, .inl (cI, 2, .inl (lst [0, 0])))]) [0, 1] rfl
        have hD := hD.sub (ws' := [(q_102, .inr (10, ((.ref q_103) :: (.ref q_104) :: (.int 0) :: (.int 0) :: (.int 0) :: (.int (-1)) :: (.int 0) :: (.int 0) :: (.int 0) :: (.int 0) :: (.long 0) :: (.ref q_105) :: (.ref q_106) :: (.ref q_107) :: (.ref q_108) :: (.ref q_109) :: (.ref q_110) :: (.ref q_111) :: (.ref q_112) :: (.ref q_113) :: (.ref q_114) :: (.ref q_115) :: (.ref q_116) :: (.ref q_117) :: (.ref q_118) :: (.ref q_119) :: (.ref q_120) :: (.ref q_121) :: (.ref q_122) :: (.ref q_123) :: (.ref q_124) :: (.ref q_125) :: (.ref q_126) :: (.ref q_127) :: (.ref q_128) :: (.ref q_129) :: (.ref q_130) :: (.ref q_131) :: (.ref q_132) :: (.ref q_133) :: (.ref q_134) :: (.int 0) :: (.int 0) :: (.int 0) :: (.int 0) :: (.int 0) :: (.int 0) :: (.int 0) :: (.int 0) :: (.int 0) :: (.ref q_135) :: (.ref q_136) :: (.int 0) :: (.ref q_137) :: (.int 0) :: (.int 0) :: (.int 0) :: (.int 0) :: (.int 0) :: (.int 0) :: (.ref q_138) :: (.int 0) :: (.ref q_139) :: (.ref q_140) :: (.ref q_141) :: (.ref q_142) :: (.ref q_143) :: (.ref q_144) :: (.ref q_145) :: (.ref q_146) :: (.ref q_147) :: (.ref q_148) :: (.int 0) :: (.int 0) :: (.ref q_149) :: (.ref q_150) :: []))), (q_106, .inl (cI, 2, .inl (lst [0, 0])))]) [0, 1] (by decide) rfl
        refine lv_aload_n hx hb dL_law_1329 rfl (lv_at hl 1 rfl) ?_
        refine lv_aload_n hx hb dL_law_1330 rfl (lv_at hl 3 rfl) ?_
        refine lv_iload_n hx hb dL_law_1331 rfl (lv_at hl 0 rfl) ?_
        refine lv_iconst (v := 1) hx hb dL_law_1332 (by decide +kernel) ?_
        refine lv_iadd hx hb dL_law_1333 ?_
        refine xt_i (v := 1) (by decide +kernel) ?_
        refine va_sld hx hb hX hbl hbA hS (vin (by decide +kernel)) dL_law_1334 ?_
        refine xt_i (v := xs 1) rfl ?_
        refine lv_aload_n hx hb dL_law_1335 rfl (lv_at hl 3 rfl) ?_
        refine lv_iload_n hx hb dL_law_1336 rfl (lv_at hl 0 rfl) ?_
        refine lv_iconst (v := 2) hx hb dL_law_1337 (by decide +kernel) ?_
        refine lv_iadd hx hb dL_law_1338 ?_
        refine xt_i (v := 2) (by decide +kernel) ?_
        refine va_sld hx hb hX hbl hbA hS (vin (by decide +kernel)) dL_law_1339 ?_
        refine xt_i (v := xs 2) rfl ?_
        refine lv_if_eq (tgt := 1347) hx hb dL_law_1340 (by decide) (fun c_207 => (by exfalso; have zc_205 := mt Int32.toInt_inj.mp c_205; have zc_207 := congrArg Int32.toInt c_207; have i32_0 : (0 : Int32).toInt = 0 := (by decide); omega)) (fun _ => ?_)
        refine lv_iconst (v := 1) hx hb dL_law_1343 (by decide +kernel) ?_
        refine lv_goto (tgt := 1348) hx hb dL_law_1344 (by decide) ?_
        refine xc_core (wr := []) (k := 116) (n := 11963) (xc_runV (As := [.int (xs 1), .int 1]) (rest := [.int (-1)]) hx hb hml hown hts hG hE hP hD hS hA [0, 1] (by decide) rfl (cX10_grows_1 l D cB cI cJ cZ aK aV q_102 ((xs 1)) 1 q_103 q_104 q_105 q_106 q_107 q_108 q_109 q_110 q_111 q_112 q_113 q_114 q_115 q_116 q_117 q_118 q_119 q_120 q_121 q_122 q_123 q_124 q_125 q_126 q_127 q_128 q_129 q_130 q_131 q_132 q_133 q_134 q_135 q_136 q_137 q_138 q_139 q_140 q_141 q_142 q_143 q_144 q_145 q_146 q_147 q_148 q_149 q_150) kw1963 kw1960 kw1961 kw1962 kw127 (show XD yX10_grows 2 from by decide +kernel) (by decide) rfl rfl 0 rfl hl.1 rfl (Nat.le_of_ble_eq_true rfl) dL_law_1348 (by decide)) hP hD hS hA [0, 1] [] rfl rfl (by decide) (by decide) (Nat.le_of_ble_eq_true rfl) (Nat.le_of_ble_eq_true rfl) (fun r w1 H locs hpost hP hD hS => ?_)
        obtain rfl := hpost
        have hP := hP.sub (ws' := []) [] rfl
        have hD := hD.sub (ws' := []) [] (by decide) rfl
        refine lv_icmp_eq (tgt := 1527) hx hb dL_law_1351 (by decide) (fun _ => ?_) (fun h => absurd h (by decide +kernel))
        refine lv_iinc (v := 6) (lv' := [(3, .int 6), (2, .ref q_102), (1, .ref q_1), (0, .ref b)]) hx hb dL_law_1527 hl (k := 0) rfl (by decide +kernel) (by decide) rfl (fun ls hl => ?_)
        refine lv_goto (tgt := 18) hx hb dL_law_1530 (by decide) ?_
        refine lv_iload_n hx hb dL_law_18 rfl (lv_at hl 0 rfl) ?_
        refine lv_aload_n hx hb dL_law_19 rfl (lv_at hl 3 rfl) ?_
        refine va_slen hx hb hX hbl hbA hS dL_law_20 ?_
        refine xt_i (v := 6) (by decide +kernel) ?_
        refine lv_bipush (v := 6) hx hb dL_law_21 (by decide +kernel) ?_
        refine lv_isub hx hb dL_law_23 ?_
        refine xt_i (v := 0) (by decide +kernel) ?_
        refine lv_icmp_gt (tgt := 1533) hx hb dL_law_24 (by decide) (fun _ => ?_) (fun h => absurd h (by decide +kernel))
        refine lv_iconst (v := 1) hx hb dL_law_1533 (by decide +kernel) ?_
        refine va_forget (fun q hq => by have z := hS.2.2 q hq; rw [hAe] at z; exact z) ?_
        refine W.widen (k := 600000) (n := 7302250) (Nat.le_of_ble_eq_true rfl) (Nat.le_of_ble_eq_true rfl) ?_
        exact lw_ret hx hb hr hlocks dL_law_1534
    by_cases c_208 : v_157 = 38
    · subst c_208
      have hP := hP.sub (ws' := [(q_1, .inr (9, [.ref q_2, .ref q_3, .ref q_4, .ref q_5, .ref q_6, .ref q_7, .ref q_8, .ref q_9, .ref q_10, .ref q_11, .ref q_12, .ref q_13, .int 0])), (q_10, .inr (6, [.ref q_96, .ref q_97, .ref q_98, .ref q_99, .ref q_100, .int 0])), (q_102, .inr (10, ((.ref q_103) :: (.ref q_104) :: (.int 0) :: (.int 0) :: (.int 0) :: (.int (-1)) :: (.int 0) :: (.int 0) :: (.int 0) :: (.int 0) :: (.long 0) :: (.ref q_105) :: (.ref q_106) :: (.ref q_107) :: (.ref q_108) :: (.ref q_109) :: (.ref q_110) :: (.ref q_111) :: (.ref q_112) :: (.ref q_113) :: (.ref q_114) :: (.ref q_115) :: (.ref q_116) :: (.ref q_117) :: (.ref q_118) :: (.ref q_119) :: (.ref q_120) :: (.ref q_121) :: (.ref q_122) :: (.ref q_123) :: (.ref q_124) :: (.ref q_125) :: (.ref q_126) :: (.ref q_127) :: (.ref q_128) :: (.ref q_129) :: (.ref q_130) :: (.ref q_131) :: (.ref q_132) :: (.ref q_133) :: (.ref q_134) :: (.int 0) :: (.int 0) :: (.int 0) :: (.int 0) :: (.int 0) :: (.int 0) :: (.int 0) :: (.int 0) :: (.int 0) :: (.ref q_135) :: (.ref q_136) :: (.int 0) :: (.ref q_137) :: (.int 0) :: (.int 0) :: (.int 0) :: (.int 0) :: (.int 0) :: (.int 0) :: (.ref q_138) :: (.int 0) :: (.ref q_139) :: (.ref q_140) :: (.ref q_141) :: (.ref q_142) :: (.ref q_143) :: (.ref q_144) :: (.ref q_145) :: (.ref q_146) :: (.ref q_147) :: (.ref q_148) :: (.int 0) :: (.int 0) :: (.ref q_149) :: (.ref q_150) :: [])))]) [0, 57, 67] rfl
      have hD := hD.sub (ws' := [(q_1, .inr (9, [.ref q_2, .ref q_3, .ref q_4, .ref q_5, .ref q_6, .ref q_7, .ref q_8, .ref q_9, .ref q_10, .ref q_11, .ref q_12, .ref q_13, .int 0])), (q_10, .inr (6, [.ref q_96, .ref q_97, .ref q_98, .ref q_99, .ref q_100, .int 0])), (q_102, .inr (10, ((.ref q_103) :: (.ref q_104) :: (.int 0) :: (.int 0) :: (.int 0) :: (.int (-1)) :: (.int 0) :: (.int 0) :: (.int 0) :: (.int 0) :: (.long 0) :: (.ref q_105) :: (.ref q_106) :: (.ref q_107) :: (.ref q_108) :: (.ref q_109) :: (.ref q_110) :: (.ref q_111) :: (.ref q_112) :: (.ref q_113) :: (.ref q_114) :: (.ref q_115) :: (.ref q_116) :: (.ref q_117) :: (.ref q_118) :: (.ref q_119) :: (.ref q_120) :: (.ref q_121) :: (.ref q_122) :: (.ref q_123) :: (.ref q_124) :: (.ref q_125) :: (.ref q_126) :: (.ref q_127) :: (.ref q_128) :: (.ref q_129) :: (.ref q_130) :: (.ref q_131) :: (.ref q_132) :: (.ref q_133) :: (.ref q_134) :: (.int 0) :: (.int 0) :: (.int 0) :: (.int 0) :: (.int 0) :: (.int 0) :: (.int 0) :: (.int 0) :: (.int 0) :: (.ref q_135) :: (.ref q_136) :: (.int 0) :: (.ref q_137) :: (.int 0) :: (.int 0) :: (.int 0) :: (.int 0) :: (.int 0) :: (.int 0) :: (.ref q_138) :: (.int 0) :: (.ref q_139) :: (.ref q_140) :: (.ref q_141) :: (.ref q_142) :: (.ref q_143) :: (.ref q_144) :: (.ref q_145) :: (.ref q_146) :: (.ref q_147) :: (.ref q_148) :: (.int 0) :: (.int 0) :: (.ref q_149) :: (.ref q_150) :: [])))]) [0, 57, 67] (by decide) rfl
      refine lv_tableIn (off := 1323) (tgt := 1356) hx hb dL_law_33 (by decide) (by decide) (by decide +kernel) (by decide) ?_
      refine lv_aload_n hx hb dL_law_1356 rfl (lv_at hl 2 rfl) ?_
      refine lv_aload_n hx hb dL_law_1357 rfl (lv_at hl 3 rfl) ?_
      refine lv_iload_n hx hb dL_law_1358 rfl (lv_at hl 0 rfl) ?_
      refine lv_iconst (v := 1) hx hb dL_law_1359 (by decide +kernel) ?_
      refine lv_iadd hx hb dL_law_1360 ?_
      refine xt_i (v := 1) (by decide +kernel) ?_
      refine va_sld hx hb hX hbl hbA hS (vin (by decide +kernel)) dL_law_1361 ?_
      refine xt_i (v := xs 1) rfl ?_
      refine xc_core (wr := [(q_102, .inr (10, ((.ref q_103) :: (.ref q_104) :: (.int 0) :: (.int 0) :: (.int 0) :: (.int (-1)) :: (.int 0) :: (.int 0) :: (.int 0) :: (.int 0) :: (.long 0) :: (.ref q_105) :: (.ref q_106) :: (.ref q_107) :: (.ref q_108) :: (.ref q_109) :: (.ref q_110) :: (.ref q_111) :: (.ref q_112) :: (.ref q_113) :: (.ref q_114) :: (.ref q_115) :: (.ref q_116) :: (.ref q_117) :: (.ref q_118) :: (.ref q_119) :: (.ref q_120) :: (.ref q_121) :: (.ref q_122) :: (.ref q_123) :: (.ref q_124) :: (.ref q_125) :: (.ref q_126) :: (.ref q_127) :: (.ref q_128) :: (.ref q_129) :: (.ref q_130) :: (.ref q_131) :: (.ref q_132) :: (.ref q_133) :: (.ref q_134) :: (.int 0) :: (.int 0) :: (.int 0) :: (.int 0) :: (.int 0) :: (.int 0) :: (.int 0) :: (.int 0) :: (.int 0) :: (.ref q_135) :: (.ref q_136) :: (.int 0) :: (.ref q_137) :: (.int 0) :: (.int 0) :: (.int 0) :: (.int 0) :: (.int 0) :: (.int 0) :: (.ref q_138) :: (.int 0) :: (.ref q_139) :: (.ref q_140) :: (.ref q_141) :: (.ref q_142) :: (.ref q_143) :: (.ref q_144) :: (.ref q_145) :: (.ref q_146) :: (.ref q_147) :: (.ref q_148) :: (.int 0) :: (.int 0) :: (.ref q_149) :: (.ref q_150) :: [])))]) (k := 116) (n := 11963) (xc_runV (As := [.int (xs 1)]) (rest := []) hx hb hml hown hts hG hE hP hD hS hA [0, 1] (by decide) rfl (cX9_untell_1 l D cB cI cJ cZ aK aV q_1 ((xs 1)) q_2 q_3 q_4 q_5 q_6 q_7 q_8 q_9 q_10 q_11 q_12 q_13 q_96 q_97 q_98 q_99 q_100) kw1199 kw1196 kw1197 kw1198 kw112 (show XD yX9_untell 1 from by decide +kernel) (by decide) rfl rfl 0 rfl hl.1 rfl (Nat.le_of_ble_eq_true rfl) dL_law_1362 (by decide)) hP hD hS hA [0, 1] [2] rfl rfl (by decide) (by decide) (Nat.le_of_ble_eq_true rfl) (Nat.le_of_ble_eq_true rfl) (fun r w1 H locs hpost hP hD hS => ?_)
      obtain rfl := hpost
      have hP := hP.sub (ws' := [(q_102, .inr (10, ((.ref q_103) :: (.ref q_104) :: (.int 0) :: (.int 0) :: (.int 0) :: (.int (-1)) :: (.int 0) :: (.int 0) :: (.int 0) :: (.int 0) :: (.long 0) :: (.ref q_105) :: (.ref q_106) :: (.ref q_107) :: (.ref q_108) :: (.ref q_109) :: (.ref q_110) :: (.ref q_111) :: (.ref q_112) :: (.ref q_113) :: (.ref q_114) :: (.ref q_115) :: (.ref q_116) :: (.ref q_117) :: (.ref q_118) :: (.ref q_119) :: (.ref q_120) :: (.ref q_121) :: (.ref q_122) :: (.ref q_123) :: (.ref q_124) :: (.ref q_125) :: (.ref q_126) :: (.ref q_127) :: (.ref q_128) :: (.ref q_129) :: (.ref q_130) :: (.ref q_131) :: (.ref q_132) :: (.ref q_133) :: (.ref q_134) :: (.int 0) :: (.int 0) :: (.int 0) :: (.int 0) :: (.int 0) :: (.int 0) :: (.int 0) :: (.int 0) :: (.int 0) :: (.ref q_135) :: (.ref q_136) :: (.int 0) :: (.ref q_137) :: (.int 0) :: (.int 0) :: (.int 0) :: (.int 0) :: (.int 0) :: (.int 0) :: (.ref q_138) :: (.int 0) :: (.ref q_139) :: (.ref q_140) :: (.ref q_141) :: (.ref q_142) :: (.ref q_143) :: (.ref q_144) :: (.ref q_145) :: (.ref q_146) :: (.ref q_147) :: (.ref q_148) :: (.int 0) :: (.int 0) :: (.ref q_149) :: (.ref q_150) :: [])))]) [0] rfl
      have hD := hD.sub (ws' := [(q_102, .inr (10, ((.ref q_103) :: (.ref q_104) :: (.int 0) :: (.int 0) :: (.int 0) :: (.int (-1)) :: (.int 0) :: (.int 0) :: (.int 0) :: (.int 0) :: (.long 0) :: (.ref q_105) :: (.ref q_106) :: (.ref q_107) :: (.ref q_108) :: (.ref q_109) :: (.ref q_110) :: (.ref q_111) :: (.ref q_112) :: (.ref q_113) :: (.ref q_114) :: (.ref q_115) :: (.ref q_116) :: (.ref q_117) :: (.ref q_118) :: (.ref q_119) :: (.ref q_120) :: (.ref q_121) :: (.ref q_122) :: (.ref q_123) :: (.ref q_124) :: (.ref q_125) :: (.ref q_126) :: (.ref q_127) :: (.ref q_128) :: (.ref q_129) :: (.ref q_130) :: (.ref q_131) :: (.ref q_132) :: (.ref q_133) :: (.ref q_134) :: (.int 0) :: (.int 0) :: (.int 0) :: (.int 0) :: (.int 0) :: (.int 0) :: (.int 0) :: (.int 0) :: (.int 0) :: (.ref q_135) :: (.ref q_136) :: (.int 0) :: (.ref q_137) :: (.int 0) :: (.int 0) :: (.int 0) :: (.int 0) :: (.int 0) :: (.int 0) :: (.ref q_138) :: (.int 0) :: (.ref q_139) :: (.ref q_140) :: (.ref q_141) :: (.ref q_142) :: (.ref q_143) :: (.ref q_144) :: (.ref q_145) :: (.ref q_146) :: (.ref q_147) :: (.ref q_148) :: (.int 0) :: (.int 0) :: (.ref q_149) :: (.ref q_150) :: [])))]) [0] (by decide) rfl
      refine lv_aload_n hx hb dL_law_1365 rfl (lv_at hl 1 rfl) ?_
      refine lv_aload_n hx hb dL_law_1366 rfl (lv_at hl 3 rfl) ?_
      refine lv_iload_n hx hb dL_law_1367 rfl (lv_at hl 0 rfl) ?_
      refine lv_iconst (v := 1) hx hb dL_law_1368 (by decide +kernel) ?_
      refine lv_iadd hx hb dL_law_1369 ?_
      refine xt_i (v := 1) (by decide +kernel) ?_
      refine va_sld hx hb hX hbl hbA hS (vin (by decide +kernel)) dL_law_1370 ?_
      refine xt_i (v := xs 1) rfl ?_
      refine xc_core (wr := []) (k := 116) (n := 11963) (xc_runV (As := [.int (xs 1)]) (rest := [.int 0]) hx hb hml hown hts hG hE hP hD hS hA [0] (by decide) rfl (cX10_untell_1 l D cB cI cJ cZ aK aV q_102 ((xs 1)) q_103 q_104 q_105 q_106 q_107 q_108 q_109 q_110 q_111 q_112 q_113 q_114 q_115 q_116 q_117 q_118 q_119 q_120 q_121 q_122 q_123 q_124 q_125 q_126 q_127 q_128 q_129 q_130 q_131 q_132 q_133 q_134 q_135 q_136 q_137 q_138 q_139 q_140 q_141 q_142 q_143 q_144 q_145 q_146 q_147 q_148 q_149 q_150) kw1967 kw1964 kw1965 kw1966 kw127 (show XD yX10_untell 1 from by decide +kernel) (by decide) rfl rfl 0 rfl hl.1 rfl (Nat.le_of_ble_eq_true rfl) dL_law_1371 (by decide)) hP hD hS hA [0] [] rfl rfl (by decide) (by decide) (Nat.le_of_ble_eq_true rfl) (Nat.le_of_ble_eq_true rfl) (fun r w1 H locs hpost hP hD hS => ?_)
      obtain rfl := hpost
      have hP := hP.sub (ws' := []) [] rfl
      have hD := hD.sub (ws' := []) [] (by decide) rfl
      refine lv_icmp_eq (tgt := 1527) hx hb dL_law_1374 (by decide) (fun _ => ?_) (fun h => absurd h (by decide +kernel))
      refine lv_iinc (v := 6) (lv' := [(3, .int 6), (2, .ref q_102), (1, .ref q_1), (0, .ref b)]) hx hb dL_law_1527 hl (k := 0) rfl (by decide +kernel) (by decide) rfl (fun ls hl => ?_)
      refine lv_goto (tgt := 18) hx hb dL_law_1530 (by decide) ?_
      refine lv_iload_n hx hb dL_law_18 rfl (lv_at hl 0 rfl) ?_
      refine lv_aload_n hx hb dL_law_19 rfl (lv_at hl 3 rfl) ?_
      refine va_slen hx hb hX hbl hbA hS dL_law_20 ?_
      refine xt_i (v := 6) (by decide +kernel) ?_
      refine lv_bipush (v := 6) hx hb dL_law_21 (by decide +kernel) ?_
      refine lv_isub hx hb dL_law_23 ?_
      refine xt_i (v := 0) (by decide +kernel) ?_
      refine lv_icmp_gt (tgt := 1533) hx hb dL_law_24 (by decide) (fun _ => ?_) (fun h => absurd h (by decide +kernel))
      refine lv_iconst (v := 1) hx hb dL_law_1533 (by decide +kernel) ?_
      refine va_forget (fun q hq => by have z := hS.2.2 q hq; rw [hAe] at z; exact z) ?_
      refine W.widen (k := 600000) (n := 7302250) (Nat.le_of_ble_eq_true rfl) (Nat.le_of_ble_eq_true rfl) ?_
      exact lw_ret hx hb hr hlocks dL_law_1534
    by_cases c_209 : v_157 = 39
    · subst c_209
      have hP := hP.sub (ws' := [(q_1, .inr (9, [.ref q_2, .ref q_3, .ref q_4, .ref q_5, .ref q_6, .ref q_7, .ref q_8, .ref q_9, .ref q_10, .ref q_11, .ref q_12, .ref q_13, .int 0])), (q_102, .inr (10, ((.ref q_103) :: (.ref q_104) :: (.int 0) :: (.int 0) :: (.int 0) :: (.int (-1)) :: (.int 0) :: (.int 0) :: (.int 0) :: (.int 0) :: (.long 0) :: (.ref q_105) :: (.ref q_106) :: (.ref q_107) :: (.ref q_108) :: (.ref q_109) :: (.ref q_110) :: (.ref q_111) :: (.ref q_112) :: (.ref q_113) :: (.ref q_114) :: (.ref q_115) :: (.ref q_116) :: (.ref q_117) :: (.ref q_118) :: (.ref q_119) :: (.ref q_120) :: (.ref q_121) :: (.ref q_122) :: (.ref q_123) :: (.ref q_124) :: (.ref q_125) :: (.ref q_126) :: (.ref q_127) :: (.ref q_128) :: (.ref q_129) :: (.ref q_130) :: (.ref q_131) :: (.ref q_132) :: (.ref q_133) :: (.ref q_134) :: (.int 0) :: (.int 0) :: (.int 0) :: (.int 0) :: (.int 0) :: (.int 0) :: (.int 0) :: (.int 0) :: (.int 0) :: (.ref q_135) :: (.ref q_136) :: (.int 0) :: (.ref q_137) :: (.int 0) :: (.int 0) :: (.int 0) :: (.int 0) :: (.int 0) :: (.int 0) :: (.ref q_138) :: (.int 0) :: (.ref q_139) :: (.ref q_140) :: (.ref q_141) :: (.ref q_142) :: (.ref q_143) :: (.ref q_144) :: (.ref q_145) :: (.ref q_146) :: (.ref q_147) :: (.ref q_148) :: (.int 0) :: (.int 0) :: (.ref q_149) :: (.ref q_150) :: [])))]) [0, 67] rfl
      have hD := hD.sub (ws' := [(q_1, .inr (9, [.ref q_2, .ref q_3, .ref q_4, .ref q_5, .ref q_6, .ref q_7, .ref q_8, .ref q_9, .ref q_10, .ref q_11, .ref q_12, .ref q_13, .int 0])), (q_102, .inr (10, ((.ref q_103) :: (.ref q_104) :: (.int 0) :: (.int 0) :: (.int 0) :: (.int (-1)) :: (.int 0) :: (.int 0) :: (.int 0) :: (.int 0) :: (.long 0) :: (.ref q_105) :: (.ref q_106) :: (.ref q_107) :: (.ref q_108) :: (.ref q_109) :: (.ref q_110) :: (.ref q_111) :: (.ref q_112) :: (.ref q_113) :: (.ref q_114) :: (.ref q_115) :: (.ref q_116) :: (.ref q_117) :: (.ref q_118) :: (.ref q_119) :: (.ref q_120) :: (.ref q_121) :: (.ref q_122) :: (.ref q_123) :: (.ref q_124) :: (.ref q_125) :: (.ref q_126) :: (.ref q_127) :: (.ref q_128) :: (.ref q_129) :: (.ref q_130) :: (.ref q_131) :: (.ref q_132) :: (.ref q_133) :: (.ref q_134) :: (.int 0) :: (.int 0) :: (.int 0) :: (.int 0) :: (.int 0) :: (.int 0) :: (.int 0) :: (.int 0) :: (.int 0) :: (.ref q_135) :: (.ref q_136) :: (.int 0) :: (.ref q_137) :: (.int 0) :: (.int 0) :: (.int 0) :: (.int 0) :: (.int 0) :: (.int 0) :: (.ref q_138) :: (.int 0) :: (.ref q_139) :: (.ref q_140) :: (.ref q_141) :: (.ref q_142) :: (.ref q_143) :: (.ref q_144) :: (.ref q_145) :: (.ref q_146) :: (.ref q_147) :: (.ref q_148) :: (.int 0) :: (.int 0) :: (.ref q_149) :: (.ref q_150) :: [])))]) [0, 67] (by decide) rfl
      refine lv_tableIn (off := 1346) (tgt := 1379) hx hb dL_law_33 (by decide) (by decide) (by decide +kernel) (by decide) ?_
      refine lv_aload_n hx hb dL_law_1379 rfl (lv_at hl 2 rfl) ?_
      refine lv_aload_n hx hb dL_law_1380 rfl (lv_at hl 3 rfl) ?_
      refine lv_iload_n hx hb dL_law_1381 rfl (lv_at hl 0 rfl) ?_
      refine lv_iconst (v := 1) hx hb dL_law_1382 (by decide +kernel) ?_
      refine lv_iadd hx hb dL_law_1383 ?_
      refine xt_i (v := 1) (by decide +kernel) ?_
      refine va_sld hx hb hX hbl hbA hS (vin (by decide +kernel)) dL_law_1384 ?_
      refine xt_i (v := xs 1) rfl ?_
      refine xc_core (wr := [(q_102, .inr (10, ((.ref q_103) :: (.ref q_104) :: (.int 0) :: (.int 0) :: (.int 0) :: (.int (-1)) :: (.int 0) :: (.int 0) :: (.int 0) :: (.int 0) :: (.long 0) :: (.ref q_105) :: (.ref q_106) :: (.ref q_107) :: (.ref q_108) :: (.ref q_109) :: (.ref q_110) :: (.ref q_111) :: (.ref q_112) :: (.ref q_113) :: (.ref q_114) :: (.ref q_115) :: (.ref q_116) :: (.ref q_117) :: (.ref q_118) :: (.ref q_119) :: (.ref q_120) :: (.ref q_121) :: (.ref q_122) :: (.ref q_123) :: (.ref q_124) :: (.ref q_125) :: (.ref q_126) :: (.ref q_127) :: (.ref q_128) :: (.ref q_129) :: (.ref q_130) :: (.ref q_131) :: (.ref q_132) :: (.ref q_133) :: (.ref q_134) :: (.int 0) :: (.int 0) :: (.int 0) :: (.int 0) :: (.int 0) :: (.int 0) :: (.int 0) :: (.int 0) :: (.int 0) :: (.ref q_135) :: (.ref q_136) :: (.int 0) :: (.ref q_137) :: (.int 0) :: (.int 0) :: (.int 0) :: (.int 0) :: (.int 0) :: (.int 0) :: (.ref q_138) :: (.int 0) :: (.ref q_139) :: (.ref q_140) :: (.ref q_141) :: (.ref q_142) :: (.ref q_143) :: (.ref q_144) :: (.ref q_145) :: (.ref q_146) :: (.ref q_147) :: (.ref q_148) :: (.int 0) :: (.int 0) :: (.ref q_149) :: (.ref q_150) :: [])))]) (k := 116) (n := 11963) (xc_runV (As := [.int (xs 1)]) (rest := []) hx hb hml hown hts hG hE hP hD hS hA [0] (by decide) rfl (cX9_later_1 l D cB cI cJ cZ aK aV q_1 ((xs 1)) q_2 q_3 q_4 q_5 q_6 q_7 q_8 q_9 q_10 q_11 q_12 q_13) kw1207 kw1204 kw1205 kw1206 kw112 (show XD yX9_later 1 from by decide +kernel) (by decide) rfl rfl 0 rfl hl.1 rfl (Nat.le_of_ble_eq_true rfl) dL_law_1385 (by decide)) hP hD hS hA [0] [1] rfl rfl (by decide) (by decide) (Nat.le_of_ble_eq_true rfl) (Nat.le_of_ble_eq_true rfl) (fun r w1 H locs hpost hP hD hS => ?_)
      obtain rfl := hpost
      have hP := hP.sub (ws' := [(q_102, .inr (10, ((.ref q_103) :: (.ref q_104) :: (.int 0) :: (.int 0) :: (.int 0) :: (.int (-1)) :: (.int 0) :: (.int 0) :: (.int 0) :: (.int 0) :: (.long 0) :: (.ref q_105) :: (.ref q_106) :: (.ref q_107) :: (.ref q_108) :: (.ref q_109) :: (.ref q_110) :: (.ref q_111) :: (.ref q_112) :: (.ref q_113) :: (.ref q_114) :: (.ref q_115) :: (.ref q_116) :: (.ref q_117) :: (.ref q_118) :: (.ref q_119) :: (.ref q_120) :: (.ref q_121) :: (.ref q_122) :: (.ref q_123) :: (.ref q_124) :: (.ref q_125) :: (.ref q_126) :: (.ref q_127) :: (.ref q_128) :: (.ref q_129) :: (.ref q_130) :: (.ref q_131) :: (.ref q_132) :: (.ref q_133) :: (.ref q_134) :: (.int 0) :: (.int 0) :: (.int 0) :: (.int 0) :: (.int 0) :: (.int 0) :: (.int 0) :: (.int 0) :: (.int 0) :: (.ref q_135) :: (.ref q_136) :: (.int 0) :: (.ref q_137) :: (.int 0) :: (.int 0) :: (.int 0) :: (.int 0) :: (.int 0) :: (.int 0) :: (.ref q_138) :: (.int 0) :: (.ref q_139) :: (.ref q_140) :: (.ref q_141) :: (.ref q_142) :: (.ref q_143) :: (.ref q_144) :: (.ref q_145) :: (.ref q_146) :: (.ref q_147) :: (.ref q_148) :: (.int 0) :: (.int 0) :: (.ref q_149) :: (.ref q_150) :: [])))]) [0] rfl
      have hD := hD.sub (ws' := [(q_102, .inr (10, ((.ref q_103) :: (.ref q_104) :: (.int 0) :: (.int 0) :: (.int 0) :: (.int (-1)) :: (.int 0) :: (.int 0) :: (.int 0) :: (.int 0) :: (.long 0) :: (.ref q_105) :: (.ref q_106) :: (.ref q_107) :: (.ref q_108) :: (.ref q_109) :: (.ref q_110) :: (.ref q_111) :: (.ref q_112) :: (.ref q_113) :: (.ref q_114) :: (.ref q_115) :: (.ref q_116) :: (.ref q_117) :: (.ref q_118) :: (.ref q_119) :: (.ref q_120) :: (.ref q_121) :: (.ref q_122) :: (.ref q_123) :: (.ref q_124) :: (.ref q_125) :: (.ref q_126) :: (.ref q_127) :: (.ref q_128) :: (.ref q_129) :: (.ref q_130) :: (.ref q_131) :: (.ref q_132) :: (.ref q_133) :: (.ref q_134) :: (.int 0) :: (.int 0) :: (.int 0) :: (.int 0) :: (.int 0) :: (.int 0) :: (.int 0) :: (.int 0) :: (.int 0) :: (.ref q_135) :: (.ref q_136) :: (.int 0) :: (.ref q_137) :: (.int 0) :: (.int 0) :: (.int 0) :: (.int 0) :: (.int 0) :: (.int 0) :: (.ref q_138) :: (.int 0) :: (.ref q_139) :: (.ref q_140) :: (.ref q_141) :: (.ref q_142) :: (.ref q_143) :: (.ref q_144) :: (.ref q_145) :: (.ref q_146) :: (.ref q_147) :: (.ref q_148) :: (.int 0) :: (.int 0) :: (.ref q_149) :: (.ref q_150) :: [])))]) [0] (by decide) rfl
      refine lv_aload_n hx hb dL_law_1388 rfl (lv_at hl 1 rfl) ?_
      refine lv_aload_n hx hb dL_law_1389 rfl (lv_at hl 3 rfl) ?_
      refine lv_iload_n hx hb dL_law_1390 rfl (lv_at hl 0 rfl) ?_
      refine lv_iconst (v := 1) hx hb dL_law_1391 (by decide +kernel) ?_
      refine lv_iadd hx hb dL_law_1392 ?_
      refine xt_i (v := 1) (by decide +kernel) ?_
      refine va_sld hx hb hX hbl hbA hS (vin (by decide +kernel)) dL_law_1393 ?_
      refine xt_i (v := xs 1) rfl ?_
      refine xc_core (wr := []) (k := 116) (n := 11963) (xc_runV (As := [.int (xs 1)]) (rest := [.int (if 0 ≤ ((xs 1)).toInt ∧ ((xs 1)).toInt ≤ 1000 then (xs 1) else -1)]) hx hb hml hown hts hG hE hP hD hS hA [0] (by decide) rfl (cX10_later_1 l D cB cI cJ cZ aK aV q_102 ((xs 1)) q_103 q_104 q_105 q_106 q_107 q_108 q_109 q_110 q_111 q_112 q_113 q_114 q_115 q_116 q_117 q_118 q_119 q_120 q_121 q_122 q_123 q_124 q_125 q_126 q_127 q_128 q_129 q_130 q_131 q_132 q_133 q_134 q_135 q_136 q_137 q_138 q_139 q_140 q_141 q_142 q_143 q_144 q_145 q_146 q_147 q_148 q_149 q_150) kw1971 kw1968 kw1969 kw1970 kw127 (show XD yX10_later 1 from by decide +kernel) (by decide) rfl rfl 0 rfl hl.1 rfl (Nat.le_of_ble_eq_true rfl) dL_law_1394 (by decide)) hP hD hS hA [0] [] rfl rfl (by decide) (by decide) (Nat.le_of_ble_eq_true rfl) (Nat.le_of_ble_eq_true rfl) (fun r w1 H locs hpost hP hD hS => ?_)
      obtain rfl := hpost
      have hP := hP.sub (ws' := []) [] rfl
      have hD := hD.sub (ws' := []) [] (by decide) rfl
      refine lv_icmp_eq (tgt := 1527) hx hb dL_law_1397 (by decide) (fun _ => ?_) (fun h => absurd rfl h)
      refine lv_iinc (v := 6) (lv' := [(3, .int 6), (2, .ref q_102), (1, .ref q_1), (0, .ref b)]) hx hb dL_law_1527 hl (k := 0) rfl (by decide +kernel) (by decide) rfl (fun ls hl => ?_)
      refine lv_goto (tgt := 18) hx hb dL_law_1530 (by decide) ?_
      refine lv_iload_n hx hb dL_law_18 rfl (lv_at hl 0 rfl) ?_
      refine lv_aload_n hx hb dL_law_19 rfl (lv_at hl 3 rfl) ?_
      refine va_slen hx hb hX hbl hbA hS dL_law_20 ?_
      refine xt_i (v := 6) (by decide +kernel) ?_
      refine lv_bipush (v := 6) hx hb dL_law_21 (by decide +kernel) ?_
      refine lv_isub hx hb dL_law_23 ?_
      refine xt_i (v := 0) (by decide +kernel) ?_
      refine lv_icmp_gt (tgt := 1533) hx hb dL_law_24 (by decide) (fun _ => ?_) (fun h => absurd h (by decide +kernel))
      refine lv_iconst (v := 1) hx hb dL_law_1533 (by decide +kernel) ?_
      refine va_forget (fun q hq => by have z := hS.2.2 q hq; rw [hAe] at z; exact z) ?_
      refine W.widen (k := 600000) (n := 7302250) (Nat.le_of_ble_eq_true rfl) (Nat.le_of_ble_eq_true rfl) ?_
      exact lw_ret hx hb hr hlocks dL_law_1534
    by_cases c_210 : v_157 = 40
    · subst c_210
      have hP := hP.sub (ws' := [(q_1, .inr (9, [.ref q_2, .ref q_3, .ref q_4, .ref q_5, .ref q_6, .ref q_7, .ref q_8, .ref q_9, .ref q_10, .ref q_11, .ref q_12, .ref q_13, .int 0])), (q_4, .inr (8, [.int 0, .int 0, .int 0, .ref q_16, .ref q_17, .ref q_18, .ref q_19, .ref q_20, .ref q_21, .ref q_22, .ref q_23, .ref q_24, .ref q_25, .int 0, .int 1, .int 0, .int 0, .int 0])), (q_6, .inr (3, [.ref q_4, .ref q_73, .ref q_74, .ref q_75, .ref q_76, .ref q_77, .int 0, .int 0])), (q_10, .inr (6, [.ref q_96, .ref q_97, .ref q_98, .ref q_99, .ref q_100, .int 0])), (q_102, .inr (10, ((.ref q_103) :: (.ref q_104) :: (.int 0) :: (.int 0) :: (.int 0) :: (.int (-1)) :: (.int 0) :: (.int 0) :: (.int 0) :: (.int 0) :: (.long 0) :: (.ref q_105) :: (.ref q_106) :: (.ref q_107) :: (.ref q_108) :: (.ref q_109) :: (.ref q_110) :: (.ref q_111) :: (.ref q_112) :: (.ref q_113) :: (.ref q_114) :: (.ref q_115) :: (.ref q_116) :: (.ref q_117) :: (.ref q_118) :: (.ref q_119) :: (.ref q_120) :: (.ref q_121) :: (.ref q_122) :: (.ref q_123) :: (.ref q_124) :: (.ref q_125) :: (.ref q_126) :: (.ref q_127) :: (.ref q_128) :: (.ref q_129) :: (.ref q_130) :: (.ref q_131) :: (.ref q_132) :: (.ref q_133) :: (.ref q_134) :: (.int 0) :: (.int 0) :: (.int 0) :: (.int 0) :: (.int 0) :: (.int 0) :: (.int 0) :: (.int 0) :: (.int 0) :: (.ref q_135) :: (.ref q_136) :: (.int 0) :: (.ref q_137) :: (.int 0) :: (.int 0) :: (.int 0) :: (.int 0) :: (.int 0) :: (.int 0) :: (.ref q_138) :: (.int 0) :: (.ref q_139) :: (.ref q_140) :: (.ref q_141) :: (.ref q_142) :: (.ref q_143) :: (.ref q_144) :: (.ref q_145) :: (.ref q_146) :: (.ref q_147) :: (.ref q_148) :: (.int 0) :: (.int 0) :: (.ref q_149) :: (.ref q_150) :: []))), (q_107, .inl (cI, 2, .inl (lst [0, 0])))]) [0, 3, 38, 57, 67, 72] rfl
      have hD := hD.sub (ws' := [(q_1, .inr (9, [.ref q_2, .ref q_3, .ref q_4, .ref q_5, .ref q_6, .ref q_7, .ref q_8, .ref q_9, .ref q_10, .ref q_11, .ref q_12, .ref q_13, .int 0])), (q_4, .inr (8, [.int 0, .int 0, .int 0, .ref q_16, .ref q_17, .ref q_18, .ref q_19, .ref q_20, .ref q_21, .ref q_22, .ref q_23, .ref q_24, .ref q_25, .int 0, .int 1, .int 0, .int 0, .int 0])), (q_6, .inr (3, [.ref q_4, .ref q_73, .ref q_74, .ref q_75, .ref q_76, .ref q_77, .int 0, .int 0])), (q_10, .inr (6, [.ref q_96, .ref q_97, .ref q_98, .ref q_99, .ref q_100, .int 0])), (q_102, .inr (10, ((.ref q_103) :: (.ref q_104) :: (.int 0) :: (.int 0) :: (.int 0) :: (.int (-1)) :: (.int 0) :: (.int 0) :: (.int 0) :: (.int 0) :: (.long 0) :: (.ref q_105) :: (.ref q_106) :: (.ref q_107) :: (.ref q_108) :: (.ref q_109) :: (.ref q_110) :: (.ref q_111) :: (.ref q_112) :: (.ref q_113) :: (.ref q_114) :: (.ref q_115) :: (.ref q_116) :: (.ref q_117) :: (.ref q_118) :: (.ref q_119) :: (.ref q_120) :: (.ref q_121) :: (.ref q_122) :: (.ref q_123) :: (.ref q_124) :: (.ref q_125) :: (.ref q_126) :: (.ref q_127) :: (.ref q_128) :: (.ref q_129) :: (.ref q_130) :: (.ref q_131) :: (.ref q_132) :: (.ref q_133) :: (.ref q_134) :: (.int 0) :: (.int 0) :: (.int 0) :: (.int 0) :: (.int 0) :: (.int 0) :: (.int 0) :: (.int 0) :: (.int 0) :: (.ref q_135) :: (.ref q_136) :: (.int 0) :: (.ref q_137) :: (.int 0) :: (.int 0) :: (.int 0) :: (.int 0) :: (.int 0) :: (.int 0) :: (.ref q_138) :: (.int 0) :: (.ref q_139) :: (.ref q_140) :: (.ref q_141) :: (.ref q_142) :: (.ref q_143) :: (.ref q_144) :: (.ref q_145) :: (.ref q_146) :: (.ref q_147) :: (.ref q_148) :: (.int 0) :: (.int 0) :: (.ref q_149) :: (.ref q_150) :: []))), (q_107, .inl (cI, 2, .inl (lst [0, 0])))]) [0, 3, 38, 57, 67, 72] (by decide) rfl
      refine lv_tableIn (off := 1369) (tgt := 1402) hx hb dL_law_33 (by decide) (by decide) (by decide +kernel) (by decide) ?_
      refine lv_aload_n hx hb dL_law_1402 rfl (lv_at hl 2 rfl) ?_
      refine lv_aload_n hx hb dL_law_1403 rfl (lv_at hl 3 rfl) ?_
      refine lv_iload_n hx hb dL_law_1404 rfl (lv_at hl 0 rfl) ?_
      refine lv_iconst (v := 1) hx hb dL_law_1405 (by decide +kernel) ?_
      refine lv_iadd hx hb dL_law_1406 ?_
      refine xt_i (v := 1) (by decide +kernel) ?_
      refine va_sld hx hb hX hbl hbA hS (vin (by decide +kernel)) dL_law_1407 ?_
      refine xt_i (v := xs 1) rfl ?_
      refine xc_core (wr := [(q_102, .inr (10, ((.ref q_103) :: (.ref q_104) :: (.int 0) :: (.int 0) :: (.int 0) :: (.int (-1)) :: (.int 0) :: (.int 0) :: (.int 0) :: (.int 0) :: (.long 0) :: (.ref q_105) :: (.ref q_106) :: (.ref q_107) :: (.ref q_108) :: (.ref q_109) :: (.ref q_110) :: (.ref q_111) :: (.ref q_112) :: (.ref q_113) :: (.ref q_114) :: (.ref q_115) :: (.ref q_116) :: (.ref q_117) :: (.ref q_118) :: (.ref q_119) :: (.ref q_120) :: (.ref q_121) :: (.ref q_122) :: (.ref q_123) :: (.ref q_124) :: (.ref q_125) :: (.ref q_126) :: (.ref q_127) :: (.ref q_128) :: (.ref q_129) :: (.ref q_130) :: (.ref q_131) :: (.ref q_132) :: (.ref q_133) :: (.ref q_134) :: (.int 0) :: (.int 0) :: (.int 0) :: (.int 0) :: (.int 0) :: (.int 0) :: (.int 0) :: (.int 0) :: (.int 0) :: (.ref q_135) :: (.ref q_136) :: (.int 0) :: (.ref q_137) :: (.int 0) :: (.int 0) :: (.int 0) :: (.int 0) :: (.int 0) :: (.int 0) :: (.ref q_138) :: (.int 0) :: (.ref q_139) :: (.ref q_140) :: (.ref q_141) :: (.ref q_142) :: (.ref q_143) :: (.ref q_144) :: (.ref q_145) :: (.ref q_146) :: (.ref q_147) :: (.ref q_148) :: (.int 0) :: (.int 0) :: (.ref q_149) :: (.ref q_150) :: []))), (q_107, .inl (cI, 2, .inl (lst [0, 0])))]) (k := 116) (n := 11963) (xc_runV (As := [.int (xs 1)]) (rest := []) hx hb hml hown hts hG hE hP hD hS hA [0, 1, 2, 3] (by decide) rfl (cX9_fits_1 l D cB cI cJ cZ aK aV q_1 ((xs 1)) q_2 q_3 q_4 q_5 q_6 q_7 q_8 q_9 q_10 q_11 q_12 q_13 q_16 q_17 q_18 q_19 q_20 q_21 q_22 q_23 q_24 q_25 q_73 q_74 q_75 q_76 q_77 q_96 q_97 q_98 q_99 q_100) kw1212 kw1209 kw1210 kw1211 kw112 (show XD yX9_fits 1 from by decide +kernel) (by decide) rfl rfl 0 rfl hl.1 rfl (Nat.le_of_ble_eq_true rfl) dL_law_1408 (by decide)) hP hD hS hA [0, 1, 2, 3] [4, 5] rfl rfl (by decide) (by decide) (Nat.le_of_ble_eq_true rfl) (Nat.le_of_ble_eq_true rfl) (fun r w1 H locs hpost hP hD hS => ?_)
      obtain rfl := hpost
      have hP := hP.sub (ws' := [(q_102, .inr (10, ((.ref q_103) :: (.ref q_104) :: (.int 0) :: (.int 0) :: (.int 0) :: (.int (-1)) :: (.int 0) :: (.int 0) :: (.int 0) :: (.int 0) :: (.long 0) :: (.ref q_105) :: (.ref q_106) :: (.ref q_107) :: (.ref q_108) :: (.ref q_109) :: (.ref q_110) :: (.ref q_111) :: (.ref q_112) :: (.ref q_113) :: (.ref q_114) :: (.ref q_115) :: (.ref q_116) :: (.ref q_117) :: (.ref q_118) :: (.ref q_119) :: (.ref q_120) :: (.ref q_121) :: (.ref q_122) :: (.ref q_123) :: (.ref q_124) :: (.ref q_125) :: (.ref q_126) :: (.ref q_127) :: (.ref q_128) :: (.ref q_129) :: (.ref q_130) :: (.ref q_131) :: (.ref q_132) :: (.ref q_133) :: (.ref q_134) :: (.int 0) :: (.int 0) :: (.int 0) :: (.int 0) :: (.int 0) :: (.int 0) :: (.int 0) :: (.int 0) :: (.int 0) :: (.ref q_135) :: (.ref q_136) :: (.int 0) :: (.ref q_137) :: (.int 0) :: (.int 0) :: (.int 0) :: (.int 0) :: (.int 0) :: (.int 0) :: (.ref q_138) :: (.int 0) :: (.ref q_139) :: (.ref q_140) :: (.ref q_141) :: (.ref q_142) :: (.ref q_143) :: (.ref q_144) :: (.ref q_145) :: (.ref q_146) :: (.ref q_147) :: (.ref q_148) :: (.int 0) :: (.int 0) :: (.ref q_149) :: (.ref q_150) :: []))), (q_107, .inl (cI, 2, .inl (lst [0, 0])))]) [0, 1] rfl
      have hD := hD.sub (ws' := [(q_102, .inr (10, ((.ref q_103) :: (.ref q_104) :: (.int 0) :: (.int 0) :: (.int 0) :: (.int (-1)) :: (.int 0) :: (.int 0) :: (.int 0) :: (.int 0) :: (.long 0) :: (.ref q_105) :: (.ref q_106) :: (.ref q_107) :: (.ref q_108) :: (.ref q_109) :: (.ref q_110) :: (.ref q_111) :: (.ref q_112) :: (.ref q_113) :: (.ref q_114) :: (.ref q_115) :: (.ref q_116) :: (.ref q_117) :: (.ref q_118) :: (.ref q_119) :: (.ref q_120) :: (.ref q_121) :: (.ref q_122) :: (.ref q_123) :: (.ref q_124) :: (.ref q_125) :: (.ref q_126) :: (.ref q_127) :: (.ref q_128) :: (.ref q_129) :: (.ref q_130) :: (.ref q_131) :: (.ref q_132) :: (.ref q_133) :: (.ref q_134) :: (.int 0) :: (.int 0) :: (.int 0) :: (.int 0) :: (.int 0) :: (.int 0) :: (.int 0) :: (.int 0) :: (.int 0) :: (.ref q_135) :: (.ref q_136) :: (.int 0) :: (.ref q_137) :: (.int 0) :: (.int 0) :: (.int 0) :: (.int 0) :: (.int 0) :: (.int 0) :: (.ref q_138) :: (.int 0) :: (.ref q_139) :: (.ref q_140) :: (.ref q_141) :: (.ref q_142) :: (.ref q_143) :: (.ref q_144) :: (.ref q_145) :: (.ref q_146) :: (.ref q_147) :: (.ref q_148) :: (.int 0) :: (.int 0) :: (.ref q_149) :: (.ref q_150) :: []))), (q_107, .inl (cI, 2, .inl (lst [0, 0])))]) [0, 1] (by decide) rfl
      refine lv_aload_n hx hb dL_law_1411 rfl (lv_at hl 1 rfl) ?_
      refine lv_aload_n hx hb dL_law_1412 rfl (lv_at hl 3 rfl) ?_
      refine lv_iload_n hx hb dL_law_1413 rfl (lv_at hl 0 rfl) ?_
      refine lv_iconst (v := 1) hx hb dL_law_1414 (by decide +kernel) ?_
      refine lv_iadd hx hb dL_law_1415 ?_
      refine xt_i (v := 1) (by decide +kernel) ?_
      refine va_sld hx hb hX hbl hbA hS (vin (by decide +kernel)) dL_law_1416 ?_
      refine xt_i (v := xs 1) rfl ?_
      refine xc_core (wr := []) (k := 116) (n := 11963) (xc_runV (As := [.int (xs 1)]) (rest := [.int 0]) hx hb hml hown hts hG hE hP hD hS hA [0, 1] (by decide) rfl (cX10_fits_1 l D cB cI cJ cZ aK aV q_102 ((xs 1)) q_103 q_104 q_105 q_106 q_107 q_108 q_109 q_110 q_111 q_112 q_113 q_114 q_115 q_116 q_117 q_118 q_119 q_120 q_121 q_122 q_123 q_124 q_125 q_126 q_127 q_128 q_129 q_130 q_131 q_132 q_133 q_134 q_135 q_136 q_137 q_138 q_139 q_140 q_141 q_142 q_143 q_144 q_145 q_146 q_147 q_148 q_149 q_150) kw1976 kw1973 kw1974 kw1975 kw127 (show XD yX10_fits 1 from by decide +kernel) (by decide) rfl rfl 0 rfl hl.1 rfl (Nat.le_of_ble_eq_true rfl) dL_law_1417 (by decide)) hP hD hS hA [0, 1] [] rfl rfl (by decide) (by decide) (Nat.le_of_ble_eq_true rfl) (Nat.le_of_ble_eq_true rfl) (fun r w1 H locs hpost hP hD hS => ?_)
      obtain rfl := hpost
      have hP := hP.sub (ws' := []) [] rfl
      have hD := hD.sub (ws' := []) [] (by decide) rfl
      refine lv_icmp_eq (tgt := 1527) hx hb dL_law_1420 (by decide) (fun _ => ?_) (fun h => absurd h (by decide +kernel))
      refine lv_iinc (v := 6) (lv' := [(3, .int 6), (2, .ref q_102), (1, .ref q_1), (0, .ref b)]) hx hb dL_law_1527 hl (k := 0) rfl (by decide +kernel) (by decide) rfl (fun ls hl => ?_)
      refine lv_goto (tgt := 18) hx hb dL_law_1530 (by decide) ?_
      refine lv_iload_n hx hb dL_law_18 rfl (lv_at hl 0 rfl) ?_
      refine lv_aload_n hx hb dL_law_19 rfl (lv_at hl 3 rfl) ?_
      refine va_slen hx hb hX hbl hbA hS dL_law_20 ?_
      refine xt_i (v := 6) (by decide +kernel) ?_
      refine lv_bipush (v := 6) hx hb dL_law_21 (by decide +kernel) ?_
      refine lv_isub hx hb dL_law_23 ?_
      refine xt_i (v := 0) (by decide +kernel) ?_
      refine lv_icmp_gt (tgt := 1533) hx hb dL_law_24 (by decide) (fun _ => ?_) (fun h => absurd h (by decide +kernel))
      refine lv_iconst (v := 1) hx hb dL_law_1533 (by decide +kernel) ?_
      refine va_forget (fun q hq => by have z := hS.2.2 q hq; rw [hAe] at z; exact z) ?_
      refine W.widen (k := 600000) (n := 7302250) (Nat.le_of_ble_eq_true rfl) (Nat.le_of_ble_eq_true rfl) ?_
      exact lw_ret hx hb hr hlocks dL_law_1534
    by_cases c_211 : v_157 = 41
    · subst c_211
      have hP := hP.sub (ws' := [(q_1, .inr (9, [.ref q_2, .ref q_3, .ref q_4, .ref q_5, .ref q_6, .ref q_7, .ref q_8, .ref q_9, .ref q_10, .ref q_11, .ref q_12, .ref q_13, .int 0])), (q_4, .inr (8, [.int 0, .int 0, .int 0, .ref q_16, .ref q_17, .ref q_18, .ref q_19, .ref q_20, .ref q_21, .ref q_22, .ref q_23, .ref q_24, .ref q_25, .int 0, .int 1, .int 0, .int 0, .int 0])), (q_6, .inr (3, [.ref q_4, .ref q_73, .ref q_74, .ref q_75, .ref q_76, .ref q_77, .int 0, .int 0])), (q_10, .inr (6, [.ref q_96, .ref q_97, .ref q_98, .ref q_99, .ref q_100, .int 0])), (q_102, .inr (10, ((.ref q_103) :: (.ref q_104) :: (.int 0) :: (.int 0) :: (.int 0) :: (.int (-1)) :: (.int 0) :: (.int 0) :: (.int 0) :: (.int 0) :: (.long 0) :: (.ref q_105) :: (.ref q_106) :: (.ref q_107) :: (.ref q_108) :: (.ref q_109) :: (.ref q_110) :: (.ref q_111) :: (.ref q_112) :: (.ref q_113) :: (.ref q_114) :: (.ref q_115) :: (.ref q_116) :: (.ref q_117) :: (.ref q_118) :: (.ref q_119) :: (.ref q_120) :: (.ref q_121) :: (.ref q_122) :: (.ref q_123) :: (.ref q_124) :: (.ref q_125) :: (.ref q_126) :: (.ref q_127) :: (.ref q_128) :: (.ref q_129) :: (.ref q_130) :: (.ref q_131) :: (.ref q_132) :: (.ref q_133) :: (.ref q_134) :: (.int 0) :: (.int 0) :: (.int 0) :: (.int 0) :: (.int 0) :: (.int 0) :: (.int 0) :: (.int 0) :: (.int 0) :: (.ref q_135) :: (.ref q_136) :: (.int 0) :: (.ref q_137) :: (.int 0) :: (.int 0) :: (.int 0) :: (.int 0) :: (.int 0) :: (.int 0) :: (.ref q_138) :: (.int 0) :: (.ref q_139) :: (.ref q_140) :: (.ref q_141) :: (.ref q_142) :: (.ref q_143) :: (.ref q_144) :: (.ref q_145) :: (.ref q_146) :: (.ref q_147) :: (.ref q_148) :: (.int 0) :: (.int 0) :: (.ref q_149) :: (.ref q_150) :: []))), (q_107, .inl (cI, 2, .inl (lst [0, 0])))]) [0, 3, 38, 57, 67, 72] rfl
      have hD := hD.sub (ws' := [(q_1, .inr (9, [.ref q_2, .ref q_3, .ref q_4, .ref q_5, .ref q_6, .ref q_7, .ref q_8, .ref q_9, .ref q_10, .ref q_11, .ref q_12, .ref q_13, .int 0])), (q_4, .inr (8, [.int 0, .int 0, .int 0, .ref q_16, .ref q_17, .ref q_18, .ref q_19, .ref q_20, .ref q_21, .ref q_22, .ref q_23, .ref q_24, .ref q_25, .int 0, .int 1, .int 0, .int 0, .int 0])), (q_6, .inr (3, [.ref q_4, .ref q_73, .ref q_74, .ref q_75, .ref q_76, .ref q_77, .int 0, .int 0])), (q_10, .inr (6, [.ref q_96, .ref q_97, .ref q_98, .ref q_99, .ref q_100, .int 0])), (q_102, .inr (10, ((.ref q_103) :: (.ref q_104) :: (.int 0) :: (.int 0) :: (.int 0) :: (.int (-1)) :: (.int 0) :: (.int 0) :: (.int 0) :: (.int 0) :: (.long 0) :: (.ref q_105) :: (.ref q_106) :: (.ref q_107) :: (.ref q_108) :: (.ref q_109) :: (.ref q_110) :: (.ref q_111) :: (.ref q_112) :: (.ref q_113) :: (.ref q_114) :: (.ref q_115) :: (.ref q_116) :: (.ref q_117) :: (.ref q_118) :: (.ref q_119) :: (.ref q_120) :: (.ref q_121) :: (.ref q_122) :: (.ref q_123) :: (.ref q_124) :: (.ref q_125) :: (.ref q_126) :: (.ref q_127) :: (.ref q_128) :: (.ref q_129) :: (.ref q_130) :: (.ref q_131) :: (.ref q_132) :: (.ref q_133) :: (.ref q_134) :: (.int 0) :: (.int 0) :: (.int 0) :: (.int 0) :: (.int 0) :: (.int 0) :: (.int 0) :: (.int 0) :: (.int 0) :: (.ref q_135) :: (.ref q_136) :: (.int 0) :: (.ref q_137) :: (.int 0) :: (.int 0) :: (.int 0) :: (.int 0) :: (.int 0) :: (.int 0) :: (.ref q_138) :: (.int 0) :: (.ref q_139) :: (.ref q_140) :: (.ref q_141) :: (.ref q_142) :: (.ref q_143) :: (.ref q_144) :: (.ref q_145) :: (.ref q_146) :: (.ref q_147) :: (.ref q_148) :: (.int 0) :: (.int 0) :: (.ref q_149) :: (.ref q_150) :: []))), (q_107, .inl (cI, 2, .inl (lst [0, 0])))]) [0, 3, 38, 57, 67, 72] (by decide) rfl
      refine lv_tableIn (off := 1392) (tgt := 1425) hx hb dL_law_33 (by decide) (by decide) (by decide +kernel) (by decide) ?_
      refine lv_aload_n hx hb dL_law_1425 rfl (lv_at hl 2 rfl) ?_
      refine lv_aload_n hx hb dL_law_1426 rfl (lv_at hl 3 rfl) ?_
      refine lv_iload_n hx hb dL_law_1427 rfl (lv_at hl 0 rfl) ?_
      refine lv_iconst (v := 1) hx hb dL_law_1428 (by decide +kernel) ?_
      refine lv_iadd hx hb dL_law_1429 ?_
      refine xt_i (v := 1) (by decide +kernel) ?_
      refine va_sld hx hb hX hbl hbA hS (vin (by decide +kernel)) dL_law_1430 ?_
      refine xt_i (v := xs 1) rfl ?_
      refine lv_aload_n hx hb dL_law_1431 rfl (lv_at hl 3 rfl) ?_
      refine lv_iload_n hx hb dL_law_1432 rfl (lv_at hl 0 rfl) ?_
      refine lv_iconst (v := 2) hx hb dL_law_1433 (by decide +kernel) ?_
      refine lv_iadd hx hb dL_law_1434 ?_
      refine xt_i (v := 2) (by decide +kernel) ?_
      refine va_sld hx hb hX hbl hbA hS (vin (by decide +kernel)) dL_law_1435 ?_
      refine xt_i (v := xs 2) rfl ?_
      refine xc_core (wr := [(q_102, .inr (10, ((.ref q_103) :: (.ref q_104) :: (.int 0) :: (.int 0) :: (.int 0) :: (.int (-1)) :: (.int 0) :: (.int 0) :: (.int 0) :: (.int 0) :: (.long 0) :: (.ref q_105) :: (.ref q_106) :: (.ref q_107) :: (.ref q_108) :: (.ref q_109) :: (.ref q_110) :: (.ref q_111) :: (.ref q_112) :: (.ref q_113) :: (.ref q_114) :: (.ref q_115) :: (.ref q_116) :: (.ref q_117) :: (.ref q_118) :: (.ref q_119) :: (.ref q_120) :: (.ref q_121) :: (.ref q_122) :: (.ref q_123) :: (.ref q_124) :: (.ref q_125) :: (.ref q_126) :: (.ref q_127) :: (.ref q_128) :: (.ref q_129) :: (.ref q_130) :: (.ref q_131) :: (.ref q_132) :: (.ref q_133) :: (.ref q_134) :: (.int 0) :: (.int 0) :: (.int 0) :: (.int 0) :: (.int 0) :: (.int 0) :: (.int 0) :: (.int 0) :: (.int 0) :: (.ref q_135) :: (.ref q_136) :: (.int 0) :: (.ref q_137) :: (.int 0) :: (.int 0) :: (.int 0) :: (.int 0) :: (.int 0) :: (.int 0) :: (.ref q_138) :: (.int 0) :: (.ref q_139) :: (.ref q_140) :: (.ref q_141) :: (.ref q_142) :: (.ref q_143) :: (.ref q_144) :: (.ref q_145) :: (.ref q_146) :: (.ref q_147) :: (.ref q_148) :: (.int 0) :: (.int 0) :: (.ref q_149) :: (.ref q_150) :: []))), (q_107, .inl (cI, 2, .inl (lst [0, 0])))]) (k := 116) (n := 11963) (xc_runV (As := [.int (xs 1), .int (xs 2)]) (rest := []) hx hb hml hown hts hG hE hP hD hS hA [0, 1, 2, 3] (by decide) rfl (cX9_ask_1 l D cB cI cJ cZ aK aV q_1 ((xs 1)) ((xs 2)) q_2 q_3 q_4 q_5 q_6 q_7 q_8 q_9 q_10 q_11 q_12 q_13 q_16 q_17 q_18 q_19 q_20 q_21 q_22 q_23 q_24 q_25 q_73 q_74 q_75 q_76 q_77 q_96 q_97 q_98 q_99 q_100) kw1235 kw1232 kw1233 kw1234 kw112 (show XD yX9_ask 2 from by decide +kernel) (by decide) rfl rfl 0 rfl hl.1 rfl (Nat.le_of_ble_eq_true rfl) dL_law_1436 (by decide)) hP hD hS hA [0, 1, 2, 3] [4, 5] rfl rfl (by decide) (by decide) (Nat.le_of_ble_eq_true rfl) (Nat.le_of_ble_eq_true rfl) (fun r w1 H locs hpost hP hD hS => ?_)
      obtain rfl := hpost
      have hP := hP.sub (ws' := [(q_102, .inr (10, ((.ref q_103) :: (.ref q_104) :: (.int 0) :: (.int 0) :: (.int 0) :: (.int (-1)) :: (.int 0) :: (.int 0) :: (.int 0) :: (.int 0) :: (.long 0) :: (.ref q_105) :: (.ref q_106) :: (.ref q_107) :: (.ref q_108) :: (.ref q_109) :: (.ref q_110) :: (.ref q_111) :: (.ref q_112) :: (.ref q_113) :: (.ref q_114) :: (.ref q_115) :: (.ref q_116) :: (.ref q_117) :: (.ref q_118) :: (.ref q_119) :: (.ref q_120) :: (.ref q_121) :: (.ref q_122) :: (.ref q_123) :: (.ref q_124) :: (.ref q_125) :: (.ref q_126) :: (.ref q_127) :: (.ref q_128) :: (.ref q_129) :: (.ref q_130) :: (.ref q_131) :: (.ref q_132) :: (.ref q_133) :: (.ref q_134) :: (.int 0) :: (.int 0) :: (.int 0) :: (.int 0) :: (.int 0) :: (.int 0) :: (.int 0) :: (.int 0) :: (.int 0) :: (.ref q_135) :: (.ref q_136) :: (.int 0) :: (.ref q_137) :: (.int 0) :: (.int 0) :: (.int 0) :: (.int 0) :: (.int 0) :: (.int 0) :: (.ref q_138) :: (.int 0) :: (.ref q_139) :: (.ref q_140) :: (.ref q_141) :: (.ref q_142) :: (.ref q_143) :: (.ref q_144) :: (.ref q_145) :: (.ref q_146) :: (.ref q_147) :: (.ref q_148) :: (.int 0) :: (.int 0) :: (.ref q_149) :: (.ref q_150) :: []))), (q_107, .inl (cI, 2, .inl (lst [0, 0])))]) [0, 1] rfl
      have hD := hD.sub (ws' := [(q_102, .inr (10, ((.ref q_103) :: (.ref q_104) :: (.int 0) :: (.int 0) :: (.int 0) :: (.int (-1)) :: (.int 0) :: (.int 0) :: (.int 0) :: (.int 0) :: (.long 0) :: (.ref q_105) :: (.ref q_106) :: (.ref q_107) :: (.ref q_108) :: (.ref q_109) :: (.ref q_110) :: (.ref q_111) :: (.ref q_112) :: (.ref q_113) :: (.ref q_114) :: (.ref q_115) :: (.ref q_116) :: (.ref q_117) :: (.ref q_118) :: (.ref q_119) :: (.ref q_120) :: (.ref q_121) :: (.ref q_122) :: (.ref q_123) :: (.ref q_124) :: (.ref q_125) :: (.ref q_126) :: (.ref q_127) :: (.ref q_128) :: (.ref q_129) :: (.ref q_130) :: (.ref q_131) :: (.ref q_132) :: (.ref q_133) :: (.ref q_134) :: (.int 0) :: (.int 0) :: (.int 0) :: (.int 0) :: (.int 0) :: (.int 0) :: (.int 0) :: (.int 0) :: (.int 0) :: (.ref q_135) :: (.ref q_136) :: (.int 0) :: (.ref q_137) :: (.int 0) :: (.int 0) :: (.int 0) :: (.int 0) :: (.int 0) :: (.int 0) :: (.ref q_138) :: (.int 0) :: (.ref q_139) :: (.ref q_140) :: (.ref q_141) :: (.ref q_142) :: (.ref q_143) :: (.ref q_144) :: (.ref q_145) :: (.ref q_146) :: (.ref q_147) :: (.ref q_148) :: (.int 0) :: (.int 0) :: (.ref q_149) :: (.ref q_150) :: []))), (q_107, .inl (cI, 2, .inl (lst [0, 0])))]) [0, 1] (by decide) rfl
      refine lv_aload_n hx hb dL_law_1439 rfl (lv_at hl 1 rfl) ?_
      refine lv_aload_n hx hb dL_law_1440 rfl (lv_at hl 3 rfl) ?_
      refine lv_iload_n hx hb dL_law_1441 rfl (lv_at hl 0 rfl) ?_
      refine lv_iconst (v := 1) hx hb dL_law_1442 (by decide +kernel) ?_
      refine lv_iadd hx hb dL_law_1443 ?_
      refine xt_i (v := 1) (by decide +kernel) ?_
      refine va_sld hx hb hX hbl hbA hS (vin (by decide +kernel)) dL_law_1444 ?_
      refine xt_i (v := xs 1) rfl ?_
      refine lv_aload_n hx hb dL_law_1445 rfl (lv_at hl 3 rfl) ?_
      refine lv_iload_n hx hb dL_law_1446 rfl (lv_at hl 0 rfl) ?_
      refine lv_iconst (v := 2) hx hb dL_law_1447 (by decide +kernel) ?_
      refine lv_iadd hx hb dL_law_1448 ?_
      refine xt_i (v := 2) (by decide +kernel) ?_
      refine va_sld hx hb hX hbl hbA hS (vin (by decide +kernel)) dL_law_1449 ?_
      refine xt_i (v := xs 2) rfl ?_
      refine xc_core (wr := []) (k := 116) (n := 11963) (xc_runV (As := [.int (xs 1), .int (xs 2)]) (rest := [.int (-1)]) hx hb hml hown hts hG hE hP hD hS hA [0, 1] (by decide) rfl (cX10_ask_1 l D cB cI cJ cZ aK aV q_102 ((xs 1)) ((xs 2)) q_103 q_104 q_105 q_106 q_107 q_108 q_109 q_110 q_111 q_112 q_113 q_114 q_115 q_116 q_117 q_118 q_119 q_120 q_121 q_122 q_123 q_124 q_125 q_126 q_127 q_128 q_129 q_130 q_131 q_132 q_133 q_134 q_135 q_136 q_137 q_138 q_139 q_140 q_141 q_142 q_143 q_144 q_145 q_146 q_147 q_148 q_149 q_150) kw1988 kw1985 kw1986 kw1987 kw127 (show XD yX10_ask 2 from by decide +kernel) (by decide) rfl rfl 0 rfl hl.1 rfl (Nat.le_of_ble_eq_true rfl) dL_law_1450 (by decide)) hP hD hS hA [0, 1] [] rfl rfl (by decide) (by decide) (Nat.le_of_ble_eq_true rfl) (Nat.le_of_ble_eq_true rfl) (fun r w1 H locs hpost hP hD hS => ?_)
      obtain rfl := hpost
      have hP := hP.sub (ws' := []) [] rfl
      have hD := hD.sub (ws' := []) [] (by decide) rfl
      refine lv_icmp_eq (tgt := 1527) hx hb dL_law_1453 (by decide) (fun _ => ?_) (fun h => absurd h (by decide +kernel))
      refine lv_iinc (v := 6) (lv' := [(3, .int 6), (2, .ref q_102), (1, .ref q_1), (0, .ref b)]) hx hb dL_law_1527 hl (k := 0) rfl (by decide +kernel) (by decide) rfl (fun ls hl => ?_)
      refine lv_goto (tgt := 18) hx hb dL_law_1530 (by decide) ?_
      refine lv_iload_n hx hb dL_law_18 rfl (lv_at hl 0 rfl) ?_
      refine lv_aload_n hx hb dL_law_19 rfl (lv_at hl 3 rfl) ?_
      refine va_slen hx hb hX hbl hbA hS dL_law_20 ?_
      refine xt_i (v := 6) (by decide +kernel) ?_
      refine lv_bipush (v := 6) hx hb dL_law_21 (by decide +kernel) ?_
      refine lv_isub hx hb dL_law_23 ?_
      refine xt_i (v := 0) (by decide +kernel) ?_
      refine lv_icmp_gt (tgt := 1533) hx hb dL_law_24 (by decide) (fun _ => ?_) (fun h => absurd h (by decide +kernel))
      refine lv_iconst (v := 1) hx hb dL_law_1533 (by decide +kernel) ?_
      refine va_forget (fun q hq => by have z := hS.2.2 q hq; rw [hAe] at z; exact z) ?_
      refine W.widen (k := 600000) (n := 7302250) (Nat.le_of_ble_eq_true rfl) (Nat.le_of_ble_eq_true rfl) ?_
      exact lw_ret hx hb hr hlocks dL_law_1534
    by_cases c_212 : v_157 = 42
    · subst c_212
      have hP := hP.sub (ws' := [(q_1, .inr (9, [.ref q_2, .ref q_3, .ref q_4, .ref q_5, .ref q_6, .ref q_7, .ref q_8, .ref q_9, .ref q_10, .ref q_11, .ref q_12, .ref q_13, .int 0])), (q_6, .inr (3, [.ref q_4, .ref q_73, .ref q_74, .ref q_75, .ref q_76, .ref q_77, .int 0, .int 0])), (q_73, .inl (cI, 7, .inl f_78)), (q_74, .inl (cI, 7, .inl f_79)), (q_75, .inl (cI, 7, .inl f_80)), (q_76, .inl (cI, 4, .inl f_81)), (q_12, .inl (cI, 81, .inl (fun _ => 0))), (q_13, .inl (cZ, 3, .inl (lst [0, 0, 0]))), (q_102, .inr (10, ((.ref q_103) :: (.ref q_104) :: (.int 0) :: (.int 0) :: (.int 0) :: (.int (-1)) :: (.int 0) :: (.int 0) :: (.int 0) :: (.int 0) :: (.long 0) :: (.ref q_105) :: (.ref q_106) :: (.ref q_107) :: (.ref q_108) :: (.ref q_109) :: (.ref q_110) :: (.ref q_111) :: (.ref q_112) :: (.ref q_113) :: (.ref q_114) :: (.ref q_115) :: (.ref q_116) :: (.ref q_117) :: (.ref q_118) :: (.ref q_119) :: (.ref q_120) :: (.ref q_121) :: (.ref q_122) :: (.ref q_123) :: (.ref q_124) :: (.ref q_125) :: (.ref q_126) :: (.ref q_127) :: (.ref q_128) :: (.ref q_129) :: (.ref q_130) :: (.ref q_131) :: (.ref q_132) :: (.ref q_133) :: (.ref q_134) :: (.int 0) :: (.int 0) :: (.int 0) :: (.int 0) :: (.int 0) :: (.int 0) :: (.int 0) :: (.int 0) :: (.int 0) :: (.ref q_135) :: (.ref q_136) :: (.int 0) :: (.ref q_137) :: (.int 0) :: (.int 0) :: (.int 0) :: (.int 0) :: (.int 0) :: (.int 0) :: (.ref q_138) :: (.int 0) :: (.ref q_139) :: (.ref q_140) :: (.ref q_141) :: (.ref q_142) :: (.ref q_143) :: (.ref q_144) :: (.ref q_145) :: (.ref q_146) :: (.ref q_147) :: (.ref q_148) :: (.int 0) :: (.int 0) :: (.ref q_149) :: (.ref q_150) :: []))), (q_135, .inl (cI, 27, .inl (lst [(-1), (-1), (-1), (-1), (-1), (-1), (-1), 0, 0, 0, 0, 0, 0, 0, (-1), (-1), (-1), (-1), (-1), (-1), (-1), 0, 0, 0, 0, 0, 0]))), (q_149, .inl (cI, 81, .inl (fun _ => 0))), (q_150, .inl (cZ, 3, .inl (lst [0, 0, 0])))]) [0, 38, 39, 40, 41, 42, 65, 66, 67, 100, 114, 115] rfl
      have hD := hD.sub (ws' := [(q_1, .inr (9, [.ref q_2, .ref q_3, .ref q_4, .ref q_5, .ref q_6, .ref q_7, .ref q_8, .ref q_9, .ref q_10, .ref q_11, .ref q_12, .ref q_13, .int 0])), (q_6, .inr (3, [.ref q_4, .ref q_73, .ref q_74, .ref q_75, .ref q_76, .ref q_77, .int 0, .int 0])), (q_73, .inl (cI, 7, .inl f_78)), (q_74, .inl (cI, 7, .inl f_79)), (q_75, .inl (cI, 7, .inl f_80)), (q_76, .inl (cI, 4, .inl f_81)), (q_12, .inl (cI, 81, .inl (fun _ => 0))), (q_13, .inl (cZ, 3, .inl (lst [0, 0, 0]))), (q_102, .inr (10, ((.ref q_103) :: (.ref q_104) :: (.int 0) :: (.int 0) :: (.int 0) :: (.int (-1)) :: (.int 0) :: (.int 0) :: (.int 0) :: (.int 0) :: (.long 0) :: (.ref q_105) :: (.ref q_106) :: (.ref q_107) :: (.ref q_108) :: (.ref q_109) :: (.ref q_110) :: (.ref q_111) :: (.ref q_112) :: (.ref q_113) :: (.ref q_114) :: (.ref q_115) :: (.ref q_116) :: (.ref q_117) :: (.ref q_118) :: (.ref q_119) :: (.ref q_120) :: (.ref q_121) :: (.ref q_122) :: (.ref q_123) :: (.ref q_124) :: (.ref q_125) :: (.ref q_126) :: (.ref q_127) :: (.ref q_128) :: (.ref q_129) :: (.ref q_130) :: (.ref q_131) :: (.ref q_132) :: (.ref q_133) :: (.ref q_134) :: (.int 0) :: (.int 0) :: (.int 0) :: (.int 0) :: (.int 0) :: (.int 0) :: (.int 0) :: (.int 0) :: (.int 0) :: (.ref q_135) :: (.ref q_136) :: (.int 0) :: (.ref q_137) :: (.int 0) :: (.int 0) :: (.int 0) :: (.int 0) :: (.int 0) :: (.int 0) :: (.ref q_138) :: (.int 0) :: (.ref q_139) :: (.ref q_140) :: (.ref q_141) :: (.ref q_142) :: (.ref q_143) :: (.ref q_144) :: (.ref q_145) :: (.ref q_146) :: (.ref q_147) :: (.ref q_148) :: (.int 0) :: (.int 0) :: (.ref q_149) :: (.ref q_150) :: []))), (q_135, .inl (cI, 27, .inl (lst [(-1), (-1), (-1), (-1), (-1), (-1), (-1), 0, 0, 0, 0, 0, 0, 0, (-1), (-1), (-1), (-1), (-1), (-1), (-1), 0, 0, 0, 0, 0, 0]))), (q_149, .inl (cI, 81, .inl (fun _ => 0))), (q_150, .inl (cZ, 3, .inl (lst [0, 0, 0])))]) [0, 38, 39, 40, 41, 42, 65, 66, 67, 100, 114, 115] (by decide) rfl
      refine lv_tableIn (off := 1425) (tgt := 1458) hx hb dL_law_33 (by decide) (by decide) (by decide +kernel) (by decide) ?_
      refine lv_aload_n hx hb dL_law_1458 rfl (lv_at hl 2 rfl) ?_
      refine lv_aload_n hx hb dL_law_1459 rfl (lv_at hl 3 rfl) ?_
      refine lv_iload_n hx hb dL_law_1460 rfl (lv_at hl 0 rfl) ?_
      refine lv_iconst (v := 1) hx hb dL_law_1461 (by decide +kernel) ?_
      refine lv_iadd hx hb dL_law_1462 ?_
      refine xt_i (v := 1) (by decide +kernel) ?_
      refine va_sld hx hb hX hbl hbA hS (vin (by decide +kernel)) dL_law_1463 ?_
      refine xt_i (v := xs 1) rfl ?_
      refine xc_core (wr := [(q_102, .inr (10, ((.ref q_103) :: (.ref q_104) :: (.int 0) :: (.int 0) :: (.int 0) :: (.int (-1)) :: (.int 0) :: (.int 0) :: (.int 0) :: (.int 0) :: (.long 0) :: (.ref q_105) :: (.ref q_106) :: (.ref q_107) :: (.ref q_108) :: (.ref q_109) :: (.ref q_110) :: (.ref q_111) :: (.ref q_112) :: (.ref q_113) :: (.ref q_114) :: (.ref q_115) :: (.ref q_116) :: (.ref q_117) :: (.ref q_118) :: (.ref q_119) :: (.ref q_120) :: (.ref q_121) :: (.ref q_122) :: (.ref q_123) :: (.ref q_124) :: (.ref q_125) :: (.ref q_126) :: (.ref q_127) :: (.ref q_128) :: (.ref q_129) :: (.ref q_130) :: (.ref q_131) :: (.ref q_132) :: (.ref q_133) :: (.ref q_134) :: (.int 0) :: (.int 0) :: (.int 0) :: (.int 0) :: (.int 0) :: (.int 0) :: (.int 0) :: (.int 0) :: (.int 0) :: (.ref q_135) :: (.ref q_136) :: (.int 0) :: (.ref q_137) :: (.int 0) :: (.int 0) :: (.int 0) :: (.int 0) :: (.int 0) :: (.int 0) :: (.ref q_138) :: (.int 0) :: (.ref q_139) :: (.ref q_140) :: (.ref q_141) :: (.ref q_142) :: (.ref q_143) :: (.ref q_144) :: (.ref q_145) :: (.ref q_146) :: (.ref q_147) :: (.ref q_148) :: (.int 0) :: (.int 0) :: (.ref q_149) :: (.ref q_150) :: []))), (q_135, .inl (cI, 27, .inl (lst [(-1), (-1), (-1), (-1), (-1), (-1), (-1), 0, 0, 0, 0, 0, 0, 0, (-1), (-1), (-1), (-1), (-1), (-1), (-1), 0, 0, 0, 0, 0, 0]))), (q_149, .inl (cI, 81, .inl (fun _ => 0))), (q_150, .inl (cZ, 3, .inl (lst [0, 0, 0])))]) (k := 116) (n := 11963) (xc_runV (As := [.int (xs 1)]) (rest := []) hx hb hml hown hts hG hE hP hD hS hA [0, 1, 2, 3, 4, 5, 6, 7] (by decide) rfl (cX9_image_1 l D cB cI cJ cZ aK aV q_1 ((xs 1)) q_2 q_3 q_4 q_5 q_6 q_7 q_8 q_9 q_10 q_11 q_12 q_13 q_73 q_74 q_75 q_76 q_77 f_78 f_79 f_80 f_81 ((fun _ => 0))) kw1246 kw1243 kw1244 kw1245 kw112 (show XD yX9_image 1 from by decide +kernel) (by decide) rfl rfl 0 rfl hl.1 rfl (Nat.le_of_ble_eq_true rfl) dL_law_1464 (by decide)) hP hD hS hA [0, 1, 2, 3, 4, 5, 6, 7] [8, 9, 10, 11] rfl rfl (by decide) (by decide) (Nat.le_of_ble_eq_true rfl) (Nat.le_of_ble_eq_true rfl) (fun r w1 H locs hpost hP hD hS => ?_)
      obtain rfl := hpost
      have hP := hP.sub (ws' := [(q_102, .inr (10, ((.ref q_103) :: (.ref q_104) :: (.int 0) :: (.int 0) :: (.int 0) :: (.int (-1)) :: (.int 0) :: (.int 0) :: (.int 0) :: (.int 0) :: (.long 0) :: (.ref q_105) :: (.ref q_106) :: (.ref q_107) :: (.ref q_108) :: (.ref q_109) :: (.ref q_110) :: (.ref q_111) :: (.ref q_112) :: (.ref q_113) :: (.ref q_114) :: (.ref q_115) :: (.ref q_116) :: (.ref q_117) :: (.ref q_118) :: (.ref q_119) :: (.ref q_120) :: (.ref q_121) :: (.ref q_122) :: (.ref q_123) :: (.ref q_124) :: (.ref q_125) :: (.ref q_126) :: (.ref q_127) :: (.ref q_128) :: (.ref q_129) :: (.ref q_130) :: (.ref q_131) :: (.ref q_132) :: (.ref q_133) :: (.ref q_134) :: (.int 0) :: (.int 0) :: (.int 0) :: (.int 0) :: (.int 0) :: (.int 0) :: (.int 0) :: (.int 0) :: (.int 0) :: (.ref q_135) :: (.ref q_136) :: (.int 0) :: (.ref q_137) :: (.int 0) :: (.int 0) :: (.int 0) :: (.int 0) :: (.int 0) :: (.int 0) :: (.ref q_138) :: (.int 0) :: (.ref q_139) :: (.ref q_140) :: (.ref q_141) :: (.ref q_142) :: (.ref q_143) :: (.ref q_144) :: (.ref q_145) :: (.ref q_146) :: (.ref q_147) :: (.ref q_148) :: (.int 0) :: (.int 0) :: (.ref q_149) :: (.ref q_150) :: []))), (q_135, .inl (cI, 27, .inl (lst [(-1), (-1), (-1), (-1), (-1), (-1), (-1), 0, 0, 0, 0, 0, 0, 0, (-1), (-1), (-1), (-1), (-1), (-1), (-1), 0, 0, 0, 0, 0, 0]))), (q_149, .inl (cI, 81, .inl (fun _ => 0))), (q_150, .inl (cZ, 3, .inl (lst [0, 0, 0])))]) [0, 1, 2, 3] rfl
      have hD := hD.sub (ws' := [(q_102, .inr (10, ((.ref q_103) :: (.ref q_104) :: (.int 0) :: (.int 0) :: (.int 0) :: (.int (-1)) :: (.int 0) :: (.int 0) :: (.int 0) :: (.int 0) :: (.long 0) :: (.ref q_105) :: (.ref q_106) :: (.ref q_107) :: (.ref q_108) :: (.ref q_109) :: (.ref q_110) :: (.ref q_111) :: (.ref q_112) :: (.ref q_113) :: (.ref q_114) :: (.ref q_115) :: (.ref q_116) :: (.ref q_117) :: (.ref q_118) :: (.ref q_119) :: (.ref q_120) :: (.ref q_121) :: (.ref q_122) :: (.ref q_123) :: (.ref q_124) :: (.ref q_125) :: (.ref q_126) :: (.ref q_127) :: (.ref q_128) :: (.ref q_129) :: (.ref q_130) :: (.ref q_131) :: (.ref q_132) :: (.ref q_133) :: (.ref q_134) :: (.int 0) :: (.int 0) :: (.int 0) :: (.int 0) :: (.int 0) :: (.int 0) :: (.int 0) :: (.int 0) :: (.int 0) :: (.ref q_135) :: (.ref q_136) :: (.int 0) :: (.ref q_137) :: (.int 0) :: (.int 0) :: (.int 0) :: (.int 0) :: (.int 0) :: (.int 0) :: (.ref q_138) :: (.int 0) :: (.ref q_139) :: (.ref q_140) :: (.ref q_141) :: (.ref q_142) :: (.ref q_143) :: (.ref q_144) :: (.ref q_145) :: (.ref q_146) :: (.ref q_147) :: (.ref q_148) :: (.int 0) :: (.int 0) :: (.ref q_149) :: (.ref q_150) :: []))), (q_135, .inl (cI, 27, .inl (lst [(-1), (-1), (-1), (-1), (-1), (-1), (-1), 0, 0, 0, 0, 0, 0, 0, (-1), (-1), (-1), (-1), (-1), (-1), (-1), 0, 0, 0, 0, 0, 0]))), (q_149, .inl (cI, 81, .inl (fun _ => 0))), (q_150, .inl (cZ, 3, .inl (lst [0, 0, 0])))]) [0, 1, 2, 3] (by decide) rfl
      refine lv_aload_n hx hb dL_law_1467 rfl (lv_at hl 1 rfl) ?_
      refine lv_aload_n hx hb dL_law_1468 rfl (lv_at hl 3 rfl) ?_
      refine lv_iload_n hx hb dL_law_1469 rfl (lv_at hl 0 rfl) ?_
      refine lv_iconst (v := 1) hx hb dL_law_1470 (by decide +kernel) ?_
      refine lv_iadd hx hb dL_law_1471 ?_
      refine xt_i (v := 1) (by decide +kernel) ?_
      refine va_sld hx hb hX hbl hbA hS (vin (by decide +kernel)) dL_law_1472 ?_
      refine xt_i (v := xs 1) rfl ?_
      refine xc_core (wr := []) (k := 116) (n := 11963) (xc_runV (As := [.int (xs 1)]) (rest := [.int (if 0 ≤ ((xs 1)).toInt ∧ ((xs 1)).toInt ≤ 2 then 0 else -1)]) hx hb hml hown hts hG hE hP hD hS hA [0, 1, 2, 3] (by decide) rfl (cX10_image_1 l D cB cI cJ cZ aK aV q_102 ((xs 1)) q_103 q_104 q_105 q_106 q_107 q_108 q_109 q_110 q_111 q_112 q_113 q_114 q_115 q_116 q_117 q_118 q_119 q_120 q_121 q_122 q_123 q_124 q_125 q_126 q_127 q_128 q_129 q_130 q_131 q_132 q_133 q_134 q_135 q_136 q_137 q_138 q_139 q_140 q_141 q_142 q_143 q_144 q_145 q_146 q_147 q_148 q_149 q_150 ((fun _ => 0))) kw1997 kw1994 kw1995 kw1996 kw127 (show XD yX10_image 1 from by decide +kernel) (by decide) rfl rfl 0 rfl hl.1 rfl (Nat.le_of_ble_eq_true rfl) dL_law_1473 (by decide)) hP hD hS hA [0, 1, 2, 3] [] rfl rfl (by decide) (by decide) (Nat.le_of_ble_eq_true rfl) (Nat.le_of_ble_eq_true rfl) (fun r w1 H locs hpost hP hD hS => ?_)
      obtain rfl := hpost
      have hP := hP.sub (ws' := []) [] rfl
      have hD := hD.sub (ws' := []) [] (by decide) rfl
      refine lv_icmp_eq (tgt := 1527) hx hb dL_law_1476 (by decide) (fun _ => ?_) (fun h => absurd rfl h)
      refine lv_iinc (v := 6) (lv' := [(3, .int 6), (2, .ref q_102), (1, .ref q_1), (0, .ref b)]) hx hb dL_law_1527 hl (k := 0) rfl (by decide +kernel) (by decide) rfl (fun ls hl => ?_)
      refine lv_goto (tgt := 18) hx hb dL_law_1530 (by decide) ?_
      refine lv_iload_n hx hb dL_law_18 rfl (lv_at hl 0 rfl) ?_
      refine lv_aload_n hx hb dL_law_19 rfl (lv_at hl 3 rfl) ?_
      refine va_slen hx hb hX hbl hbA hS dL_law_20 ?_
      refine xt_i (v := 6) (by decide +kernel) ?_
      refine lv_bipush (v := 6) hx hb dL_law_21 (by decide +kernel) ?_
      refine lv_isub hx hb dL_law_23 ?_
      refine xt_i (v := 0) (by decide +kernel) ?_
      refine lv_icmp_gt (tgt := 1533) hx hb dL_law_24 (by decide) (fun _ => ?_) (fun h => absurd h (by decide +kernel))
      refine lv_iconst (v := 1) hx hb dL_law_1533 (by decide +kernel) ?_
      refine va_forget (fun q hq => by have z := hS.2.2 q hq; rw [hAe] at z; exact z) ?_
      refine W.widen (k := 600000) (n := 7302250) (Nat.le_of_ble_eq_true rfl) (Nat.le_of_ble_eq_true rfl) ?_
      exact lw_ret hx hb hr hlocks dL_law_1534
    by_cases c_213 : v_157 = 43
    · subst c_213
      have hP := hP.sub (ws' := [(q_1, .inr (9, [.ref q_2, .ref q_3, .ref q_4, .ref q_5, .ref q_6, .ref q_7, .ref q_8, .ref q_9, .ref q_10, .ref q_11, .ref q_12, .ref q_13, .int 0])), (q_13, .inl (cZ, 3, .inl (lst [0, 0, 0]))), (q_102, .inr (10, ((.ref q_103) :: (.ref q_104) :: (.int 0) :: (.int 0) :: (.int 0) :: (.int (-1)) :: (.int 0) :: (.int 0) :: (.int 0) :: (.int 0) :: (.long 0) :: (.ref q_105) :: (.ref q_106) :: (.ref q_107) :: (.ref q_108) :: (.ref q_109) :: (.ref q_110) :: (.ref q_111) :: (.ref q_112) :: (.ref q_113) :: (.ref q_114) :: (.ref q_115) :: (.ref q_116) :: (.ref q_117) :: (.ref q_118) :: (.ref q_119) :: (.ref q_120) :: (.ref q_121) :: (.ref q_122) :: (.ref q_123) :: (.ref q_124) :: (.ref q_125) :: (.ref q_126) :: (.ref q_127) :: (.ref q_128) :: (.ref q_129) :: (.ref q_130) :: (.ref q_131) :: (.ref q_132) :: (.ref q_133) :: (.ref q_134) :: (.int 0) :: (.int 0) :: (.int 0) :: (.int 0) :: (.int 0) :: (.int 0) :: (.int 0) :: (.int 0) :: (.int 0) :: (.ref q_135) :: (.ref q_136) :: (.int 0) :: (.ref q_137) :: (.int 0) :: (.int 0) :: (.int 0) :: (.int 0) :: (.int 0) :: (.int 0) :: (.ref q_138) :: (.int 0) :: (.ref q_139) :: (.ref q_140) :: (.ref q_141) :: (.ref q_142) :: (.ref q_143) :: (.ref q_144) :: (.ref q_145) :: (.ref q_146) :: (.ref q_147) :: (.ref q_148) :: (.int 0) :: (.int 0) :: (.ref q_149) :: (.ref q_150) :: []))), (q_150, .inl (cZ, 3, .inl (lst [0, 0, 0])))]) [0, 66, 67, 115] rfl
      have hD := hD.sub (ws' := [(q_1, .inr (9, [.ref q_2, .ref q_3, .ref q_4, .ref q_5, .ref q_6, .ref q_7, .ref q_8, .ref q_9, .ref q_10, .ref q_11, .ref q_12, .ref q_13, .int 0])), (q_13, .inl (cZ, 3, .inl (lst [0, 0, 0]))), (q_102, .inr (10, ((.ref q_103) :: (.ref q_104) :: (.int 0) :: (.int 0) :: (.int 0) :: (.int (-1)) :: (.int 0) :: (.int 0) :: (.int 0) :: (.int 0) :: (.long 0) :: (.ref q_105) :: (.ref q_106) :: (.ref q_107) :: (.ref q_108) :: (.ref q_109) :: (.ref q_110) :: (.ref q_111) :: (.ref q_112) :: (.ref q_113) :: (.ref q_114) :: (.ref q_115) :: (.ref q_116) :: (.ref q_117) :: (.ref q_118) :: (.ref q_119) :: (.ref q_120) :: (.ref q_121) :: (.ref q_122) :: (.ref q_123) :: (.ref q_124) :: (.ref q_125) :: (.ref q_126) :: (.ref q_127) :: (.ref q_128) :: (.ref q_129) :: (.ref q_130) :: (.ref q_131) :: (.ref q_132) :: (.ref q_133) :: (.ref q_134) :: (.int 0) :: (.int 0) :: (.int 0) :: (.int 0) :: (.int 0) :: (.int 0) :: (.int 0) :: (.int 0) :: (.int 0) :: (.ref q_135) :: (.ref q_136) :: (.int 0) :: (.ref q_137) :: (.int 0) :: (.int 0) :: (.int 0) :: (.int 0) :: (.int 0) :: (.int 0) :: (.ref q_138) :: (.int 0) :: (.ref q_139) :: (.ref q_140) :: (.ref q_141) :: (.ref q_142) :: (.ref q_143) :: (.ref q_144) :: (.ref q_145) :: (.ref q_146) :: (.ref q_147) :: (.ref q_148) :: (.int 0) :: (.int 0) :: (.ref q_149) :: (.ref q_150) :: []))), (q_150, .inl (cZ, 3, .inl (lst [0, 0, 0])))]) [0, 66, 67, 115] (by decide) rfl
      refine lv_tableIn (off := 1448) (tgt := 1481) hx hb dL_law_33 (by decide) (by decide) (by decide +kernel) (by decide) ?_
      refine lv_aload_n hx hb dL_law_1481 rfl (lv_at hl 2 rfl) ?_
      refine lv_aload_n hx hb dL_law_1482 rfl (lv_at hl 3 rfl) ?_
      refine lv_iload_n hx hb dL_law_1483 rfl (lv_at hl 0 rfl) ?_
      refine lv_iconst (v := 1) hx hb dL_law_1484 (by decide +kernel) ?_
      refine lv_iadd hx hb dL_law_1485 ?_
      refine xt_i (v := 1) (by decide +kernel) ?_
      refine va_sld hx hb hX hbl hbA hS (vin (by decide +kernel)) dL_law_1486 ?_
      refine xt_i (v := xs 1) rfl ?_
      refine xc_core (wr := [(q_102, .inr (10, ((.ref q_103) :: (.ref q_104) :: (.int 0) :: (.int 0) :: (.int 0) :: (.int (-1)) :: (.int 0) :: (.int 0) :: (.int 0) :: (.int 0) :: (.long 0) :: (.ref q_105) :: (.ref q_106) :: (.ref q_107) :: (.ref q_108) :: (.ref q_109) :: (.ref q_110) :: (.ref q_111) :: (.ref q_112) :: (.ref q_113) :: (.ref q_114) :: (.ref q_115) :: (.ref q_116) :: (.ref q_117) :: (.ref q_118) :: (.ref q_119) :: (.ref q_120) :: (.ref q_121) :: (.ref q_122) :: (.ref q_123) :: (.ref q_124) :: (.ref q_125) :: (.ref q_126) :: (.ref q_127) :: (.ref q_128) :: (.ref q_129) :: (.ref q_130) :: (.ref q_131) :: (.ref q_132) :: (.ref q_133) :: (.ref q_134) :: (.int 0) :: (.int 0) :: (.int 0) :: (.int 0) :: (.int 0) :: (.int 0) :: (.int 0) :: (.int 0) :: (.int 0) :: (.ref q_135) :: (.ref q_136) :: (.int 0) :: (.ref q_137) :: (.int 0) :: (.int 0) :: (.int 0) :: (.int 0) :: (.int 0) :: (.int 0) :: (.ref q_138) :: (.int 0) :: (.ref q_139) :: (.ref q_140) :: (.ref q_141) :: (.ref q_142) :: (.ref q_143) :: (.ref q_144) :: (.ref q_145) :: (.ref q_146) :: (.ref q_147) :: (.ref q_148) :: (.int 0) :: (.int 0) :: (.ref q_149) :: (.ref q_150) :: []))), (q_150, .inl (cZ, 3, .inl (lst [0, 0, 0])))]) (k := 116) (n := 11963) (xc_runV (As := [.int (xs 1)]) (rest := []) hx hb hml hown hts hG hE hP hD hS hA [0, 1] (by decide) rfl (cX9_back_1 l D cB cI cJ cZ aK aV q_1 ((xs 1)) q_2 q_3 q_4 q_5 q_6 q_7 q_8 q_9 q_10 q_11 q_12 q_13) kw1251 kw1248 kw1249 kw1250 kw112 (show XD yX9_back 1 from by decide +kernel) (by decide) rfl rfl 0 rfl hl.1 rfl (Nat.le_of_ble_eq_true rfl) dL_law_1487 (by decide)) hP hD hS hA [0, 1] [2, 3] rfl rfl (by decide) (by decide) (Nat.le_of_ble_eq_true rfl) (Nat.le_of_ble_eq_true rfl) (fun r w1 H locs hpost hP hD hS => ?_)
      obtain rfl := hpost
      have hP := hP.sub (ws' := [(q_102, .inr (10, ((.ref q_103) :: (.ref q_104) :: (.int 0) :: (.int 0) :: (.int 0) :: (.int (-1)) :: (.int 0) :: (.int 0) :: (.int 0) :: (.int 0) :: (.long 0) :: (.ref q_105) :: (.ref q_106) :: (.ref q_107) :: (.ref q_108) :: (.ref q_109) :: (.ref q_110) :: (.ref q_111) :: (.ref q_112) :: (.ref q_113) :: (.ref q_114) :: (.ref q_115) :: (.ref q_116) :: (.ref q_117) :: (.ref q_118) :: (.ref q_119) :: (.ref q_120) :: (.ref q_121) :: (.ref q_122) :: (.ref q_123) :: (.ref q_124) :: (.ref q_125) :: (.ref q_126) :: (.ref q_127) :: (.ref q_128) :: (.ref q_129) :: (.ref q_130) :: (.ref q_131) :: (.ref q_132) :: (.ref q_133) :: (.ref q_134) :: (.int 0) :: (.int 0) :: (.int 0) :: (.int 0) :: (.int 0) :: (.int 0) :: (.int 0) :: (.int 0) :: (.int 0) :: (.ref q_135) :: (.ref q_136) :: (.int 0) :: (.ref q_137) :: (.int 0) :: (.int 0) :: (.int 0) :: (.int 0) :: (.int 0) :: (.int 0) :: (.ref q_138) :: (.int 0) :: (.ref q_139) :: (.ref q_140) :: (.ref q_141) :: (.ref q_142) :: (.ref q_143) :: (.ref q_144) :: (.ref q_145) :: (.ref q_146) :: (.ref q_147) :: (.ref q_148) :: (.int 0) :: (.int 0) :: (.ref q_149) :: (.ref q_150) :: []))), (q_150, .inl (cZ, 3, .inl (lst [0, 0, 0])))]) [0, 1] rfl
      have hD := hD.sub (ws' := [(q_102, .inr (10, ((.ref q_103) :: (.ref q_104) :: (.int 0) :: (.int 0) :: (.int 0) :: (.int (-1)) :: (.int 0) :: (.int 0) :: (.int 0) :: (.int 0) :: (.long 0) :: (.ref q_105) :: (.ref q_106) :: (.ref q_107) :: (.ref q_108) :: (.ref q_109) :: (.ref q_110) :: (.ref q_111) :: (.ref q_112) :: (.ref q_113) :: (.ref q_114) :: (.ref q_115) :: (.ref q_116) :: (.ref q_117) :: (.ref q_118) :: (.ref q_119) :: (.ref q_120) :: (.ref q_121) :: (.ref q_122) :: (.ref q_123) :: (.ref q_124) :: (.ref q_125) :: (.ref q_126) :: (.ref q_127) :: (.ref q_128) :: (.ref q_129) :: (.ref q_130) :: (.ref q_131) :: (.ref q_132) :: (.ref q_133) :: (.ref q_134) :: (.int 0) :: (.int 0) :: (.int 0) :: (.int 0) :: (.int 0) :: (.int 0) :: (.int 0) :: (.int 0) :: (.int 0) :: (.ref q_135) :: (.ref q_136) :: (.int 0) :: (.ref q_137) :: (.int 0) :: (.int 0) :: (.int 0) :: (.int 0) :: (.int 0) :: (.int 0) :: (.ref q_138) :: (.int 0) :: (.ref q_139) :: (.ref q_140) :: (.ref q_141) :: (.ref q_142) :: (.ref q_143) :: (.ref q_144) :: (.ref q_145) :: (.ref q_146) :: (.ref q_147) :: (.ref q_148) :: (.int 0) :: (.int 0) :: (.ref q_149) :: (.ref q_150) :: []))), (q_150, .inl (cZ, 3, .inl (lst [0, 0, 0])))]) [0, 1] (by decide) rfl
      refine lv_aload_n hx hb dL_law_1490 rfl (lv_at hl 1 rfl) ?_
      refine lv_aload_n hx hb dL_law_1491 rfl (lv_at hl 3 rfl) ?_
      refine lv_iload_n hx hb dL_law_1492 rfl (lv_at hl 0 rfl) ?_
      refine lv_iconst (v := 1) hx hb dL_law_1493 (by decide +kernel) ?_
      refine lv_iadd hx hb dL_law_1494 ?_
      refine xt_i (v := 1) (by decide +kernel) ?_
      refine va_sld hx hb hX hbl hbA hS (vin (by decide +kernel)) dL_law_1495 ?_
      refine xt_i (v := xs 1) rfl ?_
      refine xc_core (wr := []) (k := 116) (n := 11963) (xc_runV (As := [.int (xs 1)]) (rest := [.int (-1)]) hx hb hml hown hts hG hE hP hD hS hA [0, 1] (by decide) rfl (cX10_back_1 l D cB cI cJ cZ aK aV q_102 ((xs 1)) q_103 q_104 q_105 q_106 q_107 q_108 q_109 q_110 q_111 q_112 q_113 q_114 q_115 q_116 q_117 q_118 q_119 q_120 q_121 q_122 q_123 q_124 q_125 q_126 q_127 q_128 q_129 q_130 q_131 q_132 q_133 q_134 q_135 q_136 q_137 q_138 q_139 q_140 q_141 q_142 q_143 q_144 q_145 q_146 q_147 q_148 q_149 q_150) kw2001 kw1998 kw1999 kw2000 kw127 (show XD yX10_back 1 from by decide +kernel) (by decide) rfl rfl 0 rfl hl.1 rfl (Nat.le_of_ble_eq_true rfl) dL_law_1496 (by decide)) hP hD hS hA [0, 1] [] rfl rfl (by decide) (by decide) (Nat.le_of_ble_eq_true rfl) (Nat.le_of_ble_eq_true rfl) (fun r w1 H locs hpost hP hD hS => ?_)
      obtain rfl := hpost
      have hP := hP.sub (ws' := []) [] rfl
      have hD := hD.sub (ws' := []) [] (by decide) rfl
      refine lv_icmp_eq (tgt := 1527) hx hb dL_law_1499 (by decide) (fun _ => ?_) (fun h => absurd h (by decide +kernel))
      refine lv_iinc (v := 6) (lv' := [(3, .int 6), (2, .ref q_102), (1, .ref q_1), (0, .ref b)]) hx hb dL_law_1527 hl (k := 0) rfl (by decide +kernel) (by decide) rfl (fun ls hl => ?_)
      refine lv_goto (tgt := 18) hx hb dL_law_1530 (by decide) ?_
      refine lv_iload_n hx hb dL_law_18 rfl (lv_at hl 0 rfl) ?_
      refine lv_aload_n hx hb dL_law_19 rfl (lv_at hl 3 rfl) ?_
      refine va_slen hx hb hX hbl hbA hS dL_law_20 ?_
      refine xt_i (v := 6) (by decide +kernel) ?_
      refine lv_bipush (v := 6) hx hb dL_law_21 (by decide +kernel) ?_
      refine lv_isub hx hb dL_law_23 ?_
      refine xt_i (v := 0) (by decide +kernel) ?_
      refine lv_icmp_gt (tgt := 1533) hx hb dL_law_24 (by decide) (fun _ => ?_) (fun h => absurd h (by decide +kernel))
      refine lv_iconst (v := 1) hx hb dL_law_1533 (by decide +kernel) ?_
      refine va_forget (fun q hq => by have z := hS.2.2 q hq; rw [hAe] at z; exact z) ?_
      refine W.widen (k := 600000) (n := 7302250) (Nat.le_of_ble_eq_true rfl) (Nat.le_of_ble_eq_true rfl) ?_
      exact lw_ret hx hb hr hlocks dL_law_1534
    by_cases c_214 : v_157 = 44
    · subst c_214
      have hP := hP.sub (ws' := [(q_1, .inr (9, [.ref q_2, .ref q_3, .ref q_4, .ref q_5, .ref q_6, .ref q_7, .ref q_8, .ref q_9, .ref q_10, .ref q_11, .ref q_12, .ref q_13, .int 0])), (q_2, .inr (7, [.ref q_14, .int 0])), (q_4, .inr (8, [.int 0, .int 0, .int 0, .ref q_16, .ref q_17, .ref q_18, .ref q_19, .ref q_20, .ref q_21, .ref q_22, .ref q_23, .ref q_24, .ref q_25, .int 0, .int 1, .int 0, .int 0, .int 0])), (q_24, .inr (1, [.ref q_34, .ref q_35, .int 0, .int 0, .int 0])), (q_25, .inr (1, [.ref q_38, .ref q_39, .int 0, .int 0, .int 0])), (q_6, .inr (3, [.ref q_4, .ref q_73, .ref q_74, .ref q_75, .ref q_76, .ref q_77, .int 0, .int 0])), (q_8, .inr (2, [.ref q_91, .int 0, .int 0, .int 0])), (q_10, .inr (6, [.ref q_96, .ref q_97, .ref q_98, .ref q_99, .ref q_100, .int 0])), (q_11, .inr (5, [.ref q_101, .int 0])), (q_102, .inr (10, ((.ref q_103) :: (.ref q_104) :: (.int 0) :: (.int 0) :: (.int 0) :: (.int (-1)) :: (.int 0) :: (.int 0) :: (.int 0) :: (.int 0) :: (.long 0) :: (.ref q_105) :: (.ref q_106) :: (.ref q_107) :: (.ref q_108) :: (.ref q_109) :: (.ref q_110) :: (.ref q_111) :: (.ref q_112) :: (.ref q_113) :: (.ref q_114) :: (.ref q_115) :: (.ref q_116) :: (.ref q_117) :: (.ref q_118) :: (.ref q_119) :: (.ref q_120) :: (.ref q_121) :: (.ref q_122) :: (.ref q_123) :: (.ref q_124) :: (.ref q_125) :: (.ref q_126) :: (.ref q_127) :: (.ref q_128) :: (.ref q_129) :: (.ref q_130) :: (.ref q_131) :: (.ref q_132) :: (.ref q_133) :: (.ref q_134) :: (.int 0) :: (.int 0) :: (.int 0) :: (.int 0) :: (.int 0) :: (.int 0) :: (.int 0) :: (.int 0) :: (.int 0) :: (.ref q_135) :: (.ref q_136) :: (.int 0) :: (.ref q_137) :: (.int 0) :: (.int 0) :: (.int 0) :: (.int 0) :: (.int 0) :: (.int 0) :: (.ref q_138) :: (.int 0) :: (.ref q_139) :: (.ref q_140) :: (.ref q_141) :: (.ref q_142) :: (.ref q_143) :: (.ref q_144) :: (.ref q_145) :: (.ref q_146) :: (.ref q_147) :: (.ref q_148) :: (.int 0) :: (.int 0) :: (.ref q_149) :: (.ref q_150) :: []))), (q_105, .inl (cI, 2, .inl (lst [0, 0]))), (q_106, .inl (cI, 2, .inl (lst [0, 0]))), (q_107, .inl (cI, 2, .inl (lst [0, 0]))), (q_108, .inl (cI, 2, .inl (lst [0, 0]))), (q_135, .inl (cI, 27, .inl (lst [(-1), (-1), (-1), (-1), (-1), (-1), (-1), 0, 0, 0, 0, 0, 0, 0, (-1), (-1), (-1), (-1), (-1), (-1), (-1), 0, 0, 0, 0, 0, 0])))]) [0, 1, 3, 12, 15, 38, 50, 57, 63, 67, 70, 71, 72, 73, 100] rfl
      have hD := hD.sub (ws' := [(q_1, .inr (9, [.ref q_2, .ref q_3, .ref q_4, .ref q_5, .ref q_6, .ref q_7, .ref q_8, .ref q_9, .ref q_10, .ref q_11, .ref q_12, .ref q_13, .int 0])), (q_2, .inr (7, [.ref q_14, .int 0])), (q_4, .inr (8, [.int 0, .int 0, .int 0, .ref q_16, .ref q_17, .ref q_18, .ref q_19, .ref q_20, .ref q_21, .ref q_22, .ref q_23, .ref q_24, .ref q_25, .int 0, .int 1, .int 0, .int 0, .int 0])), (q_24, .inr (1, [.ref q_34, .ref q_35, .int 0, .int 0, .int 0])), (q_25, .inr (1, [.ref q_38, .ref q_39, .int 0, .int 0, .int 0])), (q_6, .inr (3, [.ref q_4, .ref q_73, .ref q_74, .ref q_75, .ref q_76, .ref q_77, .int 0, .int 0])), (q_8, .inr (2, [.ref q_91, .int 0, .int 0, .int 0])), (q_10, .inr (6, [.ref q_96, .ref q_97, .ref q_98, .ref q_99, .ref q_100, .int 0])), (q_11, .inr (5, [.ref q_101, .int 0])), (q_102, .inr (10, ((.ref q_103) :: (.ref q_104) :: (.int 0) :: (.int 0) :: (.int 0) :: (.int (-1)) :: (.int 0) :: (.int 0) :: (.int 0) :: (.int 0) :: (.long 0) :: (.ref q_105) :: (.ref q_106) :: (.ref q_107) :: (.ref q_108) :: (.ref q_109) :: (.ref q_110) :: (.ref q_111) :: (.ref q_112) :: (.ref q_113) :: (.ref q_114) :: (.ref q_115) :: (.ref q_116) :: (.ref q_117) :: (.ref q_118) :: (.ref q_119) :: (.ref q_120) :: (.ref q_121) :: (.ref q_122) :: (.ref q_123) :: (.ref q_124) :: (.ref q_125) :: (.ref q_126) :: (.ref q_127) :: (.ref q_128) :: (.ref q_129) :: (.ref q_130) :: (.ref q_131) :: (.ref q_132) :: (.ref q_133) :: (.ref q_134) :: (.int 0) :: (.int 0) :: (.int 0) :: (.int 0) :: (.int 0) :: (.int 0) :: (.int 0) :: (.int 0) :: (.int 0) :: (.ref q_135) :: (.ref q_136) :: (.int 0) :: (.ref q_137) :: (.int 0) :: (.int 0) :: (.int 0) :: (.int 0) :: (.int 0) :: (.int 0) :: (.ref q_138) :: (.int 0) :: (.ref q_139) :: (.ref q_140) :: (.ref q_141) :: (.ref q_142) :: (.ref q_143) :: (.ref q_144) :: (.ref q_145) :: (.ref q_146) :: (.ref q_147) :: (.ref q_148) :: (.int 0) :: (.int 0) :: (.ref q_149) :: (.ref q_150) :: []))), (q_105, .inl (cI, 2, .inl (lst [0, 0]))), (q_106, .inl (cI, 2, .inl (lst [0, 0]))), (q_107, .inl (cI, 2, .inl (lst [0, 0]))), (q_108, .inl (cI, 2, .inl (lst [0, 0]))), (q_135, .inl (cI, 27, .inl (lst [(-1), (-1), (-1), (-1), (-1), (-1), (-1), 0, 0, 0, 0, 0, 0, 0, (-1), (-1), (-1), (-1), (-1), (-1), (-1), 0, 0, 0, 0, 0, 0])))]) [0, 1, 3, 12, 15, 38, 50, 57, 63, 67, 70, 71, 72, 73, 100] (by decide) rfl
      refine lv_tableIn (off := 1471) (tgt := 1504) hx hb dL_law_33 (by decide) (by decide) (by decide +kernel) (by decide) ?_
      refine lv_aload_n hx hb dL_law_1504 rfl (lv_at hl 2 rfl) ?_
      refine lv_aload_n hx hb dL_law_1505 rfl (lv_at hl 3 rfl) ?_
      refine lv_iload_n hx hb dL_law_1506 rfl (lv_at hl 0 rfl) ?_
      refine lv_iconst (v := 1) hx hb dL_law_1507 (by decide +kernel) ?_
      refine lv_iadd hx hb dL_law_1508 ?_
      refine xt_i (v := 1) (by decide +kernel) ?_
      refine va_sld hx hb hX hbl hbA hS (vin (by decide +kernel)) dL_law_1509 ?_
      refine xt_i (v := xs 1) rfl ?_
      refine xc_core (wr := [(q_102, .inr (10, ((.ref q_103) :: (.ref q_104) :: (.int 0) :: (.int 0) :: (.int 0) :: (.int (-1)) :: (.int 0) :: (.int 0) :: (.int 0) :: (.int 0) :: (.long 0) :: (.ref q_105) :: (.ref q_106) :: (.ref q_107) :: (.ref q_108) :: (.ref q_109) :: (.ref q_110) :: (.ref q_111) :: (.ref q_112) :: (.ref q_113) :: (.ref q_114) :: (.ref q_115) :: (.ref q_116) :: (.ref q_117) :: (.ref q_118) :: (.ref q_119) :: (.ref q_120) :: (.ref q_121) :: (.ref q_122) :: (.ref q_123) :: (.ref q_124) :: (.ref q_125) :: (.ref q_126) :: (.ref q_127) :: (.ref q_128) :: (.ref q_129) :: (.ref q_130) :: (.ref q_131) :: (.ref q_132) :: (.ref q_133) :: (.ref q_134) :: (.int 0) :: (.int 0) :: (.int 0) :: (.int 0) :: (.int 0) :: (.int 0) :: (.int 0) :: (.int 0) :: (.int 0) :: (.ref q_135) :: (.ref q_136) :: (.int 0) :: (.ref q_137) :: (.int 0) :: (.int 0) :: (.int 0) :: (.int 0) :: (.int 0) :: (.int 0) :: (.ref q_138) :: (.int 0) :: (.ref q_139) :: (.ref q_140) :: (.ref q_141) :: (.ref q_142) :: (.ref q_143) :: (.ref q_144) :: (.ref q_145) :: (.ref q_146) :: (.ref q_147) :: (.ref q_148) :: (.int 0) :: (.int 0) :: (.ref q_149) :: (.ref q_150) :: []))), (q_105, .inl (cI, 2, .inl (lst [0, 0]))), (q_106, .inl (cI, 2, .inl (lst [0, 0]))), (q_107, .inl (cI, 2, .inl (lst [0, 0]))), (q_108, .inl (cI, 2, .inl (lst [0, 0]))), (q_135, .inl (cI, 27, .inl (lst [(-1), (-1), (-1), (-1), (-1), (-1), (-1), 0, 0, 0, 0, 0, 0, 0, (-1), (-1), (-1), (-1), (-1), (-1), (-1), 0, 0, 0, 0, 0, 0])))]) (k := 116) (n := 11963) (xc_runV (As := [.int (xs 1)]) (rest := []) hx hb hml hown hts hG hE hP hD hS hA [0, 1, 2, 3, 4, 5, 6, 7, 8] (by decide) rfl (cX9_about_1 l D cB cI cJ cZ aK aV q_1 ((xs 1)) q_2 q_3 q_4 q_5 q_6 q_7 q_8 q_9 q_10 q_11 q_12 q_13 q_14 q_16 q_17 q_18 q_19 q_20 q_21 q_22 q_23 q_24 q_25 q_34 q_35 q_38 q_39 q_73 q_74 q_75 q_76 q_77 q_91 q_96 q_97 q_98 q_99 q_100 q_101) kw1256 kw1253 kw1254 kw1255 kw112 (show XD yX9_about 1 from by decide +kernel) (by decide) rfl rfl 0 rfl hl.1 rfl (Nat.le_of_ble_eq_true rfl) dL_law_1510 (by decide)) hP hD hS hA [0, 1, 2, 3, 4, 5, 6, 7, 8] [9, 10, 11, 12, 13, 14] rfl rfl (by decide) (by decide) (Nat.le_of_ble_eq_true rfl) (Nat.le_of_ble_eq_true rfl) (fun r w1 H locs hpost hP hD hS => ?_)
      obtain rfl := hpost
      have hP := hP.sub (ws' := [(q_102, .inr (10, ((.ref q_103) :: (.ref q_104) :: (.int 0) :: (.int 0) :: (.int 0) :: (.int (-1)) :: (.int 0) :: (.int 0) :: (.int 0) :: (.int 0) :: (.long 0) :: (.ref q_105) :: (.ref q_106) :: (.ref q_107) :: (.ref q_108) :: (.ref q_109) :: (.ref q_110) :: (.ref q_111) :: (.ref q_112) :: (.ref q_113) :: (.ref q_114) :: (.ref q_115) :: (.ref q_116) :: (.ref q_117) :: (.ref q_118) :: (.ref q_119) :: (.ref q_120) :: (.ref q_121) :: (.ref q_122) :: (.ref q_123) :: (.ref q_124) :: (.ref q_125) :: (.ref q_126) :: (.ref q_127) :: (.ref q_128) :: (.ref q_129) :: (.ref q_130) :: (.ref q_131) :: (.ref q_132) :: (.ref q_133) :: (.ref q_134) :: (.int 0) :: (.int 0) :: (.int 0) :: (.int 0) :: (.int 0) :: (.int 0) :: (.int 0) :: (.int 0) :: (.int 0) :: (.ref q_135) :: (.ref q_136) :: (.int 0) :: (.ref q_137) :: (.int 0) :: (.int 0) :: (.int 0) :: (.int 0) :: (.int 0) :: (.int 0) :: (.ref q_138) :: (.int 0) :: (.ref q_139) :: (.ref q_140) :: (.ref q_141) :: (.ref q_142) :: (.ref q_143) :: (.ref q_144) :: (.ref q_145) :: (.ref q_146) :: (.ref q_147) :: (.ref q_148) :: (.int 0) :: (.int 0) :: (.ref q_149) :: (.ref q_150) :: []))), (q_105, .inl (cI, 2, .inl (lst [0, 0]))), (q_106, .inl (cI, 2, .inl (lst [0, 0]))), (q_107, .inl (cI, 2, .inl (lst [0, 0]))), (q_108, .inl (cI, 2, .inl (lst [0, 0]))), (q_135, .inl (cI, 27, .inl (lst [(-1), (-1), (-1), (-1), (-1), (-1), (-1), 0, 0, 0, 0, 0, 0, 0, (-1), (-1), (-1), (-1), (-1), (-1), (-1), 0, 0, 0, 0, 0, 0])))]) [0, 1, 2, 3, 4, 5] rfl
      have hD := hD.sub (ws' := [(q_102, .inr (10, ((.ref q_103) :: (.ref q_104) :: (.int 0) :: (.int 0) :: (.int 0) :: (.int (-1)) :: (.int 0) :: (.int 0) :: (.int 0) :: (.int 0) :: (.long 0) :: (.ref q_105) :: (.ref q_106) :: (.ref q_107) :: (.ref q_108) :: (.ref q_109) :: (.ref q_110) :: (.ref q_111) :: (.ref q_112) :: (.ref q_113) :: (.ref q_114) :: (.ref q_115) :: (.ref q_116) :: (.ref q_117) :: (.ref q_118) :: (.ref q_119) :: (.ref q_120) :: (.ref q_121) :: (.ref q_122) :: (.ref q_123) :: (.ref q_124) :: (.ref q_125) :: (.ref q_126) :: (.ref q_127) :: (.ref q_128) :: (.ref q_129) :: (.ref q_130) :: (.ref q_131) :: (.ref q_132) :: (.ref q_133) :: (.ref q_134) :: (.int 0) :: (.int 0) :: (.int 0) :: (.int 0) :: (.int 0) :: (.int 0) :: (.int 0) :: (.int 0) :: (.int 0) :: (.ref q_135) :: (.ref q_136) :: (.int 0) :: (.ref q_137) :: (.int 0) :: (.int 0) :: (.int 0) :: (.int 0) :: (.int 0) :: (.int 0) :: (.ref q_138) :: (.int 0) :: (.ref q_139) :: (.ref q_140) :: (.ref q_141) :: (.ref q_142) :: (.ref q_143) :: (.ref q_144) :: (.ref q_145) :: (.ref q_146) :: (.ref q_147) :: (.ref q_148) :: (.int 0) :: (.int 0) :: (.ref q_149) :: (.ref q_150) :: []))), (q_105, .inl (cI, 2, .inl (lst [0, 0]))), (q_106, .inl (cI, 2, .inl (lst [0, 0]))), (q_107, .inl (cI, 2, .inl (lst [0, 0]))), (q_108, .inl (cI, 2, .inl (lst [0, 0]))), (q_135, .inl (cI, 27, .inl (lst [(-1), (-1), (-1), (-1), (-1), (-1), (-1), 0, 0, 0, 0, 0, 0, 0, (-1), (-1), (-1), (-1), (-1), (-1), (-1), 0, 0, 0, 0, 0, 0])))]) [0, 1, 2, 3, 4, 5] (by decide) rfl
      refine lv_aload_n hx hb dL_law_1513 rfl (lv_at hl 1 rfl) ?_
      refine lv_aload_n hx hb dL_law_1514 rfl (lv_at hl 3 rfl) ?_
      refine lv_iload_n hx hb dL_law_1515 rfl (lv_at hl 0 rfl) ?_
      refine lv_iconst (v := 1) hx hb dL_law_1516 (by decide +kernel) ?_
      refine lv_iadd hx hb dL_law_1517 ?_
      refine xt_i (v := 1) (by decide +kernel) ?_
      refine va_sld hx hb hX hbl hbA hS (vin (by decide +kernel)) dL_law_1518 ?_
      refine xt_i (v := xs 1) rfl ?_
      refine xc_core (wr := []) (k := 116) (n := 11963) (xc_runV (As := [.int (xs 1)]) (rest := [.int (if 0 ≤ ((xs 1)).toInt ∧ ((xs 1)).toInt ≤ 12 then 0 else -1)]) hx hb hml hown hts hG hE hP hD hS hA [0, 1, 2, 3, 4, 5] (by decide) rfl (cX10_about_1 l D cB cI cJ cZ aK aV q_102 ((xs 1)) q_103 q_104 q_105 q_106 q_107 q_108 q_109 q_110 q_111 q_112 q_113 q_114 q_115 q_116 q_117 q_118 q_119 q_120 q_121 q_122 q_123 q_124 q_125 q_126 q_127 q_128 q_129 q_130 q_131 q_132 q_133 q_134 q_135 q_136 q_137 q_138 q_139 q_140 q_141 q_142 q_143 q_144 q_145 q_146 q_147 q_148 q_149 q_150) kw2005 kw2002 kw2003 kw2004 kw127 (show XD yX10_about 1 from by decide +kernel) (by decide) rfl rfl 0 rfl hl.1 rfl (Nat.le_of_ble_eq_true rfl) dL_law_1519 (by decide)) hP hD hS hA [0, 1, 2, 3, 4, 5] [] rfl rfl (by decide) (by decide) (Nat.le_of_ble_eq_true rfl) (Nat.le_of_ble_eq_true rfl) (fun r w1 H locs hpost hP hD hS => ?_)
      obtain rfl := hpost
      have hP := hP.sub (ws' := []) [] rfl
      have hD := hD.sub (ws' := []) [] (by decide) rfl
      refine lv_icmp_eq (tgt := 1527) hx hb dL_law_1522 (by decide) (fun _ => ?_) (fun h => absurd rfl h)
      refine lv_iinc (v := 6) (lv' := [(3, .int 6), (2, .ref q_102), (1, .ref q_1), (0, .ref b)]) hx hb dL_law_1527 hl (k := 0) rfl (by decide +kernel) (by decide) rfl (fun ls hl => ?_)
      refine lv_goto (tgt := 18) hx hb dL_law_1530 (by decide) ?_
      refine lv_iload_n hx hb dL_law_18 rfl (lv_at hl 0 rfl) ?_
      refine lv_aload_n hx hb dL_law_19 rfl (lv_at hl 3 rfl) ?_
      refine va_slen hx hb hX hbl hbA hS dL_law_20 ?_
      refine xt_i (v := 6) (by decide +kernel) ?_
      refine lv_bipush (v := 6) hx hb dL_law_21 (by decide +kernel) ?_
      refine lv_isub hx hb dL_law_23 ?_
      refine xt_i (v := 0) (by decide +kernel) ?_
      refine lv_icmp_gt (tgt := 1533) hx hb dL_law_24 (by decide) (fun _ => ?_) (fun h => absurd h (by decide +kernel))
      refine lv_iconst (v := 1) hx hb dL_law_1533 (by decide +kernel) ?_
      refine va_forget (fun q hq => by have z := hS.2.2 q hq; rw [hAe] at z; exact z) ?_
      refine W.widen (k := 600000) (n := 7302250) (Nat.le_of_ble_eq_true rfl) (Nat.le_of_ble_eq_true rfl) ?_
      exact lw_ret hx hb hr hlocks dL_law_1534
    refine lv_tableOut (tgt := 1527) hx hb dL_law_33 (by have z0 := lv_neT c_158 (a := 0) (by decide); have z1 := lv_neT c_159 (a := 1) (by decide); have z2 := lv_neT c_160 (a := 2) (by decide); have z3 := lv_neT c_161 (a := 3) (by decide); have z4 := lv_neT c_162 (a := 4) (by decide); have z5 := lv_neT c_163 (a := 5) (by decide); have z6 := lv_neT c_164 (a := 6) (by decide); have z7 := lv_neT c_165 (a := 7) (by decide); have z8 := lv_neT c_166 (a := 8) (by decide); have z9 := lv_neT c_167 (a := 9) (by decide); have z10 := lv_neT c_168 (a := 10) (by decide); have z11 := lv_neT c_169 (a := 11) (by decide); have z12 := lv_neT c_170 (a := 12) (by decide); have z13 := lv_neT c_171 (a := 13) (by decide); have z14 := lv_neT c_172 (a := 14) (by decide); have z15 := lv_neT c_173 (a := 15) (by decide); have z16 := lv_neT c_174 (a := 16) (by decide); have z17 := lv_neT c_175 (a := 17) (by decide); have z18 := lv_neT c_176 (a := 18) (by decide); have z19 := lv_neT c_177 (a := 19) (by decide); have z20 := lv_neT c_178 (a := 20) (by decide); have z21 := lv_neT c_179 (a := 21) (by decide); have z22 := lv_neT c_180 (a := 22) (by decide); have z23 := lv_neT c_181 (a := 23) (by decide); have z24 := lv_neT c_182 (a := 24) (by decide); have z25 := lv_neT c_183 (a := 25) (by decide); have z26 := lv_neT c_184 (a := 26) (by decide); have z27 := lv_neT c_185 (a := 27) (by decide); have z28 := lv_neT c_186 (a := 28) (by decide); have z29 := lv_neT c_187 (a := 29) (by decide); have z30 := lv_neT c_188 (a := 30) (by decide); have z31 := lv_neT c_189 (a := 31) (by decide); have z32 := lv_neT c_190 (a := 32) (by decide); have z33 := lv_neT c_191 (a := 33) (by decide); have z34 := lv_neT c_192 (a := 34) (by decide); have z35 := lv_neT c_196 (a := 35) (by decide); have z36 := lv_neT c_200 (a := 36) (by decide); have z37 := lv_neT c_204 (a := 37) (by decide); have z38 := lv_neT c_208 (a := 38) (by decide); have z39 := lv_neT c_209 (a := 39) (by decide); have z40 := lv_neT c_210 (a := 40) (by decide); have z41 := lv_neT c_211 (a := 41) (by decide); have z42 := lv_neT c_212 (a := 42) (by decide); have z43 := lv_neT c_213 (a := 43) (by decide); have z44 := lv_neT c_214 (a := 44) (by decide); omega) (by decide) ?_
    refine lv_iinc (v := 6) (lv' := [(3, .int 6), (2, .ref q_102), (1, .ref q_1), (0, .ref b)]) hx hb dL_law_1527 hl (k := 0) rfl (by decide +kernel) (by decide) rfl (fun ls hl => ?_)
    refine lv_goto (tgt := 18) hx hb dL_law_1530 (by decide) ?_
    refine lv_iload_n hx hb dL_law_18 rfl (lv_at hl 0 rfl) ?_
    refine lv_aload_n hx hb dL_law_19 rfl (lv_at hl 3 rfl) ?_
    refine va_slen hx hb hX hbl hbA hS dL_law_20 ?_
    refine xt_i (v := 6) (by decide +kernel) ?_
    refine lv_bipush (v := 6) hx hb dL_law_21 (by decide +kernel) ?_
    refine lv_isub hx hb dL_law_23 ?_
    refine xt_i (v := 0) (by decide +kernel) ?_
    refine lv_icmp_gt (tgt := 1533) hx hb dL_law_24 (by decide) (fun _ => ?_) (fun h => absurd h (by decide +kernel))
    refine lv_iconst (v := 1) hx hb dL_law_1533 (by decide +kernel) ?_
    refine va_forget (fun q hq => by have z := hS.2.2 q hq; rw [hAe] at z; exact z) ?_
    refine W.widen (k := 600000) (n := 7302250) (Nat.le_of_ble_eq_true rfl) (Nat.le_of_ble_eq_true rfl) ?_
    exact lw_ret hx hb hr hlocks dL_law_1534
