theorem dX7_plan_144 : decode cX7_plan 144 = .ok (.iload 9, 2) := by decide +kernel
theorem dX7_plan_146 : decode cX7_plan 146 = .ok (.iaload, 1) := by decide +kernel
theorem dX7_plan_147 : decode cX7_plan 147 = .ok (.iconst 4, 1) := by decide +kernel
theorem dX7_plan_148 : decode cX7_plan 148 = .ok (.if_icmp .eq 12, 3) := by decide +kernel
theorem dX7_plan_151 : decode cX7_plan 151 = .ok (.aload_n 0, 1) := by decide +kernel
theorem dX7_plan_152 : decode cX7_plan 152 = .ok (.iload 9, 2) := by decide +kernel
theorem dX7_plan_154 : decode cX7_plan 154 = .ok (.invokevirtual 184, 3) := by decide +kernel
theorem dX7_plan_157 : decode cX7_plan 157 = .ok (.ifCond .ne 17, 3) := by decide +kernel
theorem dX7_plan_160 : decode cX7_plan 160 = .ok (.aload_n 0, 1) := by decide +kernel
theorem dX7_plan_161 : decode cX7_plan 161 = .ok (.getfield 73, 3) := by decide +kernel
theorem dX7_plan_164 : decode cX7_plan 164 = .ok (.iload 9, 2) := by decide +kernel
theorem dX7_plan_166 : decode cX7_plan 166 = .ok (.iconst 0, 1) := by decide +kernel
theorem dX7_plan_167 : decode cX7_plan 167 = .ok (.iastore, 1) := by decide +kernel
theorem dX7_plan_168 : decode cX7_plan 168 = .ok (.iinc 9 (-1), 3) := by decide +kernel
theorem dX7_plan_171 : decode cX7_plan 171 = .ok (.goto (-36), 3) := by decide +kernel
theorem dX7_plan_174 : decode cX7_plan 174 = .ok (.iload 9, 2) := by decide +kernel
theorem dX7_plan_176 : decode cX7_plan 176 = .ok (.ifCond .le 7, 3) := by decide +kernel
theorem dX7_plan_179 : decode cX7_plan 179 = .ok (.iconst 1, 1) := by decide +kernel
theorem dX7_plan_180 : decode cX7_plan 180 = .ok (.goto 4, 3) := by decide +kernel
theorem dX7_plan_183 : decode cX7_plan 183 = .ok (.iconst 0, 1) := by decide +kernel
theorem dX7_plan_184 : decode cX7_plan 184 = .ok (.istore 8, 2) := by decide +kernel
theorem dX7_plan_186 : decode cX7_plan 186 = .ok (.iload 8, 2) := by decide +kernel
theorem dX7_plan_188 : decode cX7_plan 188 = .ok (.ifCond .ne 6, 3) := by decide +kernel
theorem dX7_plan_191 : decode cX7_plan 191 = .ok (.goto (-67), 3) := by decide +kernel
theorem dX7_plan_194 : decode cX7_plan 194 = .ok (.aload_n 0, 1) := by decide +kernel
theorem dX7_plan_195 : decode cX7_plan 195 = .ok (.getfield 73, 3) := by decide +kernel
theorem dX7_plan_198 : decode cX7_plan 198 = .ok (.iload 9, 2) := by decide +kernel
theorem dX7_plan_200 : decode cX7_plan 200 = .ok (.dup2, 1) := by decide +kernel
theorem dX7_plan_201 : decode cX7_plan 201 = .ok (.iaload, 1) := by decide +kernel
theorem dX7_plan_202 : decode cX7_plan 202 = .ok (.iconst 1, 1) := by decide +kernel
theorem dX7_plan_203 : decode cX7_plan 203 = .ok (.iadd, 1) := by decide +kernel
theorem dX7_plan_204 : decode cX7_plan 204 = .ok (.iastore, 1) := by decide +kernel
theorem dX7_plan_205 : decode cX7_plan 205 = .ok (.iconst 0, 1) := by decide +kernel
theorem dX7_plan_206 : decode cX7_plan 206 = .ok (.istore 10, 2) := by decide +kernel
theorem dX7_plan_208 : decode cX7_plan 208 = .ok (.iconst 0, 1) := by decide +kernel
theorem dX7_plan_209 : decode cX7_plan 209 = .ok (.istore 11, 2) := by decide +kernel
theorem dX7_plan_211 : decode cX7_plan 211 = .ok (.iconst 0, 1) := by decide +kernel
theorem dX7_plan_212 : decode cX7_plan 212 = .ok (.istore 12, 2) := by decide +kernel
theorem dX7_plan_214 : decode cX7_plan 214 = .ok (.lconst 0, 1) := by decide +kernel
theorem dX7_plan_215 : decode cX7_plan 215 = .ok (.lstore 13, 2) := by decide +kernel
theorem dX7_plan_217 : decode cX7_plan 217 = .ok (.iconst 1, 1) := by decide +kernel
theorem dX7_plan_218 : decode cX7_plan 218 = .ok (.istore 15, 2) := by decide +kernel
theorem dX7_plan_220 : decode cX7_plan 220 = .ok (.iload 15, 2) := by decide +kernel
theorem dX7_plan_222 : decode cX7_plan 222 = .ok (.aload_n 0, 1) := by decide +kernel
theorem dX7_plan_223 : decode cX7_plan 223 = .ok (.getfield 143, 3) := by decide +kernel
theorem dX7_plan_226 : decode cX7_plan 226 = .ok (.if_icmp .gt 80, 3) := by decide +kernel
theorem dX7_plan_229 : decode cX7_plan 229 = .ok (.aload_n 0, 1) := by decide +kernel
theorem dX7_plan_230 : decode cX7_plan 230 = .ok (.getfield 73, 3) := by decide +kernel
theorem dX7_plan_233 : decode cX7_plan 233 = .ok (.iload 15, 2) := by decide +kernel
theorem dX7_plan_235 : decode cX7_plan 235 = .ok (.iaload, 1) := by decide +kernel
theorem dX7_plan_236 : decode cX7_plan 236 = .ok (.ifCond .ne 6, 3) := by decide +kernel
theorem dX7_plan_239 : decode cX7_plan 239 = .ok (.goto 61, 3) := by decide +kernel
theorem dX7_plan_242 : decode cX7_plan 242 = .ok (.iload 10, 2) := by decide +kernel
theorem dX7_plan_244 : decode cX7_plan 244 = .ok (.iconst 1, 1) := by decide +kernel
theorem dX7_plan_245 : decode cX7_plan 245 = .ok (.iload 15, 2) := by decide +kernel
theorem dX7_plan_247 : decode cX7_plan 247 = .ok (.iconst 1, 1) := by decide +kernel
theorem dX7_plan_248 : decode cX7_plan 248 = .ok (.isub, 1) := by decide +kernel
theorem dX7_plan_249 : decode cX7_plan 249 = .ok (.ishl, 1) := by decide +kernel
theorem dX7_plan_250 : decode cX7_plan 250 = .ok (.ior, 1) := by decide +kernel
theorem dX7_plan_251 : decode cX7_plan 251 = .ok (.istore 10, 2) := by decide +kernel
theorem dX7_plan_253 : decode cX7_plan 253 = .ok (.iload 11, 2) := by decide +kernel
theorem dX7_plan_255 : decode cX7_plan 255 = .ok (.aload_n 0, 1) := by decide +kernel
theorem dX7_plan_256 : decode cX7_plan 256 = .ok (.getfield 73, 3) := by decide +kernel
theorem dX7_plan_259 : decode cX7_plan 259 = .ok (.iload 15, 2) := by decide +kernel
theorem dX7_plan_261 : decode cX7_plan 261 = .ok (.iaload, 1) := by decide +kernel
theorem dX7_plan_262 : decode cX7_plan 262 = .ok (.iadd, 1) := by decide +kernel
theorem dX7_plan_263 : decode cX7_plan 263 = .ok (.istore 11, 2) := by decide +kernel
theorem dX7_plan_265 : decode cX7_plan 265 = .ok (.iinc 12 1, 3) := by decide +kernel
theorem dX7_plan_268 : decode cX7_plan 268 = .ok (.lload 13, 2) := by decide +kernel
theorem dX7_plan_270 : decode cX7_plan 270 = .ok (.aload_n 0, 1) := by decide +kernel
theorem dX7_plan_271 : decode cX7_plan 271 = .ok (.getfield 42, 3) := by decide +kernel
theorem dX7_plan_274 : decode cX7_plan 274 = .ok (.iload 15, 2) := by decide +kernel
theorem dX7_plan_276 : decode cX7_plan 276 = .ok (.iaload, 1) := by decide +kernel
theorem dX7_plan_277 : decode cX7_plan 277 = .ok (.i2l, 1) := by decide +kernel
theorem dX7_plan_278 : decode cX7_plan 278 = .ok (.aload_n 0, 1) := by decide +kernel
theorem dX7_plan_279 : decode cX7_plan 279 = .ok (.getfield 79, 3) := by decide +kernel
theorem dX7_plan_282 : decode cX7_plan 282 = .ok (.iconst 5, 1) := by decide +kernel
theorem dX7_plan_283 : decode cX7_plan 283 = .ok (.iload 15, 2) := by decide +kernel
theorem dX7_plan_285 : decode cX7_plan 285 = .ok (.imul, 1) := by decide +kernel
theorem dX7_plan_286 : decode cX7_plan 286 = .ok (.aload_n 0, 1) := by decide +kernel
theorem dX7_plan_287 : decode cX7_plan 287 = .ok (.getfield 73, 3) := by decide +kernel
theorem dX7_plan_290 : decode cX7_plan 290 = .ok (.iload 15, 2) := by decide +kernel
theorem dX7_plan_292 : decode cX7_plan 292 = .ok (.iaload, 1) := by decide +kernel
theorem dX7_plan_293 : decode cX7_plan 293 = .ok (.iadd, 1) := by decide +kernel
theorem dX7_plan_294 : decode cX7_plan 294 = .ok (.iaload, 1) := by decide +kernel
theorem dX7_plan_295 : decode cX7_plan 295 = .ok (.i2l, 1) := by decide +kernel
theorem dX7_plan_296 : decode cX7_plan 296 = .ok (.lmul, 1) := by decide +kernel
theorem dX7_plan_297 : decode cX7_plan 297 = .ok (.ladd, 1) := by decide +kernel
theorem dX7_plan_298 : decode cX7_plan 298 = .ok (.lstore 13, 2) := by decide +kernel
theorem dX7_plan_300 : decode cX7_plan 300 = .ok (.iinc 15 1, 3) := by decide +kernel
theorem dX7_plan_303 : decode cX7_plan 303 = .ok (.goto (-83), 3) := by decide +kernel
theorem dX7_plan_306 : decode cX7_plan 306 = .ok (.iload 11, 2) := by decide +kernel
theorem dX7_plan_308 : decode cX7_plan 308 = .ok (.iload_n 1, 1) := by decide +kernel
theorem dX7_plan_309 : decode cX7_plan 309 = .ok (.if_icmp .gt (-185), 3) := by decide +kernel
theorem dX7_plan_312 : decode cX7_plan 312 = .ok (.lload 13, 2) := by decide +kernel
theorem dX7_plan_314 : decode cX7_plan 314 = .ok (.lload_n 3, 1) := by decide +kernel
theorem dX7_plan_315 : decode cX7_plan 315 = .ok (.lcmp, 1) := by decide +kernel
theorem dX7_plan_316 : decode cX7_plan 316 = .ok (.ifCond .ge 6, 3) := by decide +kernel
theorem dX7_plan_319 : decode cX7_plan 319 = .ok (.goto (-195), 3) := by decide +kernel
theorem dX7_plan_322 : decode cX7_plan 322 = .ok (.aload_n 0, 1) := by decide +kernel
theorem dX7_plan_323 : decode cX7_plan 323 = .ok (.iload 10, 2) := by decide +kernel
theorem dX7_plan_325 : decode cX7_plan 325 = .ok (.invokevirtual 187, 3) := by decide +kernel
theorem dX7_plan_328 : decode cX7_plan 328 = .ok (.istore 15, 2) := by decide +kernel
theorem dX7_plan_330 : decode cX7_plan 330 = .ok (.iload 15, 2) := by decide +kernel
theorem dX7_plan_332 : decode cX7_plan 332 = .ok (.sipush 9999, 3) := by decide +kernel
theorem dX7_plan_335 : decode cX7_plan 335 = .ok (.if_icmp .lt 6, 3) := by decide +kernel
theorem dX7_plan_338 : decode cX7_plan 338 = .ok (.goto (-214), 3) := by decide +kernel
theorem dX7_plan_341 : decode cX7_plan 341 = .ok (.iload 15, 2) := by decide +kernel
theorem dX7_plan_343 : decode cX7_plan 343 = .ok (.iload 11, 2) := by decide +kernel
theorem dX7_plan_345 : decode cX7_plan 345 = .ok (.aload_n 0, 1) := by decide +kernel
theorem dX7_plan_346 : decode cX7_plan 346 = .ok (.getfield 134, 3) := by decide +kernel
theorem dX7_plan_349 : decode cX7_plan 349 = .ok (.iload 12, 2) := by decide +kernel
theorem dX7_plan_351 : decode cX7_plan 351 = .ok (.imul, 1) := by decide +kernel
theorem dX7_plan_352 : decode cX7_plan 352 = .ok (.iadd, 1) := by decide +kernel
theorem dX7_plan_353 : decode cX7_plan 353 = .ok (.iadd, 1) := by decide +kernel
theorem dX7_plan_354 : decode cX7_plan 354 = .ok (.istore 15, 2) := by decide +kernel
theorem dX7_plan_356 : decode cX7_plan 356 = .ok (.iload 15, 2) := by decide +kernel
theorem dX7_plan_358 : decode cX7_plan 358 = .ok (.iload_n 2, 1) := by decide +kernel
theorem dX7_plan_359 : decode cX7_plan 359 = .ok (.if_icmp .le 6, 3) := by decide +kernel
theorem dX7_plan_362 : decode cX7_plan 362 = .ok (.goto (-238), 3) := by decide +kernel
theorem dX7_plan_365 : decode cX7_plan 365 = .ok (.lload 13, 2) := by decide +kernel
theorem dX7_plan_367 : decode cX7_plan 367 = .ok (.lload_n 3, 1) := by decide +kernel
theorem dX7_plan_368 : decode cX7_plan 368 = .ok (.lcmp, 1) := by decide +kernel
theorem dX7_plan_369 : decode cX7_plan 369 = .ok (.ifCond .gt 24, 3) := by decide +kernel
theorem dX7_plan_372 : decode cX7_plan 372 = .ok (.iload 11, 2) := by decide +kernel
theorem dX7_plan_374 : decode cX7_plan 374 = .ok (.iload 5, 2) := by decide +kernel
theorem dX7_plan_376 : decode cX7_plan 376 = .ok (.if_icmp .lt 17, 3) := by decide +kernel
theorem dX7_plan_379 : decode cX7_plan 379 = .ok (.iload 11, 2) := by decide +kernel
theorem dX7_plan_381 : decode cX7_plan 381 = .ok (.iload 5, 2) := by decide +kernel
theorem dX7_plan_383 : decode cX7_plan 383 = .ok (.if_icmp .ne 14, 3) := by decide +kernel
theorem dX7_plan_386 : decode cX7_plan 386 = .ok (.iload 15, 2) := by decide +kernel
theorem dX7_plan_388 : decode cX7_plan 388 = .ok (.iload 6, 2) := by decide +kernel
theorem dX7_plan_390 : decode cX7_plan 390 = .ok (.if_icmp .ge 7, 3) := by decide +kernel
theorem dX7_plan_393 : decode cX7_plan 393 = .ok (.iconst 1, 1) := by decide +kernel
theorem dX7_plan_394 : decode cX7_plan 394 = .ok (.goto 4, 3) := by decide +kernel
theorem dX7_plan_397 : decode cX7_plan 397 = .ok (.iconst 0, 1) := by decide +kernel
theorem dX7_plan_398 : decode cX7_plan 398 = .ok (.istore 16, 2) := by decide +kernel
theorem dX7_plan_400 : decode cX7_plan 400 = .ok (.iload 16, 2) := by decide +kernel
theorem dX7_plan_402 : decode cX7_plan 402 = .ok (.ifCond .ne 6, 3) := by decide +kernel
theorem dX7_plan_405 : decode cX7_plan 405 = .ok (.goto (-281), 3) := by decide +kernel
theorem dX7_plan_408 : decode cX7_plan 408 = .ok (.lload 13, 2) := by decide +kernel
theorem dX7_plan_410 : decode cX7_plan 410 = .ok (.lstore_n 3, 1) := by decide +kernel
theorem dX7_plan_411 : decode cX7_plan 411 = .ok (.iload 11, 2) := by decide +kernel
theorem dX7_plan_413 : decode cX7_plan 413 = .ok (.istore 5, 2) := by decide +kernel
theorem dX7_plan_415 : decode cX7_plan 415 = .ok (.iload 15, 2) := by decide +kernel
theorem dX7_plan_417 : decode cX7_plan 417 = .ok (.istore 6, 2) := by decide +kernel
theorem dX7_plan_419 : decode cX7_plan 419 = .ok (.iload 10, 2) := by decide +kernel
theorem dX7_plan_421 : decode cX7_plan 421 = .ok (.istore 7, 2) := by decide +kernel
theorem dX7_plan_423 : decode cX7_plan 423 = .ok (.iconst 1, 1) := by decide +kernel
theorem dX7_plan_424 : decode cX7_plan 424 = .ok (.istore 17, 2) := by decide +kernel
theorem dX7_plan_426 : decode cX7_plan 426 = .ok (.iload 17, 2) := by decide +kernel
theorem dX7_plan_428 : decode cX7_plan 428 = .ok (.aload_n 0, 1) := by decide +kernel
theorem dX7_plan_429 : decode cX7_plan 429 = .ok (.getfield 143, 3) := by decide +kernel
theorem dX7_plan_432 : decode cX7_plan 432 = .ok (.if_icmp .gt 23, 3) := by decide +kernel
theorem dX7_plan_435 : decode cX7_plan 435 = .ok (.aload_n 0, 1) := by decide +kernel
theorem dX7_plan_436 : decode cX7_plan 436 = .ok (.getfield 76, 3) := by decide +kernel
theorem dX7_plan_439 : decode cX7_plan 439 = .ok (.iload 17, 2) := by decide +kernel
theorem dX7_plan_441 : decode cX7_plan 441 = .ok (.aload_n 0, 1) := by decide +kernel
theorem dX7_plan_442 : decode cX7_plan 442 = .ok (.getfield 73, 3) := by decide +kernel
theorem dX7_plan_445 : decode cX7_plan 445 = .ok (.iload 17, 2) := by decide +kernel
theorem dX7_plan_447 : decode cX7_plan 447 = .ok (.iaload, 1) := by decide +kernel
theorem dX7_plan_448 : decode cX7_plan 448 = .ok (.iastore, 1) := by decide +kernel
theorem dX7_plan_449 : decode cX7_plan 449 = .ok (.iinc 17 1, 3) := by decide +kernel
theorem dX7_plan_452 : decode cX7_plan 452 = .ok (.goto (-26), 3) := by decide +kernel
theorem dX7_plan_455 : decode cX7_plan 455 = .ok (.goto (-331), 3) := by decide +kernel
theorem dX7_plan_458 : decode cX7_plan 458 = .ok (.aload_n 0, 1) := by decide +kernel
theorem dX7_plan_459 : decode cX7_plan 459 = .ok (.iconst 1, 1) := by decide +kernel
theorem dX7_plan_460 : decode cX7_plan 460 = .ok (.putfield 191, 3) := by decide +kernel
theorem dX7_plan_463 : decode cX7_plan 463 = .ok (.aload_n 0, 1) := by decide +kernel
theorem dX7_plan_464 : decode cX7_plan 464 = .ok (.iload 5, 2) := by decide +kernel
theorem dX7_plan_466 : decode cX7_plan 466 = .ok (.putfield 195, 3) := by decide +kernel
theorem dX7_plan_469 : decode cX7_plan 469 = .ok (.aload_n 0, 1) := by decide +kernel
theorem dX7_plan_470 : decode cX7_plan 470 = .ok (.iload 6, 2) := by decide +kernel
theorem dX7_plan_472 : decode cX7_plan 472 = .ok (.putfield 198, 3) := by decide +kernel
theorem dX7_plan_475 : decode cX7_plan 475 = .ok (.aload_n 0, 1) := by decide +kernel
theorem dX7_plan_476 : decode cX7_plan 476 = .ok (.iconst 0, 1) := by decide +kernel
theorem dX7_plan_477 : decode cX7_plan 477 = .ok (.putfield 201, 3) := by decide +kernel
theorem dX7_plan_480 : decode cX7_plan 480 = .ok (.iconst (-1), 1) := by decide +kernel
theorem dX7_plan_481 : decode cX7_plan 481 = .ok (.istore 9, 2) := by decide +kernel
theorem dX7_plan_483 : decode cX7_plan 483 = .ok (.iload 7, 2) := by decide +kernel
theorem dX7_plan_485 : decode cX7_plan 485 = .ok (.istore 10, 2) := by decide +kernel
theorem dX7_plan_487 : decode cX7_plan 487 = .ok (.iload 10, 2) := by decide +kernel
theorem dX7_plan_489 : decode cX7_plan 489 = .ok (.ifCond .eq 169, 3) := by decide +kernel
theorem dX7_plan_492 : decode cX7_plan 492 = .ok (.iload 9, 2) := by decide +kernel
theorem dX7_plan_494 : decode cX7_plan 494 = .ok (.ifCond .ge 12, 3) := by decide +kernel
theorem dX7_plan_497 : decode cX7_plan 497 = .ok (.aload_n 0, 1) := by decide +kernel
theorem dX7_plan_498 : decode cX7_plan 498 = .ok (.iload 10, 2) := by decide +kernel
theorem dX7_plan_500 : decode cX7_plan 500 = .ok (.invokevirtual 187, 3) := by decide +kernel
theorem dX7_plan_503 : decode cX7_plan 503 = .ok (.goto 16, 3) := by decide +kernel
theorem dX7_plan_506 : decode cX7_plan 506 = .ok (.aload_n 0, 1) := by decide +kernel
theorem dX7_plan_507 : decode cX7_plan 507 = .ok (.getfield 70, 3) := by decide +kernel
theorem dX7_plan_510 : decode cX7_plan 510 = .ok (.bipush 8, 2) := by decide +kernel
theorem dX7_plan_512 : decode cX7_plan 512 = .ok (.iload 10, 2) := by decide +kernel
theorem dX7_plan_514 : decode cX7_plan 514 = .ok (.imul, 1) := by decide +kernel
theorem dX7_plan_515 : decode cX7_plan 515 = .ok (.iload 9, 2) := by decide +kernel
theorem dX7_plan_517 : decode cX7_plan 517 = .ok (.iadd, 1) := by decide +kernel
theorem dX7_plan_518 : decode cX7_plan 518 = .ok (.iaload, 1) := by decide +kernel
theorem dX7_plan_519 : decode cX7_plan 519 = .ok (.istore 11, 2) := by decide +kernel
theorem dX7_plan_521 : decode cX7_plan 521 = .ok (.iconst 1, 1) := by decide +kernel
theorem dX7_plan_522 : decode cX7_plan 522 = .ok (.istore 12, 2) := by decide +kernel
theorem dX7_plan_524 : decode cX7_plan 524 = .ok (.iload 10, 2) := by decide +kernel
theorem dX7_plan_526 : decode cX7_plan 526 = .ok (.iload 12, 2) := by decide +kernel
theorem dX7_plan_528 : decode cX7_plan 528 = .ok (.iconst 1, 1) := by decide +kernel
theorem dX7_plan_529 : decode cX7_plan 529 = .ok (.isub, 1) := by decide +kernel
theorem dX7_plan_530 : decode cX7_plan 530 = .ok (.ishr, 1) := by decide +kernel
theorem dX7_plan_531 : decode cX7_plan 531 = .ok (.iconst 1, 1) := by decide +kernel
theorem dX7_plan_532 : decode cX7_plan 532 = .ok (.iand, 1) := by decide +kernel
theorem dX7_plan_533 : decode cX7_plan 533 = .ok (.ifCond .eq 62, 3) := by decide +kernel
theorem dX7_plan_536 : decode cX7_plan 536 = .ok (.iload 9, 2) := by decide +kernel
theorem dX7_plan_538 : decode cX7_plan 538 = .ok (.ifCond .ge 14, 3) := by decide +kernel
theorem dX7_plan_541 : decode cX7_plan 541 = .ok (.aload_n 0, 1) := by decide +kernel
theorem dX7_plan_542 : decode cX7_plan 542 = .ok (.iload 12, 2) := by decide +kernel
theorem dX7_plan_544 : decode cX7_plan 544 = .ok (.iload 10, 2) := by decide +kernel
theorem dX7_plan_546 : decode cX7_plan 546 = .ok (.invokevirtual 178, 3) := by decide +kernel
theorem dX7_plan_549 : decode cX7_plan 549 = .ok (.goto 41, 3) := by decide +kernel
theorem dX7_plan_552 : decode cX7_plan 552 = .ok (.aload_n 0, 1) := by decide +kernel
theorem dX7_plan_553 : decode cX7_plan 553 = .ok (.getfield 57, 3) := by decide +kernel
theorem dX7_plan_556 : decode cX7_plan 556 = .ok (.bipush 8, 2) := by decide +kernel
theorem dX7_plan_558 : decode cX7_plan 558 = .ok (.iload 9, 2) := by decide +kernel
theorem dX7_plan_560 : decode cX7_plan 560 = .ok (.imul, 1) := by decide +kernel
theorem dX7_plan_561 : decode cX7_plan 561 = .ok (.iload 12, 2) := by decide +kernel
theorem dX7_plan_563 : decode cX7_plan 563 = .ok (.iadd, 1) := by decide +kernel
theorem dX7_plan_564 : decode cX7_plan 564 = .ok (.iaload, 1) := by decide +kernel
theorem dX7_plan_565 : decode cX7_plan 565 = .ok (.aload_n 0, 1) := by decide +kernel
theorem dX7_plan_566 : decode cX7_plan 566 = .ok (.getfield 70, 3) := by decide +kernel
theorem dX7_plan_569 : decode cX7_plan 569 = .ok (.bipush 8, 2) := by decide +kernel
theorem dX7_plan_571 : decode cX7_plan 571 = .ok (.iload 10, 2) := by decide +kernel
theorem dX7_plan_573 : decode cX7_plan 573 = .ok (.iconst 1, 1) := by decide +kernel
theorem dX7_plan_574 : decode cX7_plan 574 = .ok (.iload 12, 2) := by decide +kernel
theorem dX7_plan_576 : decode cX7_plan 576 = .ok (.iconst 1, 1) := by decide +kernel
theorem dX7_plan_577 : decode cX7_plan 577 = .ok (.isub, 1) := by decide +kernel
theorem dX7_plan_578 : decode cX7_plan 578 = .ok (.ishl, 1) := by decide +kernel
theorem dX7_plan_579 : decode cX7_plan 579 = .ok (.iconst (-1), 1) := by decide +kernel
theorem dX7_plan_580 : decode cX7_plan 580 = .ok (.ixor, 1) := by decide +kernel
theorem dX7_plan_581 : decode cX7_plan 581 = .ok (.iand, 1) := by decide +kernel
theorem dX7_plan_582 : decode cX7_plan 582 = .ok (.imul, 1) := by decide +kernel
theorem dX7_plan_583 : decode cX7_plan 583 = .ok (.iload 12, 2) := by decide +kernel
theorem dX7_plan_585 : decode cX7_plan 585 = .ok (.iadd, 1) := by decide +kernel
theorem dX7_plan_586 : decode cX7_plan 586 = .ok (.iaload, 1) := by decide +kernel
theorem dX7_plan_587 : decode cX7_plan 587 = .ok (.invokestatic 175, 3) := by decide +kernel
theorem dX7_plan_590 : decode cX7_plan 590 = .ok (.iload 11, 2) := by decide +kernel
theorem dX7_plan_592 : decode cX7_plan 592 = .ok (.if_icmp .eq 9, 3) := by decide +kernel
theorem dX7_plan_595 : decode cX7_plan 595 = .ok (.iinc 12 1, 3) := by decide +kernel
theorem dX7_plan_598 : decode cX7_plan 598 = .ok (.goto (-74), 3) := by decide +kernel
theorem dX7_plan_601 : decode cX7_plan 601 = .ok (.aload_n 0, 1) := by decide +kernel
theorem dX7_plan_602 : decode cX7_plan 602 = .ok (.getfield 82, 3) := by decide +kernel
theorem dX7_plan_605 : decode cX7_plan 605 = .ok (.aload_n 0, 1) := by decide +kernel
theorem dX7_plan_606 : decode cX7_plan 606 = .ok (.getfield 201, 3) := by decide +kernel
theorem dX7_plan_609 : decode cX7_plan 609 = .ok (.iload 12, 2) := by decide +kernel
theorem dX7_plan_611 : decode cX7_plan 611 = .ok (.iastore, 1) := by decide +kernel
theorem dX7_plan_612 : decode cX7_plan 612 = .ok (.aload_n 0, 1) := by decide +kernel
theorem dX7_plan_613 : decode cX7_plan 613 = .ok (.getfield 85, 3) := by decide +kernel
theorem dX7_plan_616 : decode cX7_plan 616 = .ok (.aload_n 0, 1) := by decide +kernel
theorem dX7_plan_617 : decode cX7_plan 617 = .ok (.getfield 201, 3) := by decide +kernel
theorem dX7_plan_620 : decode cX7_plan 620 = .ok (.aload_n 0, 1) := by decide +kernel
theorem dX7_plan_621 : decode cX7_plan 621 = .ok (.getfield 76, 3) := by decide +kernel
theorem dX7_plan_624 : decode cX7_plan 624 = .ok (.iload 12, 2) := by decide +kernel
theorem dX7_plan_626 : decode cX7_plan 626 = .ok (.iaload, 1) := by decide +kernel
theorem dX7_plan_627 : decode cX7_plan 627 = .ok (.iastore, 1) := by decide +kernel
theorem dX7_plan_628 : decode cX7_plan 628 = .ok (.aload_n 0, 1) := by decide +kernel
theorem dX7_plan_629 : decode cX7_plan 629 = .ok (.dup, 1) := by decide +kernel
theorem dX7_plan_630 : decode cX7_plan 630 = .ok (.getfield 201, 3) := by decide +kernel
theorem dX7_plan_633 : decode cX7_plan 633 = .ok (.iconst 1, 1) := by decide +kernel
theorem dX7_plan_634 : decode cX7_plan 634 = .ok (.iadd, 1) := by decide +kernel
theorem dX7_plan_635 : decode cX7_plan 635 = .ok (.putfield 201, 3) := by decide +kernel
theorem dX7_plan_638 : decode cX7_plan 638 = .ok (.iload 10, 2) := by decide +kernel
theorem dX7_plan_640 : decode cX7_plan 640 = .ok (.iconst 1, 1) := by decide +kernel
theorem dX7_plan_641 : decode cX7_plan 641 = .ok (.iload 12, 2) := by decide +kernel
theorem dX7_plan_643 : decode cX7_plan 643 = .ok (.iconst 1, 1) := by decide +kernel
theorem dX7_plan_644 : decode cX7_plan 644 = .ok (.isub, 1) := by decide +kernel
theorem dX7_plan_645 : decode cX7_plan 645 = .ok (.ishl, 1) := by decide +kernel
theorem dX7_plan_646 : decode cX7_plan 646 = .ok (.iconst (-1), 1) := by decide +kernel
theorem dX7_plan_647 : decode cX7_plan 647 = .ok (.ixor, 1) := by decide +kernel
theorem dX7_plan_648 : decode cX7_plan 648 = .ok (.iand, 1) := by decide +kernel
theorem dX7_plan_649 : decode cX7_plan 649 = .ok (.istore 10, 2) := by decide +kernel
theorem dX7_plan_651 : decode cX7_plan 651 = .ok (.iload 12, 2) := by decide +kernel
theorem dX7_plan_653 : decode cX7_plan 653 = .ok (.istore 9, 2) := by decide +kernel
theorem dX7_plan_655 : decode cX7_plan 655 = .ok (.goto (-168), 3) := by decide +kernel
theorem dX7_plan_658 : decode cX7_plan 658 = .ok (.lload_n 3, 1) := by decide +kernel
theorem dX7_plan_659 : decode cX7_plan 659 = .ok (.lreturn, 1) := by decide +kernel
theorem dX7_planned_0 : decode cX7_planned 0 = .ok (.aload_n 0, 1) := by decide +kernel
theorem dX7_planned_1 : decode cX7_planned 1 = .ok (.iconst 0, 1) := by decide +kernel
theorem dX7_planned_2 : decode cX7_planned 2 = .ok (.putfield 88, 3) := by decide +kernel
theorem dX7_planned_5 : decode cX7_planned 5 = .ok (.aload_n 0, 1) := by decide +kernel
theorem dX7_planned_6 : decode cX7_planned 6 = .ok (.getfield 191, 3) := by decide +kernel
theorem dX7_planned_9 : decode cX7_planned 9 = .ok (.ifCond .ne 5, 3) := by decide +kernel
theorem dX7_planned_12 : decode cX7_planned 12 = .ok (.iconst (-1), 1) := by decide +kernel
theorem dX7_planned_13 : decode cX7_planned 13 = .ok (.ireturn, 1) := by decide +kernel
theorem dX7_planned_14 : decode cX7_planned 14 = .ok (.iload_n 1, 1) := by decide +kernel
theorem dX7_planned_15 : decode cX7_planned 15 = .ok (.tableswitch 94 0 4 #[33, 56, 79, 84, 89], 33) := by decide +kernel
theorem dX7_planned_48 : decode cX7_planned 48 = .ok (.iload_n 2, 1) := by decide +kernel
theorem dX7_planned_49 : decode cX7_planned 49 = .ok (.ifCond .lt 11, 3) := by decide +kernel
theorem dX7_planned_52 : decode cX7_planned 52 = .ok (.iload_n 2, 1) := by decide +kernel
theorem dX7_planned_53 : decode cX7_planned 53 = .ok (.aload_n 0, 1) := by decide +kernel
theorem dX7_planned_54 : decode cX7_planned 54 = .ok (.getfield 201, 3) := by decide +kernel
theorem dX7_planned_57 : decode cX7_planned 57 = .ok (.if_icmp .lt 7, 3) := by decide +kernel
theorem dX7_planned_60 : decode cX7_planned 60 = .ok (.iconst (-1), 1) := by decide +kernel
theorem dX7_planned_61 : decode cX7_planned 61 = .ok (.goto 9, 3) := by decide +kernel
theorem dX7_planned_64 : decode cX7_planned 64 = .ok (.aload_n 0, 1) := by decide +kernel
theorem dX7_planned_65 : decode cX7_planned 65 = .ok (.getfield 82, 3) := by decide +kernel
theorem dX7_planned_68 : decode cX7_planned 68 = .ok (.iload_n 2, 1) := by decide +kernel
theorem dX7_planned_69 : decode cX7_planned 69 = .ok (.iaload, 1) := by decide +kernel
theorem dX7_planned_70 : decode cX7_planned 70 = .ok (.ireturn, 1) := by decide +kernel
theorem dX7_planned_71 : decode cX7_planned 71 = .ok (.iload_n 2, 1) := by decide +kernel
theorem dX7_planned_72 : decode cX7_planned 72 = .ok (.ifCond .lt 11, 3) := by decide +kernel
theorem dX7_planned_75 : decode cX7_planned 75 = .ok (.iload_n 2, 1) := by decide +kernel
theorem dX7_planned_76 : decode cX7_planned 76 = .ok (.aload_n 0, 1) := by decide +kernel
theorem dX7_planned_77 : decode cX7_planned 77 = .ok (.getfield 201, 3) := by decide +kernel
theorem dX7_planned_80 : decode cX7_planned 80 = .ok (.if_icmp .lt 7, 3) := by decide +kernel
theorem dX7_planned_83 : decode cX7_planned 83 = .ok (.iconst (-1), 1) := by decide +kernel
theorem dX7_planned_84 : decode cX7_planned 84 = .ok (.goto 9, 3) := by decide +kernel
theorem dX7_planned_87 : decode cX7_planned 87 = .ok (.aload_n 0, 1) := by decide +kernel
theorem dX7_planned_88 : decode cX7_planned 88 = .ok (.getfield 85, 3) := by decide +kernel
theorem dX7_planned_91 : decode cX7_planned 91 = .ok (.iload_n 2, 1) := by decide +kernel
theorem dX7_planned_92 : decode cX7_planned 92 = .ok (.iaload, 1) := by decide +kernel
theorem dX7_planned_93 : decode cX7_planned 93 = .ok (.ireturn, 1) := by decide +kernel
theorem dX7_planned_94 : decode cX7_planned 94 = .ok (.aload_n 0, 1) := by decide +kernel
theorem dX7_planned_95 : decode cX7_planned 95 = .ok (.getfield 195, 3) := by decide +kernel
theorem dX7_planned_98 : decode cX7_planned 98 = .ok (.ireturn, 1) := by decide +kernel
theorem dX7_planned_99 : decode cX7_planned 99 = .ok (.aload_n 0, 1) := by decide +kernel
theorem dX7_planned_100 : decode cX7_planned 100 = .ok (.getfield 198, 3) := by decide +kernel
theorem dX7_planned_103 : decode cX7_planned 103 = .ok (.ireturn, 1) := by decide +kernel
theorem dX7_planned_104 : decode cX7_planned 104 = .ok (.aload_n 0, 1) := by decide +kernel
theorem dX7_planned_105 : decode cX7_planned 105 = .ok (.getfield 201, 3) := by decide +kernel
theorem dX7_planned_108 : decode cX7_planned 108 = .ok (.ireturn, 1) := by decide +kernel
theorem dX7_planned_109 : decode cX7_planned 109 = .ok (.iconst (-1), 1) := by decide +kernel
theorem dX7_planned_110 : decode cX7_planned 110 = .ok (.ireturn, 1) := by decide +kernel
set_option maxRecDepth 20000 in
theorem ggX7_visit_X7_isVillage : GoodIn wsX7_visit wsX7_isVillage := goodIn_r _ [9, 10, 11, 12, 13, 14, 15, 16, 17, 18, 19, 20, 21, 22, 23, 24, 25, 26, 27, 28, 29, 30, 31, 32, 33, 34, 35, 36, 37, 38, 39, 40, 41, 42, 43, 44, 45, 46, 47, 48, 49, 50, 51, 52, 53] (by decide +kernel) (by decide +kernel)
set_option maxRecDepth 20000 in
theorem gX7_visit_X7_isVillage : GoodIn wsX7_visit (wsV RX7 169 RX7 yX7_isVillage wsX7_isVillage) := goodIn_app (goodIn_of _ (by decide +kernel)) ggX7_visit_X7_isVillage
theorem dX7_visit_0 : decode cX7_visit 0 = .ok (.aload_n 0, 1) := by decide +kernel
theorem dX7_visit_1 : decode cX7_visit 1 = .ok (.iconst 0, 1) := by decide +kernel
theorem dX7_visit_2 : decode cX7_visit 2 = .ok (.putfield 88, 3) := by decide +kernel
theorem dX7_visit_5 : decode cX7_visit 5 = .ok (.aload_n 0, 1) := by decide +kernel
theorem dX7_visit_6 : decode cX7_visit 6 = .ok (.iload_n 1, 1) := by decide +kernel
theorem dX7_visit_7 : decode cX7_visit 7 = .ok (.invokevirtual 169, 3) := by decide +kernel
theorem dX7_visit_10 : decode cX7_visit 10 = .ok (.ifCond .eq 23, 3) := by decide +kernel
theorem dX7_visit_13 : decode cX7_visit 13 = .ok (.aload_n 0, 1) := by decide +kernel
theorem dX7_visit_14 : decode cX7_visit 14 = .ok (.getfield 48, 3) := by decide +kernel
theorem dX7_visit_17 : decode cX7_visit 17 = .ok (.iload_n 1, 1) := by decide +kernel
theorem dX7_visit_18 : decode cX7_visit 18 = .ok (.iaload, 1) := by decide +kernel
theorem dX7_visit_19 : decode cX7_visit 19 = .ok (.ifCond .eq 14, 3) := by decide +kernel
theorem dX7_visit_22 : decode cX7_visit 22 = .ok (.iload_n 2, 1) := by decide +kernel
theorem dX7_visit_23 : decode cX7_visit 23 = .ok (.iconst 1, 1) := by decide +kernel
theorem dX7_visit_24 : decode cX7_visit 24 = .ok (.if_icmp .lt 9, 3) := by decide +kernel
theorem dX7_visit_27 : decode cX7_visit 27 = .ok (.iload_n 2, 1) := by decide +kernel
theorem dX7_visit_28 : decode cX7_visit 28 = .ok (.bipush 30, 2) := by decide +kernel
theorem dX7_visit_30 : decode cX7_visit 30 = .ok (.if_icmp .le 5, 3) := by decide +kernel
theorem dX7_visit_33 : decode cX7_visit 33 = .ok (.iconst 0, 1) := by decide +kernel
theorem dX7_visit_34 : decode cX7_visit 34 = .ok (.ireturn, 1) := by decide +kernel
theorem dX7_visit_35 : decode cX7_visit 35 = .ok (.iload_n 3, 1) := by decide +kernel
theorem dX7_visit_36 : decode cX7_visit 36 = .ok (.ifCond .eq 32, 3) := by decide +kernel
theorem dX7_visit_39 : decode cX7_visit 39 = .ok (.aload_n 0, 1) := by decide +kernel
theorem dX7_visit_40 : decode cX7_visit 40 = .ok (.getfield 54, 3) := by decide +kernel
theorem dX7_visit_43 : decode cX7_visit 43 = .ok (.iload_n 1, 1) := by decide +kernel
theorem dX7_visit_44 : decode cX7_visit 44 = .ok (.iload_n 2, 1) := by decide +kernel
theorem dX7_visit_45 : decode cX7_visit 45 = .ok (.aload_n 0, 1) := by decide +kernel
theorem dX7_visit_46 : decode cX7_visit 46 = .ok (.getfield 54, 3) := by decide +kernel
theorem dX7_visit_49 : decode cX7_visit 49 = .ok (.iload_n 1, 1) := by decide +kernel
theorem dX7_visit_50 : decode cX7_visit 50 = .ok (.iaload, 1) := by decide +kernel
theorem dX7_visit_51 : decode cX7_visit 51 = .ok (.if_icmp .le 7, 3) := by decide +kernel
theorem dX7_visit_54 : decode cX7_visit 54 = .ok (.iload_n 2, 1) := by decide +kernel
theorem dX7_visit_55 : decode cX7_visit 55 = .ok (.goto 9, 3) := by decide +kernel
theorem dX7_visit_58 : decode cX7_visit 58 = .ok (.aload_n 0, 1) := by decide +kernel
theorem dX7_visit_59 : decode cX7_visit 59 = .ok (.getfield 54, 3) := by decide +kernel
theorem dX7_visit_62 : decode cX7_visit 62 = .ok (.iload_n 1, 1) := by decide +kernel
theorem dX7_visit_63 : decode cX7_visit 63 = .ok (.iaload, 1) := by decide +kernel
theorem dX7_visit_64 : decode cX7_visit 64 = .ok (.iastore, 1) := by decide +kernel
theorem dX7_visit_65 : decode cX7_visit 65 = .ok (.goto 38, 3) := by decide +kernel
theorem dX7_visit_68 : decode cX7_visit 68 = .ok (.aload_n 0, 1) := by decide +kernel
theorem dX7_visit_69 : decode cX7_visit 69 = .ok (.getfield 51, 3) := by decide +kernel
theorem dX7_visit_72 : decode cX7_visit 72 = .ok (.iload_n 1, 1) := by decide +kernel
theorem dX7_visit_73 : decode cX7_visit 73 = .ok (.aload_n 0, 1) := by decide +kernel
theorem dX7_visit_74 : decode cX7_visit 74 = .ok (.getfield 51, 3) := by decide +kernel
theorem dX7_visit_77 : decode cX7_visit 77 = .ok (.iload_n 1, 1) := by decide +kernel
theorem dX7_visit_78 : decode cX7_visit 78 = .ok (.iaload, 1) := by decide +kernel
theorem dX7_visit_79 : decode cX7_visit 79 = .ok (.ifCond .lt 13, 3) := by decide +kernel
theorem dX7_visit_82 : decode cX7_visit 82 = .ok (.iload_n 2, 1) := by decide +kernel
theorem dX7_visit_83 : decode cX7_visit 83 = .ok (.aload_n 0, 1) := by decide +kernel
theorem dX7_visit_84 : decode cX7_visit 84 = .ok (.getfield 51, 3) := by decide +kernel
theorem dX7_visit_87 : decode cX7_visit 87 = .ok (.iload_n 1, 1) := by decide +kernel
theorem dX7_visit_88 : decode cX7_visit 88 = .ok (.iaload, 1) := by decide +kernel
theorem dX7_visit_89 : decode cX7_visit 89 = .ok (.if_icmp .ge 7, 3) := by decide +kernel
theorem dX7_visit_92 : decode cX7_visit 92 = .ok (.iload_n 2, 1) := by decide +kernel
theorem dX7_visit_93 : decode cX7_visit 93 = .ok (.goto 9, 3) := by decide +kernel
theorem dX7_visit_96 : decode cX7_visit 96 = .ok (.aload_n 0, 1) := by decide +kernel
theorem dX7_visit_97 : decode cX7_visit 97 = .ok (.getfield 51, 3) := by decide +kernel
theorem dX7_visit_100 : decode cX7_visit 100 = .ok (.iload_n 1, 1) := by decide +kernel
theorem dX7_visit_101 : decode cX7_visit 101 = .ok (.iaload, 1) := by decide +kernel
theorem dX7_visit_102 : decode cX7_visit 102 = .ok (.iastore, 1) := by decide +kernel
theorem dX7_visit_103 : decode cX7_visit 103 = .ok (.iconst 1, 1) := by decide +kernel
theorem dX7_visit_104 : decode cX7_visit 104 = .ok (.ireturn, 1) := by decide +kernel
set_option maxRecDepth 20000 in
theorem ggX7_still_X7_divisor : GoodIn wsX7_still wsX7_divisor := goodIn_r _ [10] (by decide +kernel) (by decide +kernel)
set_option maxRecDepth 20000 in
theorem gX7_still_X7_divisor : GoodIn wsX7_still (va_wsS RX7 161 yX7_divisor wsX7_divisor) := goodIn_app (goodIn_of _ (by decide +kernel)) ggX7_still_X7_divisor
theorem dX7_still_0 : decode cX7_still 0 = .ok (.aload_n 0, 1) := by decide +kernel
theorem dX7_still_1 : decode cX7_still 1 = .ok (.iconst 0, 1) := by decide +kernel
theorem dX7_still_2 : decode cX7_still 2 = .ok (.putfield 88, 3) := by decide +kernel
theorem dX7_still_5 : decode cX7_still 5 = .ok (.iload_n 1, 1) := by decide +kernel
theorem dX7_still_6 : decode cX7_still 6 = .ok (.iconst 1, 1) := by decide +kernel
theorem dX7_still_7 : decode cX7_still 7 = .ok (.if_icmp .lt 18, 3) := by decide +kernel
theorem dX7_still_10 : decode cX7_still 10 = .ok (.iload_n 1, 1) := by decide +kernel
theorem dX7_still_11 : decode cX7_still 11 = .ok (.bipush 30, 2) := by decide +kernel
theorem dX7_still_13 : decode cX7_still 13 = .ok (.if_icmp .gt 12, 3) := by decide +kernel
theorem dX7_still_16 : decode cX7_still 16 = .ok (.iload_n 2, 1) := by decide +kernel
theorem dX7_still_17 : decode cX7_still 17 = .ok (.ifCond .lt 8, 3) := by decide +kernel
theorem dX7_still_20 : decode cX7_still 20 = .ok (.iload_n 2, 1) := by decide +kernel
theorem dX7_still_21 : decode cX7_still 21 = .ok (.iconst 1, 1) := by decide +kernel
theorem dX7_still_22 : decode cX7_still 22 = .ok (.if_icmp .le 7, 3) := by decide +kernel
theorem dX7_still_25 : decode cX7_still 25 = .ok (.ldc2_w 155, 3) := by decide +kernel
theorem dX7_still_28 : decode cX7_still 28 = .ok (.lreturn, 1) := by decide +kernel
theorem dX7_still_29 : decode cX7_still 29 = .ok (.lconst 1, 1) := by decide +kernel
theorem dX7_still_30 : decode cX7_still 30 = .ok (.lstore_n 3, 1) := by decide +kernel
theorem dX7_still_31 : decode cX7_still 31 = .ok (.lconst 1, 1) := by decide +kernel
theorem dX7_still_32 : decode cX7_still 32 = .ok (.lstore 5, 2) := by decide +kernel
theorem dX7_still_34 : decode cX7_still 34 = .ok (.iconst 1, 1) := by decide +kernel
theorem dX7_still_35 : decode cX7_still 35 = .ok (.istore 7, 2) := by decide +kernel
theorem dX7_still_37 : decode cX7_still 37 = .ok (.iload 7, 2) := by decide +kernel
theorem dX7_still_39 : decode cX7_still 39 = .ok (.iload_n 1, 1) := by decide +kernel
theorem dX7_still_40 : decode cX7_still 40 = .ok (.if_icmp .gt 157, 3) := by decide +kernel
theorem dX7_still_43 : decode cX7_still 43 = .ok (.iconst 0, 1) := by decide +kernel
theorem dX7_still_44 : decode cX7_still 44 = .ok (.istore 8, 2) := by decide +kernel
theorem dX7_still_46 : decode cX7_still 46 = .ok (.iconst 0, 1) := by decide +kernel
theorem dX7_still_47 : decode cX7_still 47 = .ok (.istore 9, 2) := by decide +kernel
theorem dX7_still_49 : decode cX7_still 49 = .ok (.iconst 1, 1) := by decide +kernel
theorem dX7_still_50 : decode cX7_still 50 = .ok (.istore 10, 2) := by decide +kernel
theorem dX7_still_52 : decode cX7_still 52 = .ok (.iload 10, 2) := by decide +kernel
theorem dX7_still_54 : decode cX7_still 54 = .ok (.aload_n 0, 1) := by decide +kernel
theorem dX7_still_55 : decode cX7_still 55 = .ok (.getfield 143, 3) := by decide +kernel
theorem dX7_still_58 : decode cX7_still 58 = .ok (.if_icmp .gt 88, 3) := by decide +kernel
theorem dX7_still_61 : decode cX7_still 61 = .ok (.aload_n 0, 1) := by decide +kernel
theorem dX7_still_62 : decode cX7_still 62 = .ok (.getfield 48, 3) := by decide +kernel
theorem dX7_still_65 : decode cX7_still 65 = .ok (.iload 10, 2) := by decide +kernel
theorem dX7_still_67 : decode cX7_still 67 = .ok (.iaload, 1) := by decide +kernel
theorem dX7_still_68 : decode cX7_still 68 = .ok (.ifCond .ne 6, 3) := by decide +kernel
theorem dX7_still_71 : decode cX7_still 71 = .ok (.goto 69, 3) := by decide +kernel
theorem dX7_still_74 : decode cX7_still 74 = .ok (.iload 8, 2) := by decide +kernel
theorem dX7_still_76 : decode cX7_still 76 = .ok (.aload_n 0, 1) := by decide +kernel
theorem dX7_still_77 : decode cX7_still 77 = .ok (.getfield 51, 3) := by decide +kernel
theorem dX7_still_80 : decode cX7_still 80 = .ok (.iload 10, 2) := by decide +kernel
theorem dX7_still_82 : decode cX7_still 82 = .ok (.iaload, 1) := by decide +kernel
theorem dX7_still_83 : decode cX7_still 83 = .ok (.iload 7, 2) := by decide +kernel
theorem dX7_still_85 : decode cX7_still 85 = .ok (.if_icmp .ge 25, 3) := by decide +kernel
theorem dX7_still_88 : decode cX7_still 88 = .ok (.aload_n 0, 1) := by decide +kernel
theorem dX7_still_89 : decode cX7_still 89 = .ok (.getfield 51, 3) := by decide +kernel
theorem dX7_still_92 : decode cX7_still 92 = .ok (.iload 10, 2) := by decide +kernel
theorem dX7_still_94 : decode cX7_still 94 = .ok (.iaload, 1) := by decide +kernel
theorem dX7_still_95 : decode cX7_still 95 = .ok (.ifCond .ge 19, 3) := by decide +kernel
theorem dX7_still_98 : decode cX7_still 98 = .ok (.aload_n 0, 1) := by decide +kernel
theorem dX7_still_99 : decode cX7_still 99 = .ok (.getfield 54, 3) := by decide +kernel
theorem dX7_still_102 : decode cX7_still 102 = .ok (.iload 10, 2) := by decide +kernel
theorem dX7_still_104 : decode cX7_still 104 = .ok (.iaload, 1) := by decide +kernel
theorem dX7_still_105 : decode cX7_still 105 = .ok (.iload 7, 2) := by decide +kernel
theorem dX7_still_107 : decode cX7_still 107 = .ok (.if_icmp .lt 7, 3) := by decide +kernel
theorem dX7_still_110 : decode cX7_still 110 = .ok (.iconst 1, 1) := by decide +kernel
theorem dX7_still_111 : decode cX7_still 111 = .ok (.goto 4, 3) := by decide +kernel
theorem dX7_still_114 : decode cX7_still 114 = .ok (.iconst 0, 1) := by decide +kernel
theorem dX7_still_115 : decode cX7_still 115 = .ok (.iadd, 1) := by decide +kernel
theorem dX7_still_116 : decode cX7_still 116 = .ok (.istore 8, 2) := by decide +kernel
theorem dX7_still_118 : decode cX7_still 118 = .ok (.iload 9, 2) := by decide +kernel
theorem dX7_still_120 : decode cX7_still 120 = .ok (.aload_n 0, 1) := by decide +kernel
theorem dX7_still_121 : decode cX7_still 121 = .ok (.getfield 51, 3) := by decide +kernel
theorem dX7_still_124 : decode cX7_still 124 = .ok (.iload 10, 2) := by decide +kernel
theorem dX7_still_126 : decode cX7_still 126 = .ok (.iaload, 1) := by decide +kernel
theorem dX7_still_127 : decode cX7_still 127 = .ok (.iload 7, 2) := by decide +kernel
theorem dX7_still_129 : decode cX7_still 129 = .ok (.if_icmp .ne 7, 3) := by decide +kernel
theorem dX7_still_132 : decode cX7_still 132 = .ok (.iconst 1, 1) := by decide +kernel
theorem dX7_still_133 : decode cX7_still 133 = .ok (.goto 4, 3) := by decide +kernel
theorem dX7_still_136 : decode cX7_still 136 = .ok (.iconst 0, 1) := by decide +kernel
theorem dX7_still_137 : decode cX7_still 137 = .ok (.iadd, 1) := by decide +kernel
theorem dX7_still_138 : decode cX7_still 138 = .ok (.istore 9, 2) := by decide +kernel
theorem dX7_still_140 : decode cX7_still 140 = .ok (.iinc 10 1, 3) := by decide +kernel
theorem dX7_still_143 : decode cX7_still 143 = .ok (.goto (-91), 3) := by decide +kernel
theorem dX7_still_146 : decode cX7_still 146 = .ok (.iload 9, 2) := by decide +kernel
theorem dX7_still_148 : decode cX7_still 148 = .ok (.ifCond .ne 6, 3) := by decide +kernel
theorem dX7_still_151 : decode cX7_still 151 = .ok (.goto 40, 3) := by decide +kernel
theorem dX7_still_154 : decode cX7_still 154 = .ok (.lload_n 3, 1) := by decide +kernel
theorem dX7_still_155 : decode cX7_still 155 = .ok (.iload 8, 2) := by decide +kernel
theorem dX7_still_157 : decode cX7_still 157 = .ok (.iload 9, 2) := by decide +kernel
theorem dX7_still_159 : decode cX7_still 159 = .ok (.isub, 1) := by decide +kernel
theorem dX7_still_160 : decode cX7_still 160 = .ok (.i2l, 1) := by decide +kernel
theorem dX7_still_161 : decode cX7_still 161 = .ok (.lmul, 1) := by decide +kernel
theorem dX7_still_162 : decode cX7_still 162 = .ok (.lstore_n 3, 1) := by decide +kernel
theorem dX7_still_163 : decode cX7_still 163 = .ok (.lload 5, 2) := by decide +kernel
theorem dX7_still_165 : decode cX7_still 165 = .ok (.iload 8, 2) := by decide +kernel
theorem dX7_still_167 : decode cX7_still 167 = .ok (.i2l, 1) := by decide +kernel
theorem dX7_still_168 : decode cX7_still 168 = .ok (.lmul, 1) := by decide +kernel
theorem dX7_still_169 : decode cX7_still 169 = .ok (.lstore 5, 2) := by decide +kernel
theorem dX7_still_171 : decode cX7_still 171 = .ok (.lload_n 3, 1) := by decide +kernel
theorem dX7_still_172 : decode cX7_still 172 = .ok (.lload 5, 2) := by decide +kernel
theorem dX7_still_174 : decode cX7_still 174 = .ok (.invokestatic 161, 3) := by decide +kernel
theorem dX7_still_177 : decode cX7_still 177 = .ok (.lstore 10, 2) := by decide +kernel
theorem dX7_still_179 : decode cX7_still 179 = .ok (.lload_n 3, 1) := by decide +kernel
theorem dX7_still_180 : decode cX7_still 180 = .ok (.lload 10, 2) := by decide +kernel
theorem dX7_still_182 : decode cX7_still 182 = .ok (.ldiv, 1) := by decide +kernel
theorem dX7_still_183 : decode cX7_still 183 = .ok (.lstore_n 3, 1) := by decide +kernel
theorem dX7_still_184 : decode cX7_still 184 = .ok (.lload 5, 2) := by decide +kernel
theorem dX7_still_186 : decode cX7_still 186 = .ok (.lload 10, 2) := by decide +kernel
theorem dX7_still_188 : decode cX7_still 188 = .ok (.ldiv, 1) := by decide +kernel
theorem dX7_still_189 : decode cX7_still 189 = .ok (.lstore 5, 2) := by decide +kernel
theorem dX7_still_191 : decode cX7_still 191 = .ok (.iinc 7 1, 3) := by decide +kernel
theorem dX7_still_194 : decode cX7_still 194 = .ok (.goto (-157), 3) := by decide +kernel
theorem dX7_still_197 : decode cX7_still 197 = .ok (.iload_n 2, 1) := by decide +kernel
theorem dX7_still_198 : decode cX7_still 198 = .ok (.ifCond .ne 7, 3) := by decide +kernel
theorem dX7_still_201 : decode cX7_still 201 = .ok (.lload_n 3, 1) := by decide +kernel
theorem dX7_still_202 : decode cX7_still 202 = .ok (.goto 5, 3) := by decide +kernel
theorem dX7_still_205 : decode cX7_still 205 = .ok (.lload 5, 2) := by decide +kernel
theorem dX7_still_207 : decode cX7_still 207 = .ok (.lreturn, 1) := by decide +kernel
theorem dX7_fails_0 : decode cX7_fails 0 = .ok (.aload_n 0, 1) := by decide +kernel
theorem dX7_fails_1 : decode cX7_fails 1 = .ok (.iload_n 1, 1) := by decide +kernel
theorem dX7_fails_2 : decode cX7_fails 2 = .ok (.putfield 88, 3) := by decide +kernel
theorem dX7_fails_5 : decode cX7_fails 5 = .ok (.iconst 0, 1) := by decide +kernel
theorem dX7_fails_6 : decode cX7_fails 6 = .ok (.ireturn, 1) := by decide +kernel
set_option maxRecDepth 20000 in
theorem ggX7_look_X7_isVillage : GoodIn wsX7_look wsX7_isVillage := goodIn_r _ [13, 14, 19, 20, 21, 22, 23, 24, 25, 26, 27, 28, 29, 30, 31, 32, 33, 34, 35, 36, 37, 38, 39, 40, 41, 42, 43, 44, 45, 46, 47, 48, 49, 50, 51, 52, 53, 54, 55, 56, 57, 58, 59, 60, 61] (by decide +kernel) (by decide +kernel)
set_option maxRecDepth 20000 in
theorem gX7_look_X7_isVillage : GoodIn wsX7_look (wsV RX7 169 RX7 yX7_isVillage wsX7_isVillage) := goodIn_app (goodIn_of _ (by decide +kernel)) ggX7_look_X7_isVillage
set_option maxRecDepth 20000 in
theorem ggX7_look_X7_fails : GoodIn wsX7_look wsX7_fails := goodIn_r _ [18, 1, 19, 20, 21, 22, 23, 24, 25, 26, 27, 28, 29, 30, 31, 32, 33, 34, 35, 36, 37, 38, 39, 40, 41, 42, 43, 44, 45, 46, 47, 48, 49, 50, 51, 52, 53, 54, 55, 56, 57, 58, 59, 60, 61] (by decide +kernel) (by decide +kernel)
set_option maxRecDepth 20000 in
theorem gX7_look_X7_fails : GoodIn wsX7_look (wsV RX7 204 RX7 yX7_fails wsX7_fails) := goodIn_app (goodIn_of _ (by decide +kernel)) ggX7_look_X7_fails
theorem dX7_look_0 : decode cX7_look 0 = .ok (.aload_n 0, 1) := by decide +kernel
theorem dX7_look_1 : decode cX7_look 1 = .ok (.iconst 0, 1) := by decide +kernel
theorem dX7_look_2 : decode cX7_look 2 = .ok (.putfield 88, 3) := by decide +kernel
theorem dX7_look_5 : decode cX7_look 5 = .ok (.aload_n 0, 1) := by decide +kernel
theorem dX7_look_6 : decode cX7_look 6 = .ok (.iload_n 1, 1) := by decide +kernel
theorem dX7_look_7 : decode cX7_look 7 = .ok (.invokevirtual 169, 3) := by decide +kernel
theorem dX7_look_10 : decode cX7_look 10 = .ok (.ifCond .ne 9, 3) := by decide +kernel
theorem dX7_look_13 : decode cX7_look 13 = .ok (.aload_n 0, 1) := by decide +kernel
theorem dX7_look_14 : decode cX7_look 14 = .ok (.iconst 1, 1) := by decide +kernel
theorem dX7_look_15 : decode cX7_look 15 = .ok (.invokevirtual 204, 3) := by decide +kernel
theorem dX7_look_18 : decode cX7_look 18 = .ok (.ireturn, 1) := by decide +kernel
theorem dX7_look_19 : decode cX7_look 19 = .ok (.iload_n 2, 1) := by decide +kernel
theorem dX7_look_20 : decode cX7_look 20 = .ok (.tableswitch 131 0 6 #[44, 51, 58, 90, 97, 117, 124], 44) := by decide +kernel
theorem dX7_look_64 : decode cX7_look 64 = .ok (.aload_n 0, 1) := by decide +kernel
theorem dX7_look_65 : decode cX7_look 65 = .ok (.getfield 39, 3) := by decide +kernel
theorem dX7_look_68 : decode cX7_look 68 = .ok (.iload_n 1, 1) := by decide +kernel
theorem dX7_look_69 : decode cX7_look 69 = .ok (.iaload, 1) := by decide +kernel
theorem dX7_look_70 : decode cX7_look 70 = .ok (.ireturn, 1) := by decide +kernel
theorem dX7_look_71 : decode cX7_look 71 = .ok (.aload_n 0, 1) := by decide +kernel
theorem dX7_look_72 : decode cX7_look 72 = .ok (.getfield 42, 3) := by decide +kernel
theorem dX7_look_75 : decode cX7_look 75 = .ok (.iload_n 1, 1) := by decide +kernel
theorem dX7_look_76 : decode cX7_look 76 = .ok (.iaload, 1) := by decide +kernel
theorem dX7_look_77 : decode cX7_look 77 = .ok (.ireturn, 1) := by decide +kernel
theorem dX7_look_78 : decode cX7_look 78 = .ok (.aload_n 0, 1) := by decide +kernel
theorem dX7_look_79 : decode cX7_look 79 = .ok (.getfield 48, 3) := by decide +kernel
theorem dX7_look_82 : decode cX7_look 82 = .ok (.iload_n 1, 1) := by decide +kernel
theorem dX7_look_83 : decode cX7_look 83 = .ok (.iaload, 1) := by decide +kernel
theorem dX7_look_84 : decode cX7_look 84 = .ok (.ifCond .le 7, 3) := by decide +kernel
theorem dX7_look_87 : decode cX7_look 87 = .ok (.iconst 1, 1) := by decide +kernel
theorem dX7_look_88 : decode cX7_look 88 = .ok (.goto 21, 3) := by decide +kernel
theorem dX7_look_91 : decode cX7_look 91 = .ok (.aload_n 0, 1) := by decide +kernel
theorem dX7_look_92 : decode cX7_look 92 = .ok (.getfield 45, 3) := by decide +kernel
theorem dX7_look_95 : decode cX7_look 95 = .ok (.iload_n 1, 1) := by decide +kernel
theorem dX7_look_96 : decode cX7_look 96 = .ok (.iaload, 1) := by decide +kernel
theorem dX7_look_97 : decode cX7_look 97 = .ok (.aload_n 0, 1) := by decide +kernel
theorem dX7_look_98 : decode cX7_look 98 = .ok (.getfield 17, 3) := by decide +kernel
theorem dX7_look_101 : decode cX7_look 101 = .ok (.if_icmp .lt 7, 3) := by decide +kernel
theorem dX7_look_104 : decode cX7_look 104 = .ok (.iconst 2, 1) := by decide +kernel
theorem dX7_look_105 : decode cX7_look 105 = .ok (.goto 4, 3) := by decide +kernel
theorem dX7_look_108 : decode cX7_look 108 = .ok (.iconst 0, 1) := by decide +kernel
theorem dX7_look_109 : decode cX7_look 109 = .ok (.ireturn, 1) := by decide +kernel
theorem dX7_look_110 : decode cX7_look 110 = .ok (.aload_n 0, 1) := by decide +kernel
theorem dX7_look_111 : decode cX7_look 111 = .ok (.getfield 45, 3) := by decide +kernel
theorem dX7_look_114 : decode cX7_look 114 = .ok (.iload_n 1, 1) := by decide +kernel
theorem dX7_look_115 : decode cX7_look 115 = .ok (.iaload, 1) := by decide +kernel
theorem dX7_look_116 : decode cX7_look 116 = .ok (.ireturn, 1) := by decide +kernel
theorem dX7_look_117 : decode cX7_look 117 = .ok (.aload_n 0, 1) := by decide +kernel
theorem dX7_look_118 : decode cX7_look 118 = .ok (.getfield 48, 3) := by decide +kernel
theorem dX7_look_121 : decode cX7_look 121 = .ok (.iload_n 1, 1) := by decide +kernel
theorem dX7_look_122 : decode cX7_look 122 = .ok (.iaload, 1) := by decide +kernel
theorem dX7_look_123 : decode cX7_look 123 = .ok (.ifCond .le 12, 3) := by decide +kernel
theorem dX7_look_126 : decode cX7_look 126 = .ok (.aload_n 0, 1) := by decide +kernel
theorem dX7_look_127 : decode cX7_look 127 = .ok (.getfield 48, 3) := by decide +kernel
theorem dX7_look_130 : decode cX7_look 130 = .ok (.iload_n 1, 1) := by decide +kernel
theorem dX7_look_131 : decode cX7_look 131 = .ok (.iaload, 1) := by decide +kernel
theorem dX7_look_132 : decode cX7_look 132 = .ok (.goto 4, 3) := by decide +kernel
theorem dX7_look_135 : decode cX7_look 135 = .ok (.iconst (-1), 1) := by decide +kernel
theorem dX7_look_136 : decode cX7_look 136 = .ok (.ireturn, 1) := by decide +kernel
theorem dX7_look_137 : decode cX7_look 137 = .ok (.aload_n 0, 1) := by decide +kernel
theorem dX7_look_138 : decode cX7_look 138 = .ok (.getfield 51, 3) := by decide +kernel
theorem dX7_look_141 : decode cX7_look 141 = .ok (.iload_n 1, 1) := by decide +kernel
theorem dX7_look_142 : decode cX7_look 142 = .ok (.iaload, 1) := by decide +kernel
theorem dX7_look_143 : decode cX7_look 143 = .ok (.ireturn, 1) := by decide +kernel
theorem dX7_look_144 : decode cX7_look 144 = .ok (.aload_n 0, 1) := by decide +kernel
theorem dX7_look_145 : decode cX7_look 145 = .ok (.getfield 54, 3) := by decide +kernel
theorem dX7_look_148 : decode cX7_look 148 = .ok (.iload_n 1, 1) := by decide +kernel
theorem dX7_look_149 : decode cX7_look 149 = .ok (.iaload, 1) := by decide +kernel
theorem dX7_look_150 : decode cX7_look 150 = .ok (.ireturn, 1) := by decide +kernel
theorem dX7_look_151 : decode cX7_look 151 = .ok (.aload_n 0, 1) := by decide +kernel
theorem dX7_look_152 : decode cX7_look 152 = .ok (.iconst 2, 1) := by decide +kernel
theorem dX7_look_153 : decode cX7_look 153 = .ok (.invokevirtual 204, 3) := by decide +kernel
theorem dX7_look_156 : decode cX7_look 156 = .ok (.ireturn, 1) := by decide +kernel
theorem dX7_count_0 : decode cX7_count 0 = .ok (.aload_n 0, 1) := by decide +kernel
theorem dX7_count_1 : decode cX7_count 1 = .ok (.iconst 0, 1) := by decide +kernel
theorem dX7_count_2 : decode cX7_count 2 = .ok (.putfield 88, 3) := by decide +kernel
theorem dX7_count_5 : decode cX7_count 5 = .ok (.iconst 0, 1) := by decide +kernel
theorem dX7_count_6 : decode cX7_count 6 = .ok (.istore_n 2, 1) := by decide +kernel
theorem dX7_count_7 : decode cX7_count 7 = .ok (.iload_n 1, 1) := by decide +kernel
theorem dX7_count_8 : decode cX7_count 8 = .ok (.tableswitch 105 0 5 #[40, 45, 50, 55, 60, 100], 40) := by decide +kernel
theorem dX7_count_48 : decode cX7_count 48 = .ok (.aload_n 0, 1) := by decide +kernel
theorem dX7_count_49 : decode cX7_count 49 = .ok (.getfield 137, 3) := by decide +kernel
theorem dX7_count_52 : decode cX7_count 52 = .ok (.ireturn, 1) := by decide +kernel
theorem dX7_count_53 : decode cX7_count 53 = .ok (.aload_n 0, 1) := by decide +kernel
theorem dX7_count_54 : decode cX7_count 54 = .ok (.getfield 143, 3) := by decide +kernel
theorem dX7_count_57 : decode cX7_count 57 = .ok (.ireturn, 1) := by decide +kernel
theorem dX7_count_58 : decode cX7_count 58 = .ok (.aload_n 0, 1) := by decide +kernel
theorem dX7_count_59 : decode cX7_count 59 = .ok (.getfield 149, 3) := by decide +kernel
theorem dX7_count_62 : decode cX7_count 62 = .ok (.ireturn, 1) := by decide +kernel
theorem dX7_count_63 : decode cX7_count 63 = .ok (.aload_n 0, 1) := by decide +kernel
theorem dX7_count_64 : decode cX7_count 64 = .ok (.getfield 146, 3) := by decide +kernel
theorem dX7_count_67 : decode cX7_count 67 = .ok (.ireturn, 1) := by decide +kernel
theorem dX7_count_68 : decode cX7_count 68 = .ok (.iconst 1, 1) := by decide +kernel
theorem dX7_count_69 : decode cX7_count 69 = .ok (.istore_n 3, 1) := by decide +kernel
theorem dX7_count_70 : decode cX7_count 70 = .ok (.iload_n 3, 1) := by decide +kernel
theorem dX7_count_71 : decode cX7_count 71 = .ok (.aload_n 0, 1) := by decide +kernel
theorem dX7_count_72 : decode cX7_count 72 = .ok (.getfield 143, 3) := by decide +kernel
theorem dX7_count_75 : decode cX7_count 75 = .ok (.if_icmp .gt 31, 3) := by decide +kernel
theorem dX7_count_78 : decode cX7_count 78 = .ok (.iload_n 2, 1) := by decide +kernel
theorem dX7_count_79 : decode cX7_count 79 = .ok (.aload_n 0, 1) := by decide +kernel
theorem dX7_count_80 : decode cX7_count 80 = .ok (.getfield 48, 3) := by decide +kernel
theorem dX7_count_83 : decode cX7_count 83 = .ok (.iload_n 3, 1) := by decide +kernel
theorem dX7_count_84 : decode cX7_count 84 = .ok (.iaload, 1) := by decide +kernel
theorem dX7_count_85 : decode cX7_count 85 = .ok (.ifCond .le 12, 3) := by decide +kernel
theorem dX7_count_88 : decode cX7_count 88 = .ok (.aload_n 0, 1) := by decide +kernel
theorem dX7_count_89 : decode cX7_count 89 = .ok (.getfield 42, 3) := by decide +kernel
theorem dX7_count_92 : decode cX7_count 92 = .ok (.iload_n 3, 1) := by decide +kernel
theorem dX7_count_93 : decode cX7_count 93 = .ok (.iaload, 1) := by decide +kernel
theorem dX7_count_94 : decode cX7_count 94 = .ok (.goto 4, 3) := by decide +kernel
theorem dX7_count_97 : decode cX7_count 97 = .ok (.iconst 0, 1) := by decide +kernel
theorem dX7_count_98 : decode cX7_count 98 = .ok (.iadd, 1) := by decide +kernel
theorem dX7_count_99 : decode cX7_count 99 = .ok (.istore_n 2, 1) := by decide +kernel
theorem dX7_count_100 : decode cX7_count 100 = .ok (.iinc 3 1, 3) := by decide +kernel
theorem dX7_count_103 : decode cX7_count 103 = .ok (.goto (-33), 3) := by decide +kernel
theorem dX7_count_106 : decode cX7_count 106 = .ok (.iload_n 2, 1) := by decide +kernel
theorem dX7_count_107 : decode cX7_count 107 = .ok (.ireturn, 1) := by decide +kernel
theorem dX7_count_108 : decode cX7_count 108 = .ok (.aload_n 0, 1) := by decide +kernel
theorem dX7_count_109 : decode cX7_count 109 = .ok (.getfield 152, 3) := by decide +kernel
theorem dX7_count_112 : decode cX7_count 112 = .ok (.ireturn, 1) := by decide +kernel
theorem dX7_count_113 : decode cX7_count 113 = .ok (.iconst (-1), 1) := by decide +kernel
theorem dX7_count_114 : decode cX7_count 114 = .ok (.ireturn, 1) := by decide +kernel
theorem dJ6_bitCount_0f7a4_0 : decode cJ6_bitCount_0f7a4 0 = .ok (.iload_n 0, 1) := by decide +kernel
theorem dJ6_bitCount_0f7a4_1 : decode cJ6_bitCount_0f7a4 1 = .ok (.iload_n 0, 1) := by decide +kernel
theorem dJ6_bitCount_0f7a4_2 : decode cJ6_bitCount_0f7a4 2 = .ok (.iconst 1, 1) := by decide +kernel
theorem dJ6_bitCount_0f7a4_3 : decode cJ6_bitCount_0f7a4 3 = .ok (.iushr, 1) := by decide +kernel
theorem dJ6_bitCount_0f7a4_4 : decode cJ6_bitCount_0f7a4 4 = .ok (.ldc_w 265, 3) := by decide +kernel
theorem dJ6_bitCount_0f7a4_7 : decode cJ6_bitCount_0f7a4 7 = .ok (.iand, 1) := by decide +kernel
theorem dJ6_bitCount_0f7a4_8 : decode cJ6_bitCount_0f7a4 8 = .ok (.isub, 1) := by decide +kernel
theorem dJ6_bitCount_0f7a4_9 : decode cJ6_bitCount_0f7a4 9 = .ok (.istore_n 0, 1) := by decide +kernel
theorem dJ6_bitCount_0f7a4_10 : decode cJ6_bitCount_0f7a4 10 = .ok (.iload_n 0, 1) := by decide +kernel
theorem dJ6_bitCount_0f7a4_11 : decode cJ6_bitCount_0f7a4 11 = .ok (.ldc_w 266, 3) := by decide +kernel
theorem dJ6_bitCount_0f7a4_14 : decode cJ6_bitCount_0f7a4 14 = .ok (.iand, 1) := by decide +kernel
theorem dJ6_bitCount_0f7a4_15 : decode cJ6_bitCount_0f7a4 15 = .ok (.iload_n 0, 1) := by decide +kernel
theorem dJ6_bitCount_0f7a4_16 : decode cJ6_bitCount_0f7a4 16 = .ok (.iconst 2, 1) := by decide +kernel
theorem dJ6_bitCount_0f7a4_17 : decode cJ6_bitCount_0f7a4 17 = .ok (.iushr, 1) := by decide +kernel
theorem dJ6_bitCount_0f7a4_18 : decode cJ6_bitCount_0f7a4 18 = .ok (.ldc_w 266, 3) := by decide +kernel
