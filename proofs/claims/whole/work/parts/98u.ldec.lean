/-! THE LAW'S CODE AND LINKS (written by gen_law.py) -/
theorem dW_0 : decode code 0 = .ok (.new 8, 3) := by decide +kernel
theorem dW_3 : decode code 3 = .ok (.dup, 1) := by decide +kernel
theorem dW_4 : decode code 4 = .ok (.invokespecial 92, 3) := by decide +kernel
theorem dW_7 : decode code 7 = .ok (.astore_n 1, 1) := by decide +kernel
theorem dW_8 : decode code 8 = .ok (.new 93, 3) := by decide +kernel
theorem dW_11 : decode code 11 = .ok (.dup, 1) := by decide +kernel
theorem dW_12 : decode code 12 = .ok (.invokespecial 95, 3) := by decide +kernel
theorem dW_15 : decode code 15 = .ok (.astore_n 2, 1) := by decide +kernel
theorem dW_16 : decode code 16 = .ok (.iconst 1, 1) := by decide +kernel
theorem dW_17 : decode code 17 = .ok (.newarray .long, 2) := by decide +kernel
theorem dW_19 : decode code 19 = .ok (.astore_n 3, 1) := by decide +kernel
theorem dW_20 : decode code 20 = .ok (.iconst 0, 1) := by decide +kernel
theorem dW_21 : decode code 21 = .ok (.istore 4, 2) := by decide +kernel
theorem dW_23 : decode code 23 = .ok (.iload 4, 2) := by decide +kernel
theorem dW_25 : decode code 25 = .ok (.aload_n 0, 1) := by decide +kernel
theorem dW_26 : decode code 26 = .ok (.arraylength, 1) := by decide +kernel
theorem dW_27 : decode code 27 = .ok (.bipush 6, 2) := by decide +kernel
theorem dW_29 : decode code 29 = .ok (.isub, 1) := by decide +kernel
theorem dW_30 : decode code 30 = .ok (.if_icmp .gt 1942, 3) := by decide +kernel
theorem dW_33 : decode code 33 = .ok (.aload_n 0, 1) := by decide +kernel
theorem dW_34 : decode code 34 = .ok (.iload 4, 2) := by decide +kernel
theorem dW_36 : decode code 36 = .ok (.iaload, 1) := by decide +kernel
theorem dW_37 : decode code 37 = .ok (.bipush 31, 2) := by decide +kernel
theorem dW_39 : decode code 39 = .ok (.iand, 1) := by decide +kernel
theorem dW_180 : decode code 180 = .ok (.aload_n 1, 1) := by decide +kernel
theorem dW_181 : decode code 181 = .ok (.aload_n 0, 1) := by decide +kernel
theorem dW_182 : decode code 182 = .ok (.iload 4, 2) := by decide +kernel
theorem dW_184 : decode code 184 = .ok (.iconst 1, 1) := by decide +kernel
theorem dW_185 : decode code 185 = .ok (.iadd, 1) := by decide +kernel
theorem dW_186 : decode code 186 = .ok (.iaload, 1) := by decide +kernel
theorem dW_187 : decode code 187 = .ok (.aload_n 0, 1) := by decide +kernel
theorem dW_188 : decode code 188 = .ok (.iload 4, 2) := by decide +kernel
theorem dW_190 : decode code 190 = .ok (.iconst 2, 1) := by decide +kernel
theorem dW_191 : decode code 191 = .ok (.iadd, 1) := by decide +kernel
theorem dW_192 : decode code 192 = .ok (.iaload, 1) := by decide +kernel
theorem dW_193 : decode code 193 = .ok (.aload_n 0, 1) := by decide +kernel
theorem dW_194 : decode code 194 = .ok (.iload 4, 2) := by decide +kernel
theorem dW_196 : decode code 196 = .ok (.iconst 3, 1) := by decide +kernel
theorem dW_197 : decode code 197 = .ok (.iadd, 1) := by decide +kernel
theorem dW_198 : decode code 198 = .ok (.iaload, 1) := by decide +kernel
theorem dW_199 : decode code 199 = .ok (.aload_n 0, 1) := by decide +kernel
theorem dW_200 : decode code 200 = .ok (.iload 4, 2) := by decide +kernel
theorem dW_202 : decode code 202 = .ok (.iconst 4, 1) := by decide +kernel
theorem dW_203 : decode code 203 = .ok (.iadd, 1) := by decide +kernel
theorem dW_204 : decode code 204 = .ok (.iaload, 1) := by decide +kernel
theorem dW_205 : decode code 205 = .ok (.aload_n 0, 1) := by decide +kernel
theorem dW_206 : decode code 206 = .ok (.iload 4, 2) := by decide +kernel
theorem dW_208 : decode code 208 = .ok (.iconst 5, 1) := by decide +kernel
theorem dW_209 : decode code 209 = .ok (.iadd, 1) := by decide +kernel
theorem dW_210 : decode code 210 = .ok (.iaload, 1) := by decide +kernel
theorem dW_211 : decode code 211 = .ok (.invokevirtual 96, 3) := by decide +kernel
theorem dW_214 : decode code 214 = .ok (.aload_n 2, 1) := by decide +kernel
theorem dW_215 : decode code 215 = .ok (.aload_n 0, 1) := by decide +kernel
theorem dW_216 : decode code 216 = .ok (.iload 4, 2) := by decide +kernel
theorem dW_218 : decode code 218 = .ok (.iconst 1, 1) := by decide +kernel
theorem dW_219 : decode code 219 = .ok (.iadd, 1) := by decide +kernel
theorem dW_220 : decode code 220 = .ok (.iaload, 1) := by decide +kernel
theorem dW_221 : decode code 221 = .ok (.aload_n 0, 1) := by decide +kernel
theorem dW_222 : decode code 222 = .ok (.iload 4, 2) := by decide +kernel
theorem dW_224 : decode code 224 = .ok (.iconst 2, 1) := by decide +kernel
theorem dW_225 : decode code 225 = .ok (.iadd, 1) := by decide +kernel
theorem dW_226 : decode code 226 = .ok (.iaload, 1) := by decide +kernel
theorem dW_227 : decode code 227 = .ok (.aload_n 0, 1) := by decide +kernel
theorem dW_228 : decode code 228 = .ok (.iload 4, 2) := by decide +kernel
theorem dW_230 : decode code 230 = .ok (.iconst 3, 1) := by decide +kernel
theorem dW_231 : decode code 231 = .ok (.iadd, 1) := by decide +kernel
theorem dW_232 : decode code 232 = .ok (.iaload, 1) := by decide +kernel
theorem dW_233 : decode code 233 = .ok (.aload_n 0, 1) := by decide +kernel
theorem dW_234 : decode code 234 = .ok (.iload 4, 2) := by decide +kernel
theorem dW_236 : decode code 236 = .ok (.iconst 4, 1) := by decide +kernel
theorem dW_237 : decode code 237 = .ok (.iadd, 1) := by decide +kernel
theorem dW_238 : decode code 238 = .ok (.iaload, 1) := by decide +kernel
theorem dW_239 : decode code 239 = .ok (.aload_n 0, 1) := by decide +kernel
theorem dW_240 : decode code 240 = .ok (.iload 4, 2) := by decide +kernel
theorem dW_242 : decode code 242 = .ok (.iconst 5, 1) := by decide +kernel
theorem dW_243 : decode code 243 = .ok (.iadd, 1) := by decide +kernel
theorem dW_244 : decode code 244 = .ok (.iaload, 1) := by decide +kernel
theorem dW_245 : decode code 245 = .ok (.invokevirtual 99, 3) := by decide +kernel
theorem dW_248 : decode code 248 = .ok (.if_icmp .eq 1718, 3) := by decide +kernel
theorem dW_251 : decode code 251 = .ok (.iconst 0, 1) := by decide +kernel
theorem dW_253 : decode code 253 = .ok (.aload_n 1, 1) := by decide +kernel
theorem dW_254 : decode code 254 = .ok (.aload_n 0, 1) := by decide +kernel
theorem dW_255 : decode code 255 = .ok (.iload 4, 2) := by decide +kernel
theorem dW_257 : decode code 257 = .ok (.iconst 1, 1) := by decide +kernel
theorem dW_258 : decode code 258 = .ok (.iadd, 1) := by decide +kernel
theorem dW_259 : decode code 259 = .ok (.iaload, 1) := by decide +kernel
theorem dW_260 : decode code 260 = .ok (.invokevirtual 100, 3) := by decide +kernel
theorem dW_263 : decode code 263 = .ok (.aload_n 2, 1) := by decide +kernel
theorem dW_264 : decode code 264 = .ok (.aload_n 0, 1) := by decide +kernel
theorem dW_265 : decode code 265 = .ok (.iload 4, 2) := by decide +kernel
theorem dW_267 : decode code 267 = .ok (.iconst 1, 1) := by decide +kernel
theorem dW_268 : decode code 268 = .ok (.iadd, 1) := by decide +kernel
theorem dW_269 : decode code 269 = .ok (.iaload, 1) := by decide +kernel
theorem dW_270 : decode code 270 = .ok (.invokevirtual 104, 3) := by decide +kernel
theorem dW_273 : decode code 273 = .ok (.if_icmp .eq 1693, 3) := by decide +kernel
theorem dW_276 : decode code 276 = .ok (.iconst 0, 1) := by decide +kernel
theorem dW_278 : decode code 278 = .ok (.aload_n 1, 1) := by decide +kernel
theorem dW_279 : decode code 279 = .ok (.aload_n 3, 1) := by decide +kernel
theorem dW_280 : decode code 280 = .ok (.invokestatic 105, 3) := by decide +kernel
theorem dW_283 : decode code 283 = .ok (.istore 5, 2) := by decide +kernel
theorem dW_285 : decode code 285 = .ok (.aload_n 2, 1) := by decide +kernel
theorem dW_286 : decode code 286 = .ok (.invokevirtual 110, 3) := by decide +kernel
theorem dW_289 : decode code 289 = .ok (.istore 6, 2) := by decide +kernel
theorem dW_291 : decode code 291 = .ok (.aload_n 2, 1) := by decide +kernel
theorem dW_292 : decode code 292 = .ok (.invokevirtual 111, 3) := by decide +kernel
theorem dW_295 : decode code 295 = .ok (.iload 5, 2) := by decide +kernel
theorem dW_297 : decode code 297 = .ok (.if_icmp .eq 5, 3) := by decide +kernel
theorem dW_300 : decode code 300 = .ok (.iconst 0, 1) := by decide +kernel
theorem dW_302 : decode code 302 = .ok (.iload 5, 2) := by decide +kernel
theorem dW_304 : decode code 304 = .ok (.ifCond .ne 15, 3) := by decide +kernel
theorem dW_307 : decode code 307 = .ok (.aload_n 3, 1) := by decide +kernel
theorem dW_308 : decode code 308 = .ok (.iconst 0, 1) := by decide +kernel
theorem dW_309 : decode code 309 = .ok (.laload, 1) := by decide +kernel
theorem dW_310 : decode code 310 = .ok (.iload 6, 2) := by decide +kernel
theorem dW_312 : decode code 312 = .ok (.i2l, 1) := by decide +kernel
theorem dW_313 : decode code 313 = .ok (.lcmp, 1) := by decide +kernel
theorem dW_314 : decode code 314 = .ok (.ifCond .eq 5, 3) := by decide +kernel
theorem dW_317 : decode code 317 = .ok (.iconst 0, 1) := by decide +kernel
theorem dW_319 : decode code 319 = .ok (.goto 1647, 3) := by decide +kernel
theorem dW_322 : decode code 322 = .ok (.aload_n 1, 1) := by decide +kernel
theorem dW_323 : decode code 323 = .ok (.invokevirtual 114, 3) := by decide +kernel
theorem dW_326 : decode code 326 = .ok (.aload_n 2, 1) := by decide +kernel
theorem dW_327 : decode code 327 = .ok (.invokevirtual 117, 3) := by decide +kernel
theorem dW_330 : decode code 330 = .ok (.if_icmp .eq 1636, 3) := by decide +kernel
theorem dW_333 : decode code 333 = .ok (.iconst 0, 1) := by decide +kernel
theorem dW_335 : decode code 335 = .ok (.aload_n 1, 1) := by decide +kernel
theorem dW_336 : decode code 336 = .ok (.invokevirtual 118, 3) := by decide +kernel
theorem dW_339 : decode code 339 = .ok (.aload_n 2, 1) := by decide +kernel
theorem dW_340 : decode code 340 = .ok (.invokevirtual 121, 3) := by decide +kernel
theorem dW_343 : decode code 343 = .ok (.if_icmp .eq 1623, 3) := by decide +kernel
theorem dW_346 : decode code 346 = .ok (.iconst 0, 1) := by decide +kernel
theorem dW_348 : decode code 348 = .ok (.aload_n 1, 1) := by decide +kernel
theorem dW_349 : decode code 349 = .ok (.aload_n 0, 1) := by decide +kernel
theorem dW_350 : decode code 350 = .ok (.iload 4, 2) := by decide +kernel
theorem dW_352 : decode code 352 = .ok (.iconst 1, 1) := by decide +kernel
theorem dW_353 : decode code 353 = .ok (.iadd, 1) := by decide +kernel
theorem dW_354 : decode code 354 = .ok (.iaload, 1) := by decide +kernel
theorem dW_355 : decode code 355 = .ok (.aload_n 0, 1) := by decide +kernel
theorem dW_356 : decode code 356 = .ok (.iload 4, 2) := by decide +kernel
theorem dW_358 : decode code 358 = .ok (.iconst 2, 1) := by decide +kernel
theorem dW_359 : decode code 359 = .ok (.iadd, 1) := by decide +kernel
theorem dW_360 : decode code 360 = .ok (.iaload, 1) := by decide +kernel
theorem dW_361 : decode code 361 = .ok (.aload_n 0, 1) := by decide +kernel
theorem dW_362 : decode code 362 = .ok (.iload 4, 2) := by decide +kernel
theorem dW_364 : decode code 364 = .ok (.iconst 3, 1) := by decide +kernel
theorem dW_365 : decode code 365 = .ok (.iadd, 1) := by decide +kernel
theorem dW_366 : decode code 366 = .ok (.iaload, 1) := by decide +kernel
theorem dW_367 : decode code 367 = .ok (.aload_n 0, 1) := by decide +kernel
theorem dW_368 : decode code 368 = .ok (.iload 4, 2) := by decide +kernel
theorem dW_370 : decode code 370 = .ok (.iconst 4, 1) := by decide +kernel
theorem dW_371 : decode code 371 = .ok (.iadd, 1) := by decide +kernel
theorem dW_372 : decode code 372 = .ok (.iaload, 1) := by decide +kernel
theorem dW_373 : decode code 373 = .ok (.aload_n 3, 1) := by decide +kernel
theorem dW_374 : decode code 374 = .ok (.invokestatic 122, 3) := by decide +kernel
theorem dW_377 : decode code 377 = .ok (.istore 5, 2) := by decide +kernel
theorem dW_379 : decode code 379 = .ok (.aload_n 2, 1) := by decide +kernel
theorem dW_380 : decode code 380 = .ok (.aload_n 0, 1) := by decide +kernel
theorem dW_381 : decode code 381 = .ok (.iload 4, 2) := by decide +kernel
theorem dW_383 : decode code 383 = .ok (.iconst 1, 1) := by decide +kernel
theorem dW_384 : decode code 384 = .ok (.iadd, 1) := by decide +kernel
theorem dW_385 : decode code 385 = .ok (.iaload, 1) := by decide +kernel
theorem dW_386 : decode code 386 = .ok (.aload_n 0, 1) := by decide +kernel
theorem dW_387 : decode code 387 = .ok (.iload 4, 2) := by decide +kernel
theorem dW_389 : decode code 389 = .ok (.iconst 2, 1) := by decide +kernel
theorem dW_390 : decode code 390 = .ok (.iadd, 1) := by decide +kernel
theorem dW_391 : decode code 391 = .ok (.iaload, 1) := by decide +kernel
theorem dW_392 : decode code 392 = .ok (.aload_n 0, 1) := by decide +kernel
theorem dW_393 : decode code 393 = .ok (.iload 4, 2) := by decide +kernel
theorem dW_395 : decode code 395 = .ok (.iconst 3, 1) := by decide +kernel
theorem dW_396 : decode code 396 = .ok (.iadd, 1) := by decide +kernel
theorem dW_397 : decode code 397 = .ok (.iaload, 1) := by decide +kernel
theorem dW_398 : decode code 398 = .ok (.aload_n 0, 1) := by decide +kernel
theorem dW_399 : decode code 399 = .ok (.iload 4, 2) := by decide +kernel
theorem dW_401 : decode code 401 = .ok (.iconst 4, 1) := by decide +kernel
theorem dW_402 : decode code 402 = .ok (.iadd, 1) := by decide +kernel
theorem dW_403 : decode code 403 = .ok (.iaload, 1) := by decide +kernel
theorem dW_404 : decode code 404 = .ok (.invokevirtual 125, 3) := by decide +kernel
theorem dW_407 : decode code 407 = .ok (.istore 6, 2) := by decide +kernel
theorem dW_409 : decode code 409 = .ok (.aload_n 2, 1) := by decide +kernel
theorem dW_410 : decode code 410 = .ok (.invokevirtual 111, 3) := by decide +kernel
theorem dW_413 : decode code 413 = .ok (.iload 5, 2) := by decide +kernel
theorem dW_415 : decode code 415 = .ok (.if_icmp .eq 5, 3) := by decide +kernel
theorem dW_418 : decode code 418 = .ok (.iconst 0, 1) := by decide +kernel
theorem dW_420 : decode code 420 = .ok (.iload 5, 2) := by decide +kernel
theorem dW_422 : decode code 422 = .ok (.ifCond .ne 15, 3) := by decide +kernel
theorem dW_425 : decode code 425 = .ok (.aload_n 3, 1) := by decide +kernel
theorem dW_426 : decode code 426 = .ok (.iconst 0, 1) := by decide +kernel
theorem dW_427 : decode code 427 = .ok (.laload, 1) := by decide +kernel
theorem dW_428 : decode code 428 = .ok (.iload 6, 2) := by decide +kernel
theorem dW_430 : decode code 430 = .ok (.i2l, 1) := by decide +kernel
theorem dW_431 : decode code 431 = .ok (.lcmp, 1) := by decide +kernel
theorem dW_432 : decode code 432 = .ok (.ifCond .eq 5, 3) := by decide +kernel
theorem dW_435 : decode code 435 = .ok (.iconst 0, 1) := by decide +kernel
theorem dW_437 : decode code 437 = .ok (.goto 1529, 3) := by decide +kernel
theorem dW_440 : decode code 440 = .ok (.aload_n 1, 1) := by decide +kernel
theorem dW_441 : decode code 441 = .ok (.aload_n 0, 1) := by decide +kernel
theorem dW_442 : decode code 442 = .ok (.iload 4, 2) := by decide +kernel
theorem dW_444 : decode code 444 = .ok (.iconst 1, 1) := by decide +kernel
theorem dW_445 : decode code 445 = .ok (.iadd, 1) := by decide +kernel
theorem dW_446 : decode code 446 = .ok (.iaload, 1) := by decide +kernel
theorem dW_447 : decode code 447 = .ok (.aload_n 0, 1) := by decide +kernel
theorem dW_448 : decode code 448 = .ok (.iload 4, 2) := by decide +kernel
theorem dW_450 : decode code 450 = .ok (.iconst 2, 1) := by decide +kernel
theorem dW_451 : decode code 451 = .ok (.iadd, 1) := by decide +kernel
theorem dW_452 : decode code 452 = .ok (.iaload, 1) := by decide +kernel
theorem dW_453 : decode code 453 = .ok (.aload_n 3, 1) := by decide +kernel
theorem dW_454 : decode code 454 = .ok (.invokestatic 126, 3) := by decide +kernel
theorem dW_457 : decode code 457 = .ok (.istore 5, 2) := by decide +kernel
theorem dW_459 : decode code 459 = .ok (.aload_n 2, 1) := by decide +kernel
theorem dW_460 : decode code 460 = .ok (.aload_n 0, 1) := by decide +kernel
theorem dW_461 : decode code 461 = .ok (.iload 4, 2) := by decide +kernel
theorem dW_463 : decode code 463 = .ok (.iconst 1, 1) := by decide +kernel
theorem dW_464 : decode code 464 = .ok (.iadd, 1) := by decide +kernel
theorem dW_465 : decode code 465 = .ok (.iaload, 1) := by decide +kernel
theorem dW_466 : decode code 466 = .ok (.aload_n 0, 1) := by decide +kernel
theorem dW_467 : decode code 467 = .ok (.iload 4, 2) := by decide +kernel
theorem dW_469 : decode code 469 = .ok (.iconst 2, 1) := by decide +kernel
theorem dW_470 : decode code 470 = .ok (.iadd, 1) := by decide +kernel
theorem dW_471 : decode code 471 = .ok (.iaload, 1) := by decide +kernel
theorem dW_472 : decode code 472 = .ok (.invokevirtual 129, 3) := by decide +kernel
theorem dW_475 : decode code 475 = .ok (.istore 6, 2) := by decide +kernel
theorem dW_477 : decode code 477 = .ok (.aload_n 2, 1) := by decide +kernel
theorem dW_478 : decode code 478 = .ok (.invokevirtual 111, 3) := by decide +kernel
theorem dW_481 : decode code 481 = .ok (.iload 5, 2) := by decide +kernel
theorem dW_483 : decode code 483 = .ok (.if_icmp .eq 5, 3) := by decide +kernel
theorem dW_486 : decode code 486 = .ok (.iconst 0, 1) := by decide +kernel
theorem dW_488 : decode code 488 = .ok (.iload 5, 2) := by decide +kernel
theorem dW_490 : decode code 490 = .ok (.ifCond .ne 15, 3) := by decide +kernel
theorem dW_493 : decode code 493 = .ok (.aload_n 3, 1) := by decide +kernel
theorem dW_494 : decode code 494 = .ok (.iconst 0, 1) := by decide +kernel
theorem dW_495 : decode code 495 = .ok (.laload, 1) := by decide +kernel
theorem dW_496 : decode code 496 = .ok (.iload 6, 2) := by decide +kernel
theorem dW_498 : decode code 498 = .ok (.i2l, 1) := by decide +kernel
theorem dW_499 : decode code 499 = .ok (.lcmp, 1) := by decide +kernel
theorem dW_500 : decode code 500 = .ok (.ifCond .eq 5, 3) := by decide +kernel
theorem dW_503 : decode code 503 = .ok (.iconst 0, 1) := by decide +kernel
theorem dW_505 : decode code 505 = .ok (.goto 1461, 3) := by decide +kernel
theorem dW_508 : decode code 508 = .ok (.aload_n 1, 1) := by decide +kernel
theorem dW_509 : decode code 509 = .ok (.aload_n 0, 1) := by decide +kernel
theorem dW_510 : decode code 510 = .ok (.iload 4, 2) := by decide +kernel
theorem dW_512 : decode code 512 = .ok (.iconst 1, 1) := by decide +kernel
theorem dW_513 : decode code 513 = .ok (.iadd, 1) := by decide +kernel
theorem dW_514 : decode code 514 = .ok (.iaload, 1) := by decide +kernel
theorem dW_515 : decode code 515 = .ok (.aload_n 0, 1) := by decide +kernel
theorem dW_516 : decode code 516 = .ok (.iload 4, 2) := by decide +kernel
theorem dW_518 : decode code 518 = .ok (.iconst 2, 1) := by decide +kernel
theorem dW_519 : decode code 519 = .ok (.iadd, 1) := by decide +kernel
theorem dW_520 : decode code 520 = .ok (.iaload, 1) := by decide +kernel
theorem dW_521 : decode code 521 = .ok (.aload_n 3, 1) := by decide +kernel
theorem dW_522 : decode code 522 = .ok (.invokestatic 130, 3) := by decide +kernel
theorem dW_525 : decode code 525 = .ok (.istore 5, 2) := by decide +kernel
theorem dW_527 : decode code 527 = .ok (.aload_n 2, 1) := by decide +kernel
theorem dW_528 : decode code 528 = .ok (.aload_n 0, 1) := by decide +kernel
theorem dW_529 : decode code 529 = .ok (.iload 4, 2) := by decide +kernel
theorem dW_531 : decode code 531 = .ok (.iconst 1, 1) := by decide +kernel
theorem dW_532 : decode code 532 = .ok (.iadd, 1) := by decide +kernel
theorem dW_533 : decode code 533 = .ok (.iaload, 1) := by decide +kernel
theorem dW_534 : decode code 534 = .ok (.aload_n 0, 1) := by decide +kernel
theorem dW_535 : decode code 535 = .ok (.iload 4, 2) := by decide +kernel
theorem dW_537 : decode code 537 = .ok (.iconst 2, 1) := by decide +kernel
theorem dW_538 : decode code 538 = .ok (.iadd, 1) := by decide +kernel
theorem dW_539 : decode code 539 = .ok (.iaload, 1) := by decide +kernel
theorem dW_540 : decode code 540 = .ok (.invokevirtual 132, 3) := by decide +kernel
theorem dW_543 : decode code 543 = .ok (.istore 6, 2) := by decide +kernel
theorem dW_545 : decode code 545 = .ok (.aload_n 2, 1) := by decide +kernel
theorem dW_546 : decode code 546 = .ok (.invokevirtual 111, 3) := by decide +kernel
theorem dW_549 : decode code 549 = .ok (.iload 5, 2) := by decide +kernel
theorem dW_551 : decode code 551 = .ok (.if_icmp .eq 5, 3) := by decide +kernel
theorem dW_554 : decode code 554 = .ok (.iconst 0, 1) := by decide +kernel
theorem dW_556 : decode code 556 = .ok (.iload 5, 2) := by decide +kernel
theorem dW_558 : decode code 558 = .ok (.ifCond .ne 15, 3) := by decide +kernel
theorem dW_561 : decode code 561 = .ok (.aload_n 3, 1) := by decide +kernel
theorem dW_562 : decode code 562 = .ok (.iconst 0, 1) := by decide +kernel
theorem dW_563 : decode code 563 = .ok (.laload, 1) := by decide +kernel
theorem dW_564 : decode code 564 = .ok (.iload 6, 2) := by decide +kernel
theorem dW_566 : decode code 566 = .ok (.i2l, 1) := by decide +kernel
theorem dW_567 : decode code 567 = .ok (.lcmp, 1) := by decide +kernel
theorem dW_568 : decode code 568 = .ok (.ifCond .eq 5, 3) := by decide +kernel
theorem dW_571 : decode code 571 = .ok (.iconst 0, 1) := by decide +kernel
theorem dW_573 : decode code 573 = .ok (.goto 1393, 3) := by decide +kernel
theorem dW_576 : decode code 576 = .ok (.aload_n 1, 1) := by decide +kernel
theorem dW_577 : decode code 577 = .ok (.aload_n 3, 1) := by decide +kernel
theorem dW_578 : decode code 578 = .ok (.invokestatic 133, 3) := by decide +kernel
theorem dW_581 : decode code 581 = .ok (.istore 5, 2) := by decide +kernel
theorem dW_583 : decode code 583 = .ok (.aload_n 2, 1) := by decide +kernel
theorem dW_584 : decode code 584 = .ok (.invokevirtual 135, 3) := by decide +kernel
theorem dW_587 : decode code 587 = .ok (.istore 6, 2) := by decide +kernel
theorem dW_589 : decode code 589 = .ok (.aload_n 2, 1) := by decide +kernel
theorem dW_590 : decode code 590 = .ok (.invokevirtual 111, 3) := by decide +kernel
theorem dW_593 : decode code 593 = .ok (.iload 5, 2) := by decide +kernel
theorem dW_595 : decode code 595 = .ok (.if_icmp .eq 5, 3) := by decide +kernel
theorem dW_598 : decode code 598 = .ok (.iconst 0, 1) := by decide +kernel
theorem dW_600 : decode code 600 = .ok (.iload 5, 2) := by decide +kernel
theorem dW_602 : decode code 602 = .ok (.ifCond .ne 15, 3) := by decide +kernel
theorem dW_605 : decode code 605 = .ok (.aload_n 3, 1) := by decide +kernel
theorem dW_606 : decode code 606 = .ok (.iconst 0, 1) := by decide +kernel
theorem dW_607 : decode code 607 = .ok (.laload, 1) := by decide +kernel
theorem dW_608 : decode code 608 = .ok (.iload 6, 2) := by decide +kernel
theorem dW_610 : decode code 610 = .ok (.i2l, 1) := by decide +kernel
theorem dW_611 : decode code 611 = .ok (.lcmp, 1) := by decide +kernel
theorem dW_612 : decode code 612 = .ok (.ifCond .eq 5, 3) := by decide +kernel
theorem dW_615 : decode code 615 = .ok (.iconst 0, 1) := by decide +kernel
theorem dW_617 : decode code 617 = .ok (.goto 1349, 3) := by decide +kernel
theorem dW_620 : decode code 620 = .ok (.aload_n 1, 1) := by decide +kernel
theorem dW_621 : decode code 621 = .ok (.aload_n 0, 1) := by decide +kernel
theorem dW_622 : decode code 622 = .ok (.iload 4, 2) := by decide +kernel
theorem dW_624 : decode code 624 = .ok (.iconst 1, 1) := by decide +kernel
theorem dW_625 : decode code 625 = .ok (.iadd, 1) := by decide +kernel
theorem dW_626 : decode code 626 = .ok (.iaload, 1) := by decide +kernel
theorem dW_627 : decode code 627 = .ok (.aload_n 0, 1) := by decide +kernel
theorem dW_628 : decode code 628 = .ok (.iload 4, 2) := by decide +kernel
theorem dW_630 : decode code 630 = .ok (.iconst 2, 1) := by decide +kernel
theorem dW_631 : decode code 631 = .ok (.iadd, 1) := by decide +kernel
theorem dW_632 : decode code 632 = .ok (.iaload, 1) := by decide +kernel
theorem dW_633 : decode code 633 = .ok (.aload_n 3, 1) := by decide +kernel
theorem dW_634 : decode code 634 = .ok (.invokestatic 136, 3) := by decide +kernel
theorem dW_637 : decode code 637 = .ok (.istore 5, 2) := by decide +kernel
theorem dW_639 : decode code 639 = .ok (.aload_n 2, 1) := by decide +kernel
theorem dW_640 : decode code 640 = .ok (.aload_n 0, 1) := by decide +kernel
theorem dW_641 : decode code 641 = .ok (.iload 4, 2) := by decide +kernel
theorem dW_643 : decode code 643 = .ok (.iconst 1, 1) := by decide +kernel
theorem dW_644 : decode code 644 = .ok (.iadd, 1) := by decide +kernel
theorem dW_645 : decode code 645 = .ok (.iaload, 1) := by decide +kernel
theorem dW_646 : decode code 646 = .ok (.aload_n 0, 1) := by decide +kernel
theorem dW_647 : decode code 647 = .ok (.iload 4, 2) := by decide +kernel
theorem dW_649 : decode code 649 = .ok (.iconst 2, 1) := by decide +kernel
theorem dW_650 : decode code 650 = .ok (.iadd, 1) := by decide +kernel
theorem dW_651 : decode code 651 = .ok (.iaload, 1) := by decide +kernel
theorem dW_652 : decode code 652 = .ok (.invokevirtual 138, 3) := by decide +kernel
theorem dW_655 : decode code 655 = .ok (.istore 6, 2) := by decide +kernel
theorem dW_657 : decode code 657 = .ok (.aload_n 2, 1) := by decide +kernel
theorem dW_658 : decode code 658 = .ok (.invokevirtual 111, 3) := by decide +kernel
theorem dW_661 : decode code 661 = .ok (.iload 5, 2) := by decide +kernel
theorem dW_663 : decode code 663 = .ok (.if_icmp .eq 5, 3) := by decide +kernel
theorem dW_666 : decode code 666 = .ok (.iconst 0, 1) := by decide +kernel
theorem dW_668 : decode code 668 = .ok (.iload 5, 2) := by decide +kernel
theorem dW_670 : decode code 670 = .ok (.ifCond .ne 15, 3) := by decide +kernel
theorem dW_673 : decode code 673 = .ok (.aload_n 3, 1) := by decide +kernel
theorem dW_674 : decode code 674 = .ok (.iconst 0, 1) := by decide +kernel
theorem dW_675 : decode code 675 = .ok (.laload, 1) := by decide +kernel
theorem dW_676 : decode code 676 = .ok (.iload 6, 2) := by decide +kernel
theorem dW_678 : decode code 678 = .ok (.i2l, 1) := by decide +kernel
theorem dW_679 : decode code 679 = .ok (.lcmp, 1) := by decide +kernel
theorem dW_680 : decode code 680 = .ok (.ifCond .eq 5, 3) := by decide +kernel
theorem dW_683 : decode code 683 = .ok (.iconst 0, 1) := by decide +kernel
theorem dW_685 : decode code 685 = .ok (.goto 1281, 3) := by decide +kernel
theorem dW_688 : decode code 688 = .ok (.aload_n 1, 1) := by decide +kernel
theorem dW_689 : decode code 689 = .ok (.aload_n 0, 1) := by decide +kernel
theorem dW_690 : decode code 690 = .ok (.iload 4, 2) := by decide +kernel
theorem dW_692 : decode code 692 = .ok (.iconst 1, 1) := by decide +kernel
theorem dW_693 : decode code 693 = .ok (.iadd, 1) := by decide +kernel
theorem dW_694 : decode code 694 = .ok (.iaload, 1) := by decide +kernel
theorem dW_695 : decode code 695 = .ok (.aload_n 3, 1) := by decide +kernel
theorem dW_696 : decode code 696 = .ok (.invokestatic 139, 3) := by decide +kernel
theorem dW_699 : decode code 699 = .ok (.istore 5, 2) := by decide +kernel
theorem dW_701 : decode code 701 = .ok (.aload_n 2, 1) := by decide +kernel
theorem dW_702 : decode code 702 = .ok (.aload_n 0, 1) := by decide +kernel
theorem dW_703 : decode code 703 = .ok (.iload 4, 2) := by decide +kernel
theorem dW_705 : decode code 705 = .ok (.iconst 1, 1) := by decide +kernel
theorem dW_706 : decode code 706 = .ok (.iadd, 1) := by decide +kernel
theorem dW_707 : decode code 707 = .ok (.iaload, 1) := by decide +kernel
theorem dW_708 : decode code 708 = .ok (.invokevirtual 142, 3) := by decide +kernel
theorem dW_711 : decode code 711 = .ok (.istore 6, 2) := by decide +kernel
theorem dW_713 : decode code 713 = .ok (.aload_n 2, 1) := by decide +kernel
theorem dW_714 : decode code 714 = .ok (.invokevirtual 111, 3) := by decide +kernel
theorem dW_717 : decode code 717 = .ok (.iload 5, 2) := by decide +kernel
theorem dW_719 : decode code 719 = .ok (.if_icmp .eq 5, 3) := by decide +kernel
theorem dW_722 : decode code 722 = .ok (.iconst 0, 1) := by decide +kernel
theorem dW_724 : decode code 724 = .ok (.iload 5, 2) := by decide +kernel
theorem dW_726 : decode code 726 = .ok (.ifCond .ne 15, 3) := by decide +kernel
theorem dW_729 : decode code 729 = .ok (.aload_n 3, 1) := by decide +kernel
theorem dW_730 : decode code 730 = .ok (.iconst 0, 1) := by decide +kernel
theorem dW_731 : decode code 731 = .ok (.laload, 1) := by decide +kernel
theorem dW_732 : decode code 732 = .ok (.iload 6, 2) := by decide +kernel
theorem dW_734 : decode code 734 = .ok (.i2l, 1) := by decide +kernel
theorem dW_735 : decode code 735 = .ok (.lcmp, 1) := by decide +kernel
theorem dW_736 : decode code 736 = .ok (.ifCond .eq 5, 3) := by decide +kernel
theorem dW_739 : decode code 739 = .ok (.iconst 0, 1) := by decide +kernel
theorem dW_741 : decode code 741 = .ok (.goto 1225, 3) := by decide +kernel
theorem dW_744 : decode code 744 = .ok (.aload_n 1, 1) := by decide +kernel
theorem dW_745 : decode code 745 = .ok (.invokevirtual 143, 3) := by decide +kernel
theorem dW_748 : decode code 748 = .ok (.aload_n 2, 1) := by decide +kernel
theorem dW_749 : decode code 749 = .ok (.invokevirtual 146, 3) := by decide +kernel
theorem dW_752 : decode code 752 = .ok (.if_icmp .eq 1214, 3) := by decide +kernel
theorem dW_755 : decode code 755 = .ok (.iconst 0, 1) := by decide +kernel
theorem dW_757 : decode code 757 = .ok (.aload_n 1, 1) := by decide +kernel
theorem dW_758 : decode code 758 = .ok (.aload_n 3, 1) := by decide +kernel
theorem dW_759 : decode code 759 = .ok (.invokestatic 147, 3) := by decide +kernel
theorem dW_762 : decode code 762 = .ok (.istore 5, 2) := by decide +kernel
theorem dW_764 : decode code 764 = .ok (.aload_n 2, 1) := by decide +kernel
theorem dW_765 : decode code 765 = .ok (.invokevirtual 149, 3) := by decide +kernel
theorem dW_768 : decode code 768 = .ok (.istore 6, 2) := by decide +kernel
theorem dW_770 : decode code 770 = .ok (.aload_n 2, 1) := by decide +kernel
theorem dW_771 : decode code 771 = .ok (.invokevirtual 111, 3) := by decide +kernel
theorem dW_774 : decode code 774 = .ok (.iload 5, 2) := by decide +kernel
theorem dW_776 : decode code 776 = .ok (.if_icmp .eq 5, 3) := by decide +kernel
theorem dW_779 : decode code 779 = .ok (.iconst 0, 1) := by decide +kernel
theorem dW_781 : decode code 781 = .ok (.iload 5, 2) := by decide +kernel
theorem dW_783 : decode code 783 = .ok (.ifCond .ne 15, 3) := by decide +kernel
theorem dW_786 : decode code 786 = .ok (.aload_n 3, 1) := by decide +kernel
theorem dW_787 : decode code 787 = .ok (.iconst 0, 1) := by decide +kernel
theorem dW_788 : decode code 788 = .ok (.laload, 1) := by decide +kernel
theorem dW_789 : decode code 789 = .ok (.iload 6, 2) := by decide +kernel
theorem dW_791 : decode code 791 = .ok (.i2l, 1) := by decide +kernel
theorem dW_792 : decode code 792 = .ok (.lcmp, 1) := by decide +kernel
theorem dW_793 : decode code 793 = .ok (.ifCond .eq 5, 3) := by decide +kernel
theorem dW_796 : decode code 796 = .ok (.iconst 0, 1) := by decide +kernel
theorem dW_798 : decode code 798 = .ok (.goto 1168, 3) := by decide +kernel
theorem dW_801 : decode code 801 = .ok (.aload_n 1, 1) := by decide +kernel
theorem dW_802 : decode code 802 = .ok (.aload_n 0, 1) := by decide +kernel
theorem dW_803 : decode code 803 = .ok (.iload 4, 2) := by decide +kernel
theorem dW_805 : decode code 805 = .ok (.iconst 1, 1) := by decide +kernel
theorem dW_806 : decode code 806 = .ok (.iadd, 1) := by decide +kernel
theorem dW_807 : decode code 807 = .ok (.iaload, 1) := by decide +kernel
theorem dW_808 : decode code 808 = .ok (.aload_n 0, 1) := by decide +kernel
theorem dW_809 : decode code 809 = .ok (.iload 4, 2) := by decide +kernel
theorem dW_811 : decode code 811 = .ok (.iconst 2, 1) := by decide +kernel
theorem dW_812 : decode code 812 = .ok (.iadd, 1) := by decide +kernel
theorem dW_813 : decode code 813 = .ok (.iaload, 1) := by decide +kernel
theorem dW_814 : decode code 814 = .ok (.aload_n 3, 1) := by decide +kernel
theorem dW_815 : decode code 815 = .ok (.invokestatic 150, 3) := by decide +kernel
theorem dW_818 : decode code 818 = .ok (.istore 5, 2) := by decide +kernel
theorem dW_820 : decode code 820 = .ok (.aload_n 2, 1) := by decide +kernel
theorem dW_821 : decode code 821 = .ok (.aload_n 0, 1) := by decide +kernel
theorem dW_822 : decode code 822 = .ok (.iload 4, 2) := by decide +kernel
theorem dW_824 : decode code 824 = .ok (.iconst 1, 1) := by decide +kernel
theorem dW_825 : decode code 825 = .ok (.iadd, 1) := by decide +kernel
theorem dW_826 : decode code 826 = .ok (.iaload, 1) := by decide +kernel
theorem dW_827 : decode code 827 = .ok (.aload_n 0, 1) := by decide +kernel
theorem dW_828 : decode code 828 = .ok (.iload 4, 2) := by decide +kernel
theorem dW_830 : decode code 830 = .ok (.iconst 2, 1) := by decide +kernel
theorem dW_831 : decode code 831 = .ok (.iadd, 1) := by decide +kernel
theorem dW_832 : decode code 832 = .ok (.iaload, 1) := by decide +kernel
theorem dW_833 : decode code 833 = .ok (.invokevirtual 152, 3) := by decide +kernel
theorem dW_836 : decode code 836 = .ok (.istore 6, 2) := by decide +kernel
theorem dW_838 : decode code 838 = .ok (.aload_n 2, 1) := by decide +kernel
theorem dW_839 : decode code 839 = .ok (.invokevirtual 111, 3) := by decide +kernel
theorem dW_842 : decode code 842 = .ok (.iload 5, 2) := by decide +kernel
theorem dW_844 : decode code 844 = .ok (.if_icmp .eq 5, 3) := by decide +kernel
theorem dW_847 : decode code 847 = .ok (.iconst 0, 1) := by decide +kernel
theorem dW_849 : decode code 849 = .ok (.iload 5, 2) := by decide +kernel
theorem dW_851 : decode code 851 = .ok (.ifCond .ne 15, 3) := by decide +kernel
theorem dW_854 : decode code 854 = .ok (.aload_n 3, 1) := by decide +kernel
theorem dW_855 : decode code 855 = .ok (.iconst 0, 1) := by decide +kernel
theorem dW_856 : decode code 856 = .ok (.laload, 1) := by decide +kernel
theorem dW_857 : decode code 857 = .ok (.iload 6, 2) := by decide +kernel
theorem dW_859 : decode code 859 = .ok (.i2l, 1) := by decide +kernel
theorem dW_860 : decode code 860 = .ok (.lcmp, 1) := by decide +kernel
theorem dW_861 : decode code 861 = .ok (.ifCond .eq 5, 3) := by decide +kernel
theorem dW_864 : decode code 864 = .ok (.iconst 0, 1) := by decide +kernel
theorem dW_866 : decode code 866 = .ok (.goto 1100, 3) := by decide +kernel
theorem dW_869 : decode code 869 = .ok (.aload_n 1, 1) := by decide +kernel
theorem dW_870 : decode code 870 = .ok (.aload_n 0, 1) := by decide +kernel
theorem dW_871 : decode code 871 = .ok (.iload 4, 2) := by decide +kernel
theorem dW_873 : decode code 873 = .ok (.iconst 1, 1) := by decide +kernel
theorem dW_874 : decode code 874 = .ok (.iadd, 1) := by decide +kernel
theorem dW_875 : decode code 875 = .ok (.iaload, 1) := by decide +kernel
theorem dW_876 : decode code 876 = .ok (.aload_n 0, 1) := by decide +kernel
theorem dW_877 : decode code 877 = .ok (.iload 4, 2) := by decide +kernel
theorem dW_879 : decode code 879 = .ok (.iconst 2, 1) := by decide +kernel
theorem dW_880 : decode code 880 = .ok (.iadd, 1) := by decide +kernel
theorem dW_881 : decode code 881 = .ok (.iaload, 1) := by decide +kernel
theorem dW_882 : decode code 882 = .ok (.aload_n 0, 1) := by decide +kernel
theorem dW_883 : decode code 883 = .ok (.iload 4, 2) := by decide +kernel
theorem dW_885 : decode code 885 = .ok (.iconst 3, 1) := by decide +kernel
theorem dW_886 : decode code 886 = .ok (.iadd, 1) := by decide +kernel
theorem dW_887 : decode code 887 = .ok (.iaload, 1) := by decide +kernel
theorem dW_888 : decode code 888 = .ok (.aload_n 3, 1) := by decide +kernel
theorem dW_889 : decode code 889 = .ok (.invokestatic 153, 3) := by decide +kernel
theorem dW_892 : decode code 892 = .ok (.istore 5, 2) := by decide +kernel
theorem dW_894 : decode code 894 = .ok (.aload_n 2, 1) := by decide +kernel
theorem dW_895 : decode code 895 = .ok (.aload_n 0, 1) := by decide +kernel
theorem dW_896 : decode code 896 = .ok (.iload 4, 2) := by decide +kernel
theorem dW_898 : decode code 898 = .ok (.iconst 1, 1) := by decide +kernel
theorem dW_899 : decode code 899 = .ok (.iadd, 1) := by decide +kernel
theorem dW_900 : decode code 900 = .ok (.iaload, 1) := by decide +kernel
theorem dW_901 : decode code 901 = .ok (.aload_n 0, 1) := by decide +kernel
theorem dW_902 : decode code 902 = .ok (.iload 4, 2) := by decide +kernel
theorem dW_904 : decode code 904 = .ok (.iconst 2, 1) := by decide +kernel
theorem dW_905 : decode code 905 = .ok (.iadd, 1) := by decide +kernel
theorem dW_906 : decode code 906 = .ok (.iaload, 1) := by decide +kernel
theorem dW_907 : decode code 907 = .ok (.aload_n 0, 1) := by decide +kernel
theorem dW_908 : decode code 908 = .ok (.iload 4, 2) := by decide +kernel
theorem dW_910 : decode code 910 = .ok (.iconst 3, 1) := by decide +kernel
theorem dW_911 : decode code 911 = .ok (.iadd, 1) := by decide +kernel
theorem dW_912 : decode code 912 = .ok (.iaload, 1) := by decide +kernel
theorem dW_913 : decode code 913 = .ok (.invokevirtual 156, 3) := by decide +kernel
theorem dW_916 : decode code 916 = .ok (.istore 6, 2) := by decide +kernel
theorem dW_918 : decode code 918 = .ok (.aload_n 2, 1) := by decide +kernel
theorem dW_919 : decode code 919 = .ok (.invokevirtual 111, 3) := by decide +kernel
theorem dW_922 : decode code 922 = .ok (.iload 5, 2) := by decide +kernel
theorem dW_924 : decode code 924 = .ok (.if_icmp .eq 5, 3) := by decide +kernel
theorem dW_927 : decode code 927 = .ok (.iconst 0, 1) := by decide +kernel
theorem dW_929 : decode code 929 = .ok (.iload 5, 2) := by decide +kernel
theorem dW_931 : decode code 931 = .ok (.ifCond .ne 15, 3) := by decide +kernel
theorem dW_934 : decode code 934 = .ok (.aload_n 3, 1) := by decide +kernel
theorem dW_935 : decode code 935 = .ok (.iconst 0, 1) := by decide +kernel
theorem dW_936 : decode code 936 = .ok (.laload, 1) := by decide +kernel
theorem dW_937 : decode code 937 = .ok (.iload 6, 2) := by decide +kernel
theorem dW_939 : decode code 939 = .ok (.i2l, 1) := by decide +kernel
theorem dW_940 : decode code 940 = .ok (.lcmp, 1) := by decide +kernel
theorem dW_941 : decode code 941 = .ok (.ifCond .eq 5, 3) := by decide +kernel
theorem dW_944 : decode code 944 = .ok (.iconst 0, 1) := by decide +kernel
theorem dW_946 : decode code 946 = .ok (.goto 1020, 3) := by decide +kernel
theorem dW_949 : decode code 949 = .ok (.aload_n 1, 1) := by decide +kernel
theorem dW_950 : decode code 950 = .ok (.aload_n 0, 1) := by decide +kernel
theorem dW_951 : decode code 951 = .ok (.iload 4, 2) := by decide +kernel
theorem dW_953 : decode code 953 = .ok (.iconst 1, 1) := by decide +kernel
theorem dW_954 : decode code 954 = .ok (.iadd, 1) := by decide +kernel
theorem dW_955 : decode code 955 = .ok (.iaload, 1) := by decide +kernel
theorem dW_956 : decode code 956 = .ok (.aload_n 0, 1) := by decide +kernel
theorem dW_957 : decode code 957 = .ok (.iload 4, 2) := by decide +kernel
theorem dW_959 : decode code 959 = .ok (.iconst 2, 1) := by decide +kernel
theorem dW_960 : decode code 960 = .ok (.iadd, 1) := by decide +kernel
theorem dW_961 : decode code 961 = .ok (.iaload, 1) := by decide +kernel
theorem dW_962 : decode code 962 = .ok (.aload_n 0, 1) := by decide +kernel
theorem dW_963 : decode code 963 = .ok (.iload 4, 2) := by decide +kernel
theorem dW_965 : decode code 965 = .ok (.iconst 3, 1) := by decide +kernel
theorem dW_966 : decode code 966 = .ok (.iadd, 1) := by decide +kernel
theorem dW_967 : decode code 967 = .ok (.iaload, 1) := by decide +kernel
theorem dW_968 : decode code 968 = .ok (.aload_n 3, 1) := by decide +kernel
theorem dW_969 : decode code 969 = .ok (.invokestatic 157, 3) := by decide +kernel
theorem dW_972 : decode code 972 = .ok (.istore 5, 2) := by decide +kernel
theorem dW_974 : decode code 974 = .ok (.aload_n 2, 1) := by decide +kernel
theorem dW_975 : decode code 975 = .ok (.aload_n 0, 1) := by decide +kernel
theorem dW_976 : decode code 976 = .ok (.iload 4, 2) := by decide +kernel
theorem dW_978 : decode code 978 = .ok (.iconst 1, 1) := by decide +kernel
theorem dW_979 : decode code 979 = .ok (.iadd, 1) := by decide +kernel
theorem dW_980 : decode code 980 = .ok (.iaload, 1) := by decide +kernel
theorem dW_981 : decode code 981 = .ok (.aload_n 0, 1) := by decide +kernel
theorem dW_982 : decode code 982 = .ok (.iload 4, 2) := by decide +kernel
theorem dW_984 : decode code 984 = .ok (.iconst 2, 1) := by decide +kernel
theorem dW_985 : decode code 985 = .ok (.iadd, 1) := by decide +kernel
theorem dW_986 : decode code 986 = .ok (.iaload, 1) := by decide +kernel
theorem dW_987 : decode code 987 = .ok (.aload_n 0, 1) := by decide +kernel
theorem dW_988 : decode code 988 = .ok (.iload 4, 2) := by decide +kernel
theorem dW_990 : decode code 990 = .ok (.iconst 3, 1) := by decide +kernel
theorem dW_991 : decode code 991 = .ok (.iadd, 1) := by decide +kernel
theorem dW_992 : decode code 992 = .ok (.iaload, 1) := by decide +kernel
theorem dW_993 : decode code 993 = .ok (.invokevirtual 159, 3) := by decide +kernel
theorem dW_996 : decode code 996 = .ok (.istore 6, 2) := by decide +kernel
theorem dW_998 : decode code 998 = .ok (.aload_n 2, 1) := by decide +kernel
theorem dW_999 : decode code 999 = .ok (.invokevirtual 111, 3) := by decide +kernel
theorem dW_1002 : decode code 1002 = .ok (.iload 5, 2) := by decide +kernel
theorem dW_1004 : decode code 1004 = .ok (.if_icmp .eq 5, 3) := by decide +kernel
theorem dW_1007 : decode code 1007 = .ok (.iconst 0, 1) := by decide +kernel
theorem dW_1009 : decode code 1009 = .ok (.iload 5, 2) := by decide +kernel
theorem dW_1011 : decode code 1011 = .ok (.ifCond .ne 15, 3) := by decide +kernel
theorem dW_1014 : decode code 1014 = .ok (.aload_n 3, 1) := by decide +kernel
theorem dW_1015 : decode code 1015 = .ok (.iconst 0, 1) := by decide +kernel
theorem dW_1016 : decode code 1016 = .ok (.laload, 1) := by decide +kernel
theorem dW_1017 : decode code 1017 = .ok (.iload 6, 2) := by decide +kernel
theorem dW_1019 : decode code 1019 = .ok (.i2l, 1) := by decide +kernel
theorem dW_1020 : decode code 1020 = .ok (.lcmp, 1) := by decide +kernel
theorem dW_1021 : decode code 1021 = .ok (.ifCond .eq 5, 3) := by decide +kernel
theorem dW_1024 : decode code 1024 = .ok (.iconst 0, 1) := by decide +kernel
theorem dW_1026 : decode code 1026 = .ok (.goto 940, 3) := by decide +kernel
theorem dW_1029 : decode code 1029 = .ok (.aload_n 1, 1) := by decide +kernel
theorem dW_1030 : decode code 1030 = .ok (.aload_n 0, 1) := by decide +kernel
theorem dW_1031 : decode code 1031 = .ok (.iload 4, 2) := by decide +kernel
theorem dW_1033 : decode code 1033 = .ok (.iconst 1, 1) := by decide +kernel
theorem dW_1034 : decode code 1034 = .ok (.iadd, 1) := by decide +kernel
theorem dW_1035 : decode code 1035 = .ok (.iaload, 1) := by decide +kernel
theorem dW_1036 : decode code 1036 = .ok (.aload_n 0, 1) := by decide +kernel
theorem dW_1037 : decode code 1037 = .ok (.iload 4, 2) := by decide +kernel
theorem dW_1039 : decode code 1039 = .ok (.iconst 2, 1) := by decide +kernel
theorem dW_1040 : decode code 1040 = .ok (.iadd, 1) := by decide +kernel
theorem dW_1041 : decode code 1041 = .ok (.iaload, 1) := by decide +kernel
theorem dW_1042 : decode code 1042 = .ok (.aload_n 3, 1) := by decide +kernel
theorem dW_1043 : decode code 1043 = .ok (.invokestatic 160, 3) := by decide +kernel
theorem dW_1046 : decode code 1046 = .ok (.istore 5, 2) := by decide +kernel
theorem dW_1048 : decode code 1048 = .ok (.aload_n 2, 1) := by decide +kernel
theorem dW_1049 : decode code 1049 = .ok (.aload_n 0, 1) := by decide +kernel
theorem dW_1050 : decode code 1050 = .ok (.iload 4, 2) := by decide +kernel
theorem dW_1052 : decode code 1052 = .ok (.iconst 1, 1) := by decide +kernel
theorem dW_1053 : decode code 1053 = .ok (.iadd, 1) := by decide +kernel
theorem dW_1054 : decode code 1054 = .ok (.iaload, 1) := by decide +kernel
theorem dW_1055 : decode code 1055 = .ok (.aload_n 0, 1) := by decide +kernel
theorem dW_1056 : decode code 1056 = .ok (.iload 4, 2) := by decide +kernel
theorem dW_1058 : decode code 1058 = .ok (.iconst 2, 1) := by decide +kernel
theorem dW_1059 : decode code 1059 = .ok (.iadd, 1) := by decide +kernel
theorem dW_1060 : decode code 1060 = .ok (.iaload, 1) := by decide +kernel
theorem dW_1061 : decode code 1061 = .ok (.invokevirtual 162, 3) := by decide +kernel
theorem dW_1064 : decode code 1064 = .ok (.istore 6, 2) := by decide +kernel
theorem dW_1066 : decode code 1066 = .ok (.aload_n 2, 1) := by decide +kernel
theorem dW_1067 : decode code 1067 = .ok (.invokevirtual 111, 3) := by decide +kernel
theorem dW_1070 : decode code 1070 = .ok (.iload 5, 2) := by decide +kernel
theorem dW_1072 : decode code 1072 = .ok (.if_icmp .eq 5, 3) := by decide +kernel
theorem dW_1075 : decode code 1075 = .ok (.iconst 0, 1) := by decide +kernel
theorem dW_1077 : decode code 1077 = .ok (.iload 5, 2) := by decide +kernel
theorem dW_1079 : decode code 1079 = .ok (.ifCond .ne 15, 3) := by decide +kernel
theorem dW_1082 : decode code 1082 = .ok (.aload_n 3, 1) := by decide +kernel
theorem dW_1083 : decode code 1083 = .ok (.iconst 0, 1) := by decide +kernel
theorem dW_1084 : decode code 1084 = .ok (.laload, 1) := by decide +kernel
theorem dW_1085 : decode code 1085 = .ok (.iload 6, 2) := by decide +kernel
theorem dW_1087 : decode code 1087 = .ok (.i2l, 1) := by decide +kernel
theorem dW_1088 : decode code 1088 = .ok (.lcmp, 1) := by decide +kernel
theorem dW_1089 : decode code 1089 = .ok (.ifCond .eq 5, 3) := by decide +kernel
theorem dW_1092 : decode code 1092 = .ok (.iconst 0, 1) := by decide +kernel
theorem dW_1094 : decode code 1094 = .ok (.goto 872, 3) := by decide +kernel
theorem dW_1097 : decode code 1097 = .ok (.aload_n 1, 1) := by decide +kernel
theorem dW_1098 : decode code 1098 = .ok (.aload_n 0, 1) := by decide +kernel
theorem dW_1099 : decode code 1099 = .ok (.iload 4, 2) := by decide +kernel
theorem dW_1101 : decode code 1101 = .ok (.iconst 1, 1) := by decide +kernel
theorem dW_1102 : decode code 1102 = .ok (.iadd, 1) := by decide +kernel
theorem dW_1103 : decode code 1103 = .ok (.iaload, 1) := by decide +kernel
theorem dW_1104 : decode code 1104 = .ok (.aload_n 0, 1) := by decide +kernel
theorem dW_1105 : decode code 1105 = .ok (.iload 4, 2) := by decide +kernel
theorem dW_1107 : decode code 1107 = .ok (.iconst 2, 1) := by decide +kernel
theorem dW_1108 : decode code 1108 = .ok (.iadd, 1) := by decide +kernel
theorem dW_1109 : decode code 1109 = .ok (.iaload, 1) := by decide +kernel
theorem dW_1110 : decode code 1110 = .ok (.aload_n 0, 1) := by decide +kernel
theorem dW_1111 : decode code 1111 = .ok (.iload 4, 2) := by decide +kernel
theorem dW_1113 : decode code 1113 = .ok (.iconst 3, 1) := by decide +kernel
theorem dW_1114 : decode code 1114 = .ok (.iadd, 1) := by decide +kernel
theorem dW_1115 : decode code 1115 = .ok (.iaload, 1) := by decide +kernel
theorem dW_1116 : decode code 1116 = .ok (.aload_n 0, 1) := by decide +kernel
theorem dW_1117 : decode code 1117 = .ok (.iload 4, 2) := by decide +kernel
theorem dW_1119 : decode code 1119 = .ok (.iconst 4, 1) := by decide +kernel
theorem dW_1120 : decode code 1120 = .ok (.iadd, 1) := by decide +kernel
theorem dW_1121 : decode code 1121 = .ok (.iaload, 1) := by decide +kernel
theorem dW_1122 : decode code 1122 = .ok (.aload_n 3, 1) := by decide +kernel
theorem dW_1123 : decode code 1123 = .ok (.invokestatic 163, 3) := by decide +kernel
theorem dW_1126 : decode code 1126 = .ok (.istore 5, 2) := by decide +kernel
theorem dW_1128 : decode code 1128 = .ok (.aload_n 2, 1) := by decide +kernel
theorem dW_1129 : decode code 1129 = .ok (.aload_n 0, 1) := by decide +kernel
theorem dW_1130 : decode code 1130 = .ok (.iload 4, 2) := by decide +kernel
theorem dW_1132 : decode code 1132 = .ok (.iconst 1, 1) := by decide +kernel
theorem dW_1133 : decode code 1133 = .ok (.iadd, 1) := by decide +kernel
theorem dW_1134 : decode code 1134 = .ok (.iaload, 1) := by decide +kernel
theorem dW_1135 : decode code 1135 = .ok (.aload_n 0, 1) := by decide +kernel
theorem dW_1136 : decode code 1136 = .ok (.iload 4, 2) := by decide +kernel
theorem dW_1138 : decode code 1138 = .ok (.iconst 2, 1) := by decide +kernel
theorem dW_1139 : decode code 1139 = .ok (.iadd, 1) := by decide +kernel
theorem dW_1140 : decode code 1140 = .ok (.iaload, 1) := by decide +kernel
theorem dW_1141 : decode code 1141 = .ok (.aload_n 0, 1) := by decide +kernel
theorem dW_1142 : decode code 1142 = .ok (.iload 4, 2) := by decide +kernel
theorem dW_1144 : decode code 1144 = .ok (.iconst 3, 1) := by decide +kernel
theorem dW_1145 : decode code 1145 = .ok (.iadd, 1) := by decide +kernel
theorem dW_1146 : decode code 1146 = .ok (.iaload, 1) := by decide +kernel
theorem dW_1147 : decode code 1147 = .ok (.aload_n 0, 1) := by decide +kernel
theorem dW_1148 : decode code 1148 = .ok (.iload 4, 2) := by decide +kernel
theorem dW_1150 : decode code 1150 = .ok (.iconst 4, 1) := by decide +kernel
theorem dW_1151 : decode code 1151 = .ok (.iadd, 1) := by decide +kernel
theorem dW_1152 : decode code 1152 = .ok (.iaload, 1) := by decide +kernel
theorem dW_1153 : decode code 1153 = .ok (.invokevirtual 165, 3) := by decide +kernel
theorem dW_1156 : decode code 1156 = .ok (.istore 6, 2) := by decide +kernel
theorem dW_1158 : decode code 1158 = .ok (.aload_n 2, 1) := by decide +kernel
theorem dW_1159 : decode code 1159 = .ok (.invokevirtual 111, 3) := by decide +kernel
theorem dW_1162 : decode code 1162 = .ok (.iload 5, 2) := by decide +kernel
theorem dW_1164 : decode code 1164 = .ok (.if_icmp .eq 5, 3) := by decide +kernel
theorem dW_1167 : decode code 1167 = .ok (.iconst 0, 1) := by decide +kernel
theorem dW_1169 : decode code 1169 = .ok (.iload 5, 2) := by decide +kernel
theorem dW_1171 : decode code 1171 = .ok (.ifCond .ne 15, 3) := by decide +kernel
theorem dW_1174 : decode code 1174 = .ok (.aload_n 3, 1) := by decide +kernel
theorem dW_1175 : decode code 1175 = .ok (.iconst 0, 1) := by decide +kernel
theorem dW_1176 : decode code 1176 = .ok (.laload, 1) := by decide +kernel
theorem dW_1177 : decode code 1177 = .ok (.iload 6, 2) := by decide +kernel
theorem dW_1179 : decode code 1179 = .ok (.i2l, 1) := by decide +kernel
theorem dW_1180 : decode code 1180 = .ok (.lcmp, 1) := by decide +kernel
theorem dW_1181 : decode code 1181 = .ok (.ifCond .eq 5, 3) := by decide +kernel
theorem dW_1184 : decode code 1184 = .ok (.iconst 0, 1) := by decide +kernel
theorem dW_1186 : decode code 1186 = .ok (.goto 780, 3) := by decide +kernel
theorem dW_1189 : decode code 1189 = .ok (.aload_n 1, 1) := by decide +kernel
theorem dW_1190 : decode code 1190 = .ok (.aload_n 0, 1) := by decide +kernel
theorem dW_1191 : decode code 1191 = .ok (.iload 4, 2) := by decide +kernel
theorem dW_1193 : decode code 1193 = .ok (.iconst 1, 1) := by decide +kernel
theorem dW_1194 : decode code 1194 = .ok (.iadd, 1) := by decide +kernel
theorem dW_1195 : decode code 1195 = .ok (.iaload, 1) := by decide +kernel
theorem dW_1196 : decode code 1196 = .ok (.aload_n 0, 1) := by decide +kernel
theorem dW_1197 : decode code 1197 = .ok (.iload 4, 2) := by decide +kernel
theorem dW_1199 : decode code 1199 = .ok (.iconst 2, 1) := by decide +kernel
theorem dW_1200 : decode code 1200 = .ok (.iadd, 1) := by decide +kernel
theorem dW_1201 : decode code 1201 = .ok (.iaload, 1) := by decide +kernel
theorem dW_1202 : decode code 1202 = .ok (.aload_n 0, 1) := by decide +kernel
theorem dW_1203 : decode code 1203 = .ok (.iload 4, 2) := by decide +kernel
theorem dW_1205 : decode code 1205 = .ok (.iconst 3, 1) := by decide +kernel
theorem dW_1206 : decode code 1206 = .ok (.iadd, 1) := by decide +kernel
theorem dW_1207 : decode code 1207 = .ok (.iaload, 1) := by decide +kernel
theorem dW_1208 : decode code 1208 = .ok (.aload_n 3, 1) := by decide +kernel
theorem dW_1209 : decode code 1209 = .ok (.invokestatic 166, 3) := by decide +kernel
theorem dW_1212 : decode code 1212 = .ok (.istore 5, 2) := by decide +kernel
theorem dW_1214 : decode code 1214 = .ok (.aload_n 2, 1) := by decide +kernel
theorem dW_1215 : decode code 1215 = .ok (.aload_n 0, 1) := by decide +kernel
theorem dW_1216 : decode code 1216 = .ok (.iload 4, 2) := by decide +kernel
theorem dW_1218 : decode code 1218 = .ok (.iconst 1, 1) := by decide +kernel
theorem dW_1219 : decode code 1219 = .ok (.iadd, 1) := by decide +kernel
theorem dW_1220 : decode code 1220 = .ok (.iaload, 1) := by decide +kernel
theorem dW_1221 : decode code 1221 = .ok (.aload_n 0, 1) := by decide +kernel
theorem dW_1222 : decode code 1222 = .ok (.iload 4, 2) := by decide +kernel
theorem dW_1224 : decode code 1224 = .ok (.iconst 2, 1) := by decide +kernel
theorem dW_1225 : decode code 1225 = .ok (.iadd, 1) := by decide +kernel
theorem dW_1226 : decode code 1226 = .ok (.iaload, 1) := by decide +kernel
theorem dW_1227 : decode code 1227 = .ok (.aload_n 0, 1) := by decide +kernel
theorem dW_1228 : decode code 1228 = .ok (.iload 4, 2) := by decide +kernel
theorem dW_1230 : decode code 1230 = .ok (.iconst 3, 1) := by decide +kernel
theorem dW_1231 : decode code 1231 = .ok (.iadd, 1) := by decide +kernel
theorem dW_1232 : decode code 1232 = .ok (.iaload, 1) := by decide +kernel
theorem dW_1233 : decode code 1233 = .ok (.invokevirtual 168, 3) := by decide +kernel
theorem dW_1236 : decode code 1236 = .ok (.istore 6, 2) := by decide +kernel
theorem dW_1238 : decode code 1238 = .ok (.aload_n 2, 1) := by decide +kernel
theorem dW_1239 : decode code 1239 = .ok (.invokevirtual 111, 3) := by decide +kernel
theorem dW_1242 : decode code 1242 = .ok (.iload 5, 2) := by decide +kernel
theorem dW_1244 : decode code 1244 = .ok (.if_icmp .eq 5, 3) := by decide +kernel
theorem dW_1247 : decode code 1247 = .ok (.iconst 0, 1) := by decide +kernel
theorem dW_1249 : decode code 1249 = .ok (.iload 5, 2) := by decide +kernel
theorem dW_1251 : decode code 1251 = .ok (.ifCond .ne 15, 3) := by decide +kernel
theorem dW_1254 : decode code 1254 = .ok (.aload_n 3, 1) := by decide +kernel
theorem dW_1255 : decode code 1255 = .ok (.iconst 0, 1) := by decide +kernel
theorem dW_1256 : decode code 1256 = .ok (.laload, 1) := by decide +kernel
theorem dW_1257 : decode code 1257 = .ok (.iload 6, 2) := by decide +kernel
theorem dW_1259 : decode code 1259 = .ok (.i2l, 1) := by decide +kernel
theorem dW_1260 : decode code 1260 = .ok (.lcmp, 1) := by decide +kernel
theorem dW_1261 : decode code 1261 = .ok (.ifCond .eq 5, 3) := by decide +kernel
theorem dW_1264 : decode code 1264 = .ok (.iconst 0, 1) := by decide +kernel
theorem dW_1266 : decode code 1266 = .ok (.goto 700, 3) := by decide +kernel
theorem dW_1269 : decode code 1269 = .ok (.aload_n 1, 1) := by decide +kernel
theorem dW_1270 : decode code 1270 = .ok (.aload_n 0, 1) := by decide +kernel
theorem dW_1271 : decode code 1271 = .ok (.iload 4, 2) := by decide +kernel
theorem dW_1273 : decode code 1273 = .ok (.iconst 1, 1) := by decide +kernel
theorem dW_1274 : decode code 1274 = .ok (.iadd, 1) := by decide +kernel
theorem dW_1275 : decode code 1275 = .ok (.iaload, 1) := by decide +kernel
theorem dW_1276 : decode code 1276 = .ok (.aload_n 0, 1) := by decide +kernel
theorem dW_1277 : decode code 1277 = .ok (.iload 4, 2) := by decide +kernel
theorem dW_1279 : decode code 1279 = .ok (.iconst 2, 1) := by decide +kernel
theorem dW_1280 : decode code 1280 = .ok (.iadd, 1) := by decide +kernel
theorem dW_1281 : decode code 1281 = .ok (.iaload, 1) := by decide +kernel
theorem dW_1282 : decode code 1282 = .ok (.aload_n 3, 1) := by decide +kernel
theorem dW_1283 : decode code 1283 = .ok (.invokestatic 169, 3) := by decide +kernel
theorem dW_1286 : decode code 1286 = .ok (.istore 5, 2) := by decide +kernel
theorem dW_1288 : decode code 1288 = .ok (.aload_n 2, 1) := by decide +kernel
theorem dW_1289 : decode code 1289 = .ok (.aload_n 0, 1) := by decide +kernel
theorem dW_1290 : decode code 1290 = .ok (.iload 4, 2) := by decide +kernel
theorem dW_1292 : decode code 1292 = .ok (.iconst 1, 1) := by decide +kernel
theorem dW_1293 : decode code 1293 = .ok (.iadd, 1) := by decide +kernel
theorem dW_1294 : decode code 1294 = .ok (.iaload, 1) := by decide +kernel
theorem dW_1295 : decode code 1295 = .ok (.aload_n 0, 1) := by decide +kernel
theorem dW_1296 : decode code 1296 = .ok (.iload 4, 2) := by decide +kernel
theorem dW_1298 : decode code 1298 = .ok (.iconst 2, 1) := by decide +kernel
theorem dW_1299 : decode code 1299 = .ok (.iadd, 1) := by decide +kernel
theorem dW_1300 : decode code 1300 = .ok (.iaload, 1) := by decide +kernel
theorem dW_1301 : decode code 1301 = .ok (.invokevirtual 171, 3) := by decide +kernel
theorem dW_1304 : decode code 1304 = .ok (.istore 6, 2) := by decide +kernel
theorem dW_1306 : decode code 1306 = .ok (.aload_n 2, 1) := by decide +kernel
theorem dW_1307 : decode code 1307 = .ok (.invokevirtual 111, 3) := by decide +kernel
theorem dW_1310 : decode code 1310 = .ok (.iload 5, 2) := by decide +kernel
theorem dW_1312 : decode code 1312 = .ok (.if_icmp .eq 5, 3) := by decide +kernel
theorem dW_1315 : decode code 1315 = .ok (.iconst 0, 1) := by decide +kernel
theorem dW_1317 : decode code 1317 = .ok (.iload 5, 2) := by decide +kernel
theorem dW_1319 : decode code 1319 = .ok (.ifCond .ne 15, 3) := by decide +kernel
theorem dW_1322 : decode code 1322 = .ok (.aload_n 3, 1) := by decide +kernel
theorem dW_1323 : decode code 1323 = .ok (.iconst 0, 1) := by decide +kernel
theorem dW_1324 : decode code 1324 = .ok (.laload, 1) := by decide +kernel
theorem dW_1325 : decode code 1325 = .ok (.iload 6, 2) := by decide +kernel
theorem dW_1327 : decode code 1327 = .ok (.i2l, 1) := by decide +kernel
theorem dW_1328 : decode code 1328 = .ok (.lcmp, 1) := by decide +kernel
theorem dW_1329 : decode code 1329 = .ok (.ifCond .eq 5, 3) := by decide +kernel
theorem dW_1332 : decode code 1332 = .ok (.iconst 0, 1) := by decide +kernel
theorem dW_1334 : decode code 1334 = .ok (.goto 632, 3) := by decide +kernel
theorem dW_1337 : decode code 1337 = .ok (.aload_n 1, 1) := by decide +kernel
theorem dW_1338 : decode code 1338 = .ok (.aload_n 0, 1) := by decide +kernel
theorem dW_1339 : decode code 1339 = .ok (.iload 4, 2) := by decide +kernel
theorem dW_1341 : decode code 1341 = .ok (.iconst 1, 1) := by decide +kernel
theorem dW_1342 : decode code 1342 = .ok (.iadd, 1) := by decide +kernel
theorem dW_1343 : decode code 1343 = .ok (.iaload, 1) := by decide +kernel
theorem dW_1344 : decode code 1344 = .ok (.aload_n 0, 1) := by decide +kernel
theorem dW_1345 : decode code 1345 = .ok (.iload 4, 2) := by decide +kernel
theorem dW_1347 : decode code 1347 = .ok (.iconst 2, 1) := by decide +kernel
theorem dW_1348 : decode code 1348 = .ok (.iadd, 1) := by decide +kernel
theorem dW_1349 : decode code 1349 = .ok (.iaload, 1) := by decide +kernel
theorem dW_1350 : decode code 1350 = .ok (.aload_n 0, 1) := by decide +kernel
theorem dW_1351 : decode code 1351 = .ok (.iload 4, 2) := by decide +kernel
theorem dW_1353 : decode code 1353 = .ok (.iconst 3, 1) := by decide +kernel
theorem dW_1354 : decode code 1354 = .ok (.iadd, 1) := by decide +kernel
theorem dW_1355 : decode code 1355 = .ok (.iaload, 1) := by decide +kernel
theorem dW_1356 : decode code 1356 = .ok (.aload_n 3, 1) := by decide +kernel
theorem dW_1357 : decode code 1357 = .ok (.invokestatic 172, 3) := by decide +kernel
theorem dW_1360 : decode code 1360 = .ok (.istore 5, 2) := by decide +kernel
theorem dW_1362 : decode code 1362 = .ok (.aload_n 2, 1) := by decide +kernel
theorem dW_1363 : decode code 1363 = .ok (.aload_n 0, 1) := by decide +kernel
theorem dW_1364 : decode code 1364 = .ok (.iload 4, 2) := by decide +kernel
theorem dW_1366 : decode code 1366 = .ok (.iconst 1, 1) := by decide +kernel
theorem dW_1367 : decode code 1367 = .ok (.iadd, 1) := by decide +kernel
theorem dW_1368 : decode code 1368 = .ok (.iaload, 1) := by decide +kernel
theorem dW_1369 : decode code 1369 = .ok (.aload_n 0, 1) := by decide +kernel
theorem dW_1370 : decode code 1370 = .ok (.iload 4, 2) := by decide +kernel
theorem dW_1372 : decode code 1372 = .ok (.iconst 2, 1) := by decide +kernel
theorem dW_1373 : decode code 1373 = .ok (.iadd, 1) := by decide +kernel
theorem dW_1374 : decode code 1374 = .ok (.iaload, 1) := by decide +kernel
theorem dW_1375 : decode code 1375 = .ok (.aload_n 0, 1) := by decide +kernel
theorem dW_1376 : decode code 1376 = .ok (.iload 4, 2) := by decide +kernel
theorem dW_1378 : decode code 1378 = .ok (.iconst 3, 1) := by decide +kernel
theorem dW_1379 : decode code 1379 = .ok (.iadd, 1) := by decide +kernel
theorem dW_1380 : decode code 1380 = .ok (.iaload, 1) := by decide +kernel
theorem dW_1381 : decode code 1381 = .ok (.invokevirtual 174, 3) := by decide +kernel
theorem dW_1384 : decode code 1384 = .ok (.istore 6, 2) := by decide +kernel
theorem dW_1386 : decode code 1386 = .ok (.aload_n 2, 1) := by decide +kernel
theorem dW_1387 : decode code 1387 = .ok (.invokevirtual 111, 3) := by decide +kernel
theorem dW_1390 : decode code 1390 = .ok (.iload 5, 2) := by decide +kernel
theorem dW_1392 : decode code 1392 = .ok (.if_icmp .eq 5, 3) := by decide +kernel
theorem dW_1395 : decode code 1395 = .ok (.iconst 0, 1) := by decide +kernel
theorem dW_1397 : decode code 1397 = .ok (.iload 5, 2) := by decide +kernel
theorem dW_1399 : decode code 1399 = .ok (.ifCond .ne 15, 3) := by decide +kernel
theorem dW_1402 : decode code 1402 = .ok (.aload_n 3, 1) := by decide +kernel
theorem dW_1403 : decode code 1403 = .ok (.iconst 0, 1) := by decide +kernel
theorem dW_1404 : decode code 1404 = .ok (.laload, 1) := by decide +kernel
theorem dW_1405 : decode code 1405 = .ok (.iload 6, 2) := by decide +kernel
theorem dW_1407 : decode code 1407 = .ok (.i2l, 1) := by decide +kernel
theorem dW_1408 : decode code 1408 = .ok (.lcmp, 1) := by decide +kernel
theorem dW_1409 : decode code 1409 = .ok (.ifCond .eq 5, 3) := by decide +kernel
theorem dW_1412 : decode code 1412 = .ok (.iconst 0, 1) := by decide +kernel
theorem dW_1414 : decode code 1414 = .ok (.goto 552, 3) := by decide +kernel
theorem dW_1417 : decode code 1417 = .ok (.aload_n 1, 1) := by decide +kernel
theorem dW_1418 : decode code 1418 = .ok (.aload_n 0, 1) := by decide +kernel
theorem dW_1419 : decode code 1419 = .ok (.iload 4, 2) := by decide +kernel
theorem dW_1421 : decode code 1421 = .ok (.iconst 1, 1) := by decide +kernel
theorem dW_1422 : decode code 1422 = .ok (.iadd, 1) := by decide +kernel
theorem dW_1423 : decode code 1423 = .ok (.iaload, 1) := by decide +kernel
theorem dW_1424 : decode code 1424 = .ok (.aload_n 0, 1) := by decide +kernel
theorem dW_1425 : decode code 1425 = .ok (.iload 4, 2) := by decide +kernel
theorem dW_1427 : decode code 1427 = .ok (.iconst 2, 1) := by decide +kernel
theorem dW_1428 : decode code 1428 = .ok (.iadd, 1) := by decide +kernel
theorem dW_1429 : decode code 1429 = .ok (.iaload, 1) := by decide +kernel
theorem dW_1430 : decode code 1430 = .ok (.aload_n 0, 1) := by decide +kernel
theorem dW_1431 : decode code 1431 = .ok (.iload 4, 2) := by decide +kernel
theorem dW_1433 : decode code 1433 = .ok (.iconst 3, 1) := by decide +kernel
theorem dW_1434 : decode code 1434 = .ok (.iadd, 1) := by decide +kernel
theorem dW_1435 : decode code 1435 = .ok (.iaload, 1) := by decide +kernel
theorem dW_1436 : decode code 1436 = .ok (.aload_n 0, 1) := by decide +kernel
theorem dW_1437 : decode code 1437 = .ok (.iload 4, 2) := by decide +kernel
theorem dW_1439 : decode code 1439 = .ok (.iconst 4, 1) := by decide +kernel
theorem dW_1440 : decode code 1440 = .ok (.iadd, 1) := by decide +kernel
theorem dW_1441 : decode code 1441 = .ok (.iaload, 1) := by decide +kernel
theorem dW_1442 : decode code 1442 = .ok (.aload_n 0, 1) := by decide +kernel
theorem dW_1443 : decode code 1443 = .ok (.iload 4, 2) := by decide +kernel
theorem dW_1445 : decode code 1445 = .ok (.iconst 5, 1) := by decide +kernel
theorem dW_1446 : decode code 1446 = .ok (.iadd, 1) := by decide +kernel
theorem dW_1447 : decode code 1447 = .ok (.iaload, 1) := by decide +kernel
theorem dW_1448 : decode code 1448 = .ok (.aload_n 3, 1) := by decide +kernel
theorem dW_1449 : decode code 1449 = .ok (.invokestatic 175, 3) := by decide +kernel
theorem dW_1452 : decode code 1452 = .ok (.istore 5, 2) := by decide +kernel
theorem dW_1454 : decode code 1454 = .ok (.aload_n 2, 1) := by decide +kernel
theorem dW_1455 : decode code 1455 = .ok (.aload_n 0, 1) := by decide +kernel
theorem dW_1456 : decode code 1456 = .ok (.iload 4, 2) := by decide +kernel
theorem dW_1458 : decode code 1458 = .ok (.iconst 1, 1) := by decide +kernel
theorem dW_1459 : decode code 1459 = .ok (.iadd, 1) := by decide +kernel
theorem dW_1460 : decode code 1460 = .ok (.iaload, 1) := by decide +kernel
theorem dW_1461 : decode code 1461 = .ok (.aload_n 0, 1) := by decide +kernel
theorem dW_1462 : decode code 1462 = .ok (.iload 4, 2) := by decide +kernel
theorem dW_1464 : decode code 1464 = .ok (.iconst 2, 1) := by decide +kernel
theorem dW_1465 : decode code 1465 = .ok (.iadd, 1) := by decide +kernel
theorem dW_1466 : decode code 1466 = .ok (.iaload, 1) := by decide +kernel
theorem dW_1467 : decode code 1467 = .ok (.aload_n 0, 1) := by decide +kernel
theorem dW_1468 : decode code 1468 = .ok (.iload 4, 2) := by decide +kernel
theorem dW_1470 : decode code 1470 = .ok (.iconst 3, 1) := by decide +kernel
theorem dW_1471 : decode code 1471 = .ok (.iadd, 1) := by decide +kernel
theorem dW_1472 : decode code 1472 = .ok (.iaload, 1) := by decide +kernel
theorem dW_1473 : decode code 1473 = .ok (.aload_n 0, 1) := by decide +kernel
theorem dW_1474 : decode code 1474 = .ok (.iload 4, 2) := by decide +kernel
theorem dW_1476 : decode code 1476 = .ok (.iconst 4, 1) := by decide +kernel
theorem dW_1477 : decode code 1477 = .ok (.iadd, 1) := by decide +kernel
theorem dW_1478 : decode code 1478 = .ok (.iaload, 1) := by decide +kernel
theorem dW_1479 : decode code 1479 = .ok (.aload_n 0, 1) := by decide +kernel
theorem dW_1480 : decode code 1480 = .ok (.iload 4, 2) := by decide +kernel
theorem dW_1482 : decode code 1482 = .ok (.iconst 5, 1) := by decide +kernel
theorem dW_1483 : decode code 1483 = .ok (.iadd, 1) := by decide +kernel
theorem dW_1484 : decode code 1484 = .ok (.iaload, 1) := by decide +kernel
theorem dW_1485 : decode code 1485 = .ok (.invokevirtual 178, 3) := by decide +kernel
theorem dW_1488 : decode code 1488 = .ok (.istore 6, 2) := by decide +kernel
theorem dW_1490 : decode code 1490 = .ok (.aload_n 2, 1) := by decide +kernel
theorem dW_1491 : decode code 1491 = .ok (.invokevirtual 111, 3) := by decide +kernel
theorem dW_1494 : decode code 1494 = .ok (.iload 5, 2) := by decide +kernel
theorem dW_1496 : decode code 1496 = .ok (.if_icmp .eq 5, 3) := by decide +kernel
theorem dW_1499 : decode code 1499 = .ok (.iconst 0, 1) := by decide +kernel
theorem dW_1501 : decode code 1501 = .ok (.iload 5, 2) := by decide +kernel
theorem dW_1503 : decode code 1503 = .ok (.ifCond .ne 15, 3) := by decide +kernel
theorem dW_1506 : decode code 1506 = .ok (.aload_n 3, 1) := by decide +kernel
theorem dW_1507 : decode code 1507 = .ok (.iconst 0, 1) := by decide +kernel
theorem dW_1508 : decode code 1508 = .ok (.laload, 1) := by decide +kernel
theorem dW_1509 : decode code 1509 = .ok (.iload 6, 2) := by decide +kernel
theorem dW_1511 : decode code 1511 = .ok (.i2l, 1) := by decide +kernel
theorem dW_1512 : decode code 1512 = .ok (.lcmp, 1) := by decide +kernel
theorem dW_1513 : decode code 1513 = .ok (.ifCond .eq 5, 3) := by decide +kernel
theorem dW_1516 : decode code 1516 = .ok (.iconst 0, 1) := by decide +kernel
theorem dW_1518 : decode code 1518 = .ok (.goto 448, 3) := by decide +kernel
theorem dW_1521 : decode code 1521 = .ok (.aload_n 1, 1) := by decide +kernel
theorem dW_1522 : decode code 1522 = .ok (.aload_n 0, 1) := by decide +kernel
theorem dW_1523 : decode code 1523 = .ok (.iload 4, 2) := by decide +kernel
theorem dW_1525 : decode code 1525 = .ok (.iconst 1, 1) := by decide +kernel
theorem dW_1526 : decode code 1526 = .ok (.iadd, 1) := by decide +kernel
theorem dW_1527 : decode code 1527 = .ok (.iaload, 1) := by decide +kernel
theorem dW_1528 : decode code 1528 = .ok (.aload_n 0, 1) := by decide +kernel
theorem dW_1529 : decode code 1529 = .ok (.iload 4, 2) := by decide +kernel
theorem dW_1531 : decode code 1531 = .ok (.iconst 2, 1) := by decide +kernel
theorem dW_1532 : decode code 1532 = .ok (.iadd, 1) := by decide +kernel
theorem dW_1533 : decode code 1533 = .ok (.iaload, 1) := by decide +kernel
theorem dW_1534 : decode code 1534 = .ok (.aload_n 0, 1) := by decide +kernel
theorem dW_1535 : decode code 1535 = .ok (.iload 4, 2) := by decide +kernel
theorem dW_1537 : decode code 1537 = .ok (.iconst 3, 1) := by decide +kernel
theorem dW_1538 : decode code 1538 = .ok (.iadd, 1) := by decide +kernel
theorem dW_1539 : decode code 1539 = .ok (.iaload, 1) := by decide +kernel
theorem dW_1540 : decode code 1540 = .ok (.aload_n 3, 1) := by decide +kernel
theorem dW_1541 : decode code 1541 = .ok (.invokestatic 179, 3) := by decide +kernel
theorem dW_1544 : decode code 1544 = .ok (.istore 5, 2) := by decide +kernel
theorem dW_1546 : decode code 1546 = .ok (.aload_n 2, 1) := by decide +kernel
theorem dW_1547 : decode code 1547 = .ok (.aload_n 0, 1) := by decide +kernel
theorem dW_1548 : decode code 1548 = .ok (.iload 4, 2) := by decide +kernel
theorem dW_1550 : decode code 1550 = .ok (.iconst 1, 1) := by decide +kernel
theorem dW_1551 : decode code 1551 = .ok (.iadd, 1) := by decide +kernel
theorem dW_1552 : decode code 1552 = .ok (.iaload, 1) := by decide +kernel
theorem dW_1553 : decode code 1553 = .ok (.aload_n 0, 1) := by decide +kernel
theorem dW_1554 : decode code 1554 = .ok (.iload 4, 2) := by decide +kernel
theorem dW_1556 : decode code 1556 = .ok (.iconst 2, 1) := by decide +kernel
theorem dW_1557 : decode code 1557 = .ok (.iadd, 1) := by decide +kernel
theorem dW_1558 : decode code 1558 = .ok (.iaload, 1) := by decide +kernel
theorem dW_1559 : decode code 1559 = .ok (.aload_n 0, 1) := by decide +kernel
theorem dW_1560 : decode code 1560 = .ok (.iload 4, 2) := by decide +kernel
theorem dW_1562 : decode code 1562 = .ok (.iconst 3, 1) := by decide +kernel
theorem dW_1563 : decode code 1563 = .ok (.iadd, 1) := by decide +kernel
theorem dW_1564 : decode code 1564 = .ok (.iaload, 1) := by decide +kernel
theorem dW_1565 : decode code 1565 = .ok (.invokevirtual 181, 3) := by decide +kernel
theorem dW_1568 : decode code 1568 = .ok (.istore 6, 2) := by decide +kernel
theorem dW_1570 : decode code 1570 = .ok (.aload_n 2, 1) := by decide +kernel
theorem dW_1571 : decode code 1571 = .ok (.invokevirtual 111, 3) := by decide +kernel
theorem dW_1574 : decode code 1574 = .ok (.iload 5, 2) := by decide +kernel
theorem dW_1576 : decode code 1576 = .ok (.if_icmp .eq 5, 3) := by decide +kernel
theorem dW_1579 : decode code 1579 = .ok (.iconst 0, 1) := by decide +kernel
theorem dW_1581 : decode code 1581 = .ok (.iload 5, 2) := by decide +kernel
theorem dW_1583 : decode code 1583 = .ok (.ifCond .ne 15, 3) := by decide +kernel
theorem dW_1586 : decode code 1586 = .ok (.aload_n 3, 1) := by decide +kernel
theorem dW_1587 : decode code 1587 = .ok (.iconst 0, 1) := by decide +kernel
theorem dW_1588 : decode code 1588 = .ok (.laload, 1) := by decide +kernel
theorem dW_1589 : decode code 1589 = .ok (.iload 6, 2) := by decide +kernel
theorem dW_1591 : decode code 1591 = .ok (.i2l, 1) := by decide +kernel
theorem dW_1592 : decode code 1592 = .ok (.lcmp, 1) := by decide +kernel
theorem dW_1593 : decode code 1593 = .ok (.ifCond .eq 5, 3) := by decide +kernel
theorem dW_1596 : decode code 1596 = .ok (.iconst 0, 1) := by decide +kernel
theorem dW_1598 : decode code 1598 = .ok (.goto 368, 3) := by decide +kernel
theorem dW_1601 : decode code 1601 = .ok (.aload_n 1, 1) := by decide +kernel
theorem dW_1602 : decode code 1602 = .ok (.aload_n 0, 1) := by decide +kernel
theorem dW_1603 : decode code 1603 = .ok (.iload 4, 2) := by decide +kernel
theorem dW_1605 : decode code 1605 = .ok (.iconst 1, 1) := by decide +kernel
theorem dW_1606 : decode code 1606 = .ok (.iadd, 1) := by decide +kernel
theorem dW_1607 : decode code 1607 = .ok (.iaload, 1) := by decide +kernel
theorem dW_1608 : decode code 1608 = .ok (.aload_n 3, 1) := by decide +kernel
theorem dW_1609 : decode code 1609 = .ok (.invokestatic 182, 3) := by decide +kernel
theorem dW_1612 : decode code 1612 = .ok (.istore 5, 2) := by decide +kernel
theorem dW_1614 : decode code 1614 = .ok (.aload_n 2, 1) := by decide +kernel
theorem dW_1615 : decode code 1615 = .ok (.aload_n 0, 1) := by decide +kernel
theorem dW_1616 : decode code 1616 = .ok (.iload 4, 2) := by decide +kernel
theorem dW_1618 : decode code 1618 = .ok (.iconst 1, 1) := by decide +kernel
theorem dW_1619 : decode code 1619 = .ok (.iadd, 1) := by decide +kernel
theorem dW_1620 : decode code 1620 = .ok (.iaload, 1) := by decide +kernel
theorem dW_1621 : decode code 1621 = .ok (.invokevirtual 184, 3) := by decide +kernel
theorem dW_1624 : decode code 1624 = .ok (.istore 6, 2) := by decide +kernel
theorem dW_1626 : decode code 1626 = .ok (.aload_n 2, 1) := by decide +kernel
theorem dW_1627 : decode code 1627 = .ok (.invokevirtual 111, 3) := by decide +kernel
theorem dW_1630 : decode code 1630 = .ok (.iload 5, 2) := by decide +kernel
theorem dW_1632 : decode code 1632 = .ok (.if_icmp .eq 5, 3) := by decide +kernel
theorem dW_1635 : decode code 1635 = .ok (.iconst 0, 1) := by decide +kernel
theorem dW_1637 : decode code 1637 = .ok (.iload 5, 2) := by decide +kernel
theorem dW_1639 : decode code 1639 = .ok (.ifCond .ne 15, 3) := by decide +kernel
theorem dW_1642 : decode code 1642 = .ok (.aload_n 3, 1) := by decide +kernel
theorem dW_1643 : decode code 1643 = .ok (.iconst 0, 1) := by decide +kernel
theorem dW_1644 : decode code 1644 = .ok (.laload, 1) := by decide +kernel
theorem dW_1645 : decode code 1645 = .ok (.iload 6, 2) := by decide +kernel
theorem dW_1647 : decode code 1647 = .ok (.i2l, 1) := by decide +kernel
theorem dW_1648 : decode code 1648 = .ok (.lcmp, 1) := by decide +kernel
theorem dW_1649 : decode code 1649 = .ok (.ifCond .eq 5, 3) := by decide +kernel
theorem dW_1652 : decode code 1652 = .ok (.iconst 0, 1) := by decide +kernel
theorem dW_1654 : decode code 1654 = .ok (.goto 312, 3) := by decide +kernel
theorem dW_1657 : decode code 1657 = .ok (.aload_n 1, 1) := by decide +kernel
theorem dW_1658 : decode code 1658 = .ok (.aload_n 0, 1) := by decide +kernel
theorem dW_1659 : decode code 1659 = .ok (.iload 4, 2) := by decide +kernel
theorem dW_1661 : decode code 1661 = .ok (.iconst 1, 1) := by decide +kernel
theorem dW_1662 : decode code 1662 = .ok (.iadd, 1) := by decide +kernel
theorem dW_1663 : decode code 1663 = .ok (.iaload, 1) := by decide +kernel
theorem dW_1664 : decode code 1664 = .ok (.aload_n 0, 1) := by decide +kernel
theorem dW_1665 : decode code 1665 = .ok (.iload 4, 2) := by decide +kernel
theorem dW_1667 : decode code 1667 = .ok (.iconst 2, 1) := by decide +kernel
theorem dW_1668 : decode code 1668 = .ok (.iadd, 1) := by decide +kernel
theorem dW_1669 : decode code 1669 = .ok (.iaload, 1) := by decide +kernel
theorem dW_1670 : decode code 1670 = .ok (.aload_n 3, 1) := by decide +kernel
theorem dW_1671 : decode code 1671 = .ok (.invokestatic 185, 3) := by decide +kernel
theorem dW_1674 : decode code 1674 = .ok (.istore 5, 2) := by decide +kernel
theorem dW_1676 : decode code 1676 = .ok (.aload_n 2, 1) := by decide +kernel
theorem dW_1677 : decode code 1677 = .ok (.aload_n 0, 1) := by decide +kernel
theorem dW_1678 : decode code 1678 = .ok (.iload 4, 2) := by decide +kernel
theorem dW_1680 : decode code 1680 = .ok (.iconst 1, 1) := by decide +kernel
theorem dW_1681 : decode code 1681 = .ok (.iadd, 1) := by decide +kernel
theorem dW_1682 : decode code 1682 = .ok (.iaload, 1) := by decide +kernel
theorem dW_1683 : decode code 1683 = .ok (.aload_n 0, 1) := by decide +kernel
theorem dW_1684 : decode code 1684 = .ok (.iload 4, 2) := by decide +kernel
theorem dW_1686 : decode code 1686 = .ok (.iconst 2, 1) := by decide +kernel
theorem dW_1687 : decode code 1687 = .ok (.iadd, 1) := by decide +kernel
theorem dW_1688 : decode code 1688 = .ok (.iaload, 1) := by decide +kernel
theorem dW_1689 : decode code 1689 = .ok (.invokevirtual 187, 3) := by decide +kernel
theorem dW_1692 : decode code 1692 = .ok (.istore 6, 2) := by decide +kernel
theorem dW_1694 : decode code 1694 = .ok (.aload_n 2, 1) := by decide +kernel
theorem dW_1695 : decode code 1695 = .ok (.invokevirtual 111, 3) := by decide +kernel
theorem dW_1698 : decode code 1698 = .ok (.iload 5, 2) := by decide +kernel
theorem dW_1700 : decode code 1700 = .ok (.if_icmp .eq 5, 3) := by decide +kernel
theorem dW_1703 : decode code 1703 = .ok (.iconst 0, 1) := by decide +kernel
theorem dW_1705 : decode code 1705 = .ok (.iload 5, 2) := by decide +kernel
theorem dW_1707 : decode code 1707 = .ok (.ifCond .ne 15, 3) := by decide +kernel
theorem dW_1710 : decode code 1710 = .ok (.aload_n 3, 1) := by decide +kernel
theorem dW_1711 : decode code 1711 = .ok (.iconst 0, 1) := by decide +kernel
theorem dW_1712 : decode code 1712 = .ok (.laload, 1) := by decide +kernel
theorem dW_1713 : decode code 1713 = .ok (.iload 6, 2) := by decide +kernel
theorem dW_1715 : decode code 1715 = .ok (.i2l, 1) := by decide +kernel
theorem dW_1716 : decode code 1716 = .ok (.lcmp, 1) := by decide +kernel
theorem dW_1717 : decode code 1717 = .ok (.ifCond .eq 5, 3) := by decide +kernel
theorem dW_1720 : decode code 1720 = .ok (.iconst 0, 1) := by decide +kernel
theorem dW_1722 : decode code 1722 = .ok (.goto 244, 3) := by decide +kernel
theorem dW_1725 : decode code 1725 = .ok (.aload_n 1, 1) := by decide +kernel
theorem dW_1726 : decode code 1726 = .ok (.aload_n 0, 1) := by decide +kernel
theorem dW_1727 : decode code 1727 = .ok (.iload 4, 2) := by decide +kernel
theorem dW_1729 : decode code 1729 = .ok (.iconst 1, 1) := by decide +kernel
theorem dW_1730 : decode code 1730 = .ok (.iadd, 1) := by decide +kernel
theorem dW_1731 : decode code 1731 = .ok (.iaload, 1) := by decide +kernel
theorem dW_1732 : decode code 1732 = .ok (.aload_n 0, 1) := by decide +kernel
theorem dW_1733 : decode code 1733 = .ok (.iload 4, 2) := by decide +kernel
theorem dW_1735 : decode code 1735 = .ok (.iconst 2, 1) := by decide +kernel
theorem dW_1736 : decode code 1736 = .ok (.iadd, 1) := by decide +kernel
theorem dW_1737 : decode code 1737 = .ok (.iaload, 1) := by decide +kernel
theorem dW_1738 : decode code 1738 = .ok (.aload_n 3, 1) := by decide +kernel
theorem dW_1739 : decode code 1739 = .ok (.invokestatic 188, 3) := by decide +kernel
theorem dW_1742 : decode code 1742 = .ok (.istore 5, 2) := by decide +kernel
theorem dW_1744 : decode code 1744 = .ok (.aload_n 2, 1) := by decide +kernel
theorem dW_1745 : decode code 1745 = .ok (.aload_n 0, 1) := by decide +kernel
theorem dW_1746 : decode code 1746 = .ok (.iload 4, 2) := by decide +kernel
theorem dW_1748 : decode code 1748 = .ok (.iconst 1, 1) := by decide +kernel
theorem dW_1749 : decode code 1749 = .ok (.iadd, 1) := by decide +kernel
theorem dW_1750 : decode code 1750 = .ok (.iaload, 1) := by decide +kernel
theorem dW_1751 : decode code 1751 = .ok (.aload_n 0, 1) := by decide +kernel
theorem dW_1752 : decode code 1752 = .ok (.iload 4, 2) := by decide +kernel
theorem dW_1754 : decode code 1754 = .ok (.iconst 2, 1) := by decide +kernel
theorem dW_1755 : decode code 1755 = .ok (.iadd, 1) := by decide +kernel
theorem dW_1756 : decode code 1756 = .ok (.iaload, 1) := by decide +kernel
theorem dW_1757 : decode code 1757 = .ok (.invokevirtual 190, 3) := by decide +kernel
theorem dW_1760 : decode code 1760 = .ok (.istore 6, 2) := by decide +kernel
theorem dW_1762 : decode code 1762 = .ok (.aload_n 2, 1) := by decide +kernel
theorem dW_1763 : decode code 1763 = .ok (.invokevirtual 111, 3) := by decide +kernel
theorem dW_1766 : decode code 1766 = .ok (.iload 5, 2) := by decide +kernel
theorem dW_1768 : decode code 1768 = .ok (.if_icmp .eq 5, 3) := by decide +kernel
theorem dW_1771 : decode code 1771 = .ok (.iconst 0, 1) := by decide +kernel
theorem dW_1773 : decode code 1773 = .ok (.iload 5, 2) := by decide +kernel
theorem dW_1775 : decode code 1775 = .ok (.ifCond .ne 15, 3) := by decide +kernel
theorem dW_1778 : decode code 1778 = .ok (.aload_n 3, 1) := by decide +kernel
theorem dW_1779 : decode code 1779 = .ok (.iconst 0, 1) := by decide +kernel
theorem dW_1780 : decode code 1780 = .ok (.laload, 1) := by decide +kernel
theorem dW_1781 : decode code 1781 = .ok (.iload 6, 2) := by decide +kernel
theorem dW_1783 : decode code 1783 = .ok (.i2l, 1) := by decide +kernel
theorem dW_1784 : decode code 1784 = .ok (.lcmp, 1) := by decide +kernel
theorem dW_1785 : decode code 1785 = .ok (.ifCond .eq 5, 3) := by decide +kernel
theorem dW_1788 : decode code 1788 = .ok (.iconst 0, 1) := by decide +kernel
theorem dW_1790 : decode code 1790 = .ok (.goto 176, 3) := by decide +kernel
theorem dW_1793 : decode code 1793 = .ok (.aload_n 1, 1) := by decide +kernel
theorem dW_1794 : decode code 1794 = .ok (.aload_n 0, 1) := by decide +kernel
theorem dW_1795 : decode code 1795 = .ok (.iload 4, 2) := by decide +kernel
theorem dW_1797 : decode code 1797 = .ok (.iconst 1, 1) := by decide +kernel
theorem dW_1798 : decode code 1798 = .ok (.iadd, 1) := by decide +kernel
theorem dW_1799 : decode code 1799 = .ok (.iaload, 1) := by decide +kernel
theorem dW_1800 : decode code 1800 = .ok (.aload_n 0, 1) := by decide +kernel
theorem dW_1801 : decode code 1801 = .ok (.iload 4, 2) := by decide +kernel
theorem dW_1803 : decode code 1803 = .ok (.iconst 2, 1) := by decide +kernel
theorem dW_1804 : decode code 1804 = .ok (.iadd, 1) := by decide +kernel
theorem dW_1805 : decode code 1805 = .ok (.iaload, 1) := by decide +kernel
theorem dW_1806 : decode code 1806 = .ok (.aload_n 3, 1) := by decide +kernel
theorem dW_1807 : decode code 1807 = .ok (.invokestatic 191, 3) := by decide +kernel
theorem dW_1810 : decode code 1810 = .ok (.istore 5, 2) := by decide +kernel
theorem dW_1812 : decode code 1812 = .ok (.aload_n 2, 1) := by decide +kernel
theorem dW_1813 : decode code 1813 = .ok (.aload_n 0, 1) := by decide +kernel
theorem dW_1814 : decode code 1814 = .ok (.iload 4, 2) := by decide +kernel
theorem dW_1816 : decode code 1816 = .ok (.iconst 1, 1) := by decide +kernel
theorem dW_1817 : decode code 1817 = .ok (.iadd, 1) := by decide +kernel
theorem dW_1818 : decode code 1818 = .ok (.iaload, 1) := by decide +kernel
theorem dW_1819 : decode code 1819 = .ok (.aload_n 0, 1) := by decide +kernel
theorem dW_1820 : decode code 1820 = .ok (.iload 4, 2) := by decide +kernel
theorem dW_1822 : decode code 1822 = .ok (.iconst 2, 1) := by decide +kernel
theorem dW_1823 : decode code 1823 = .ok (.iadd, 1) := by decide +kernel
theorem dW_1824 : decode code 1824 = .ok (.iaload, 1) := by decide +kernel
theorem dW_1825 : decode code 1825 = .ok (.invokevirtual 193, 3) := by decide +kernel
theorem dW_1828 : decode code 1828 = .ok (.istore 6, 2) := by decide +kernel
theorem dW_1830 : decode code 1830 = .ok (.aload_n 2, 1) := by decide +kernel
theorem dW_1831 : decode code 1831 = .ok (.invokevirtual 111, 3) := by decide +kernel
theorem dW_1834 : decode code 1834 = .ok (.iload 5, 2) := by decide +kernel
theorem dW_1836 : decode code 1836 = .ok (.if_icmp .eq 5, 3) := by decide +kernel
theorem dW_1839 : decode code 1839 = .ok (.iconst 0, 1) := by decide +kernel
theorem dW_1841 : decode code 1841 = .ok (.iload 5, 2) := by decide +kernel
theorem dW_1843 : decode code 1843 = .ok (.ifCond .ne 15, 3) := by decide +kernel
theorem dW_1846 : decode code 1846 = .ok (.aload_n 3, 1) := by decide +kernel
theorem dW_1847 : decode code 1847 = .ok (.iconst 0, 1) := by decide +kernel
theorem dW_1848 : decode code 1848 = .ok (.laload, 1) := by decide +kernel
theorem dW_1849 : decode code 1849 = .ok (.iload 6, 2) := by decide +kernel
theorem dW_1851 : decode code 1851 = .ok (.i2l, 1) := by decide +kernel
theorem dW_1852 : decode code 1852 = .ok (.lcmp, 1) := by decide +kernel
theorem dW_1853 : decode code 1853 = .ok (.ifCond .eq 5, 3) := by decide +kernel
theorem dW_1856 : decode code 1856 = .ok (.iconst 0, 1) := by decide +kernel
theorem dW_1858 : decode code 1858 = .ok (.goto 108, 3) := by decide +kernel
theorem dW_1861 : decode code 1861 = .ok (.aload_n 1, 1) := by decide +kernel
theorem dW_1862 : decode code 1862 = .ok (.aload_n 0, 1) := by decide +kernel
theorem dW_1863 : decode code 1863 = .ok (.iload 4, 2) := by decide +kernel
theorem dW_1865 : decode code 1865 = .ok (.iconst 1, 1) := by decide +kernel
theorem dW_1866 : decode code 1866 = .ok (.iadd, 1) := by decide +kernel
theorem dW_1867 : decode code 1867 = .ok (.iaload, 1) := by decide +kernel
theorem dW_1868 : decode code 1868 = .ok (.aload_n 3, 1) := by decide +kernel
theorem dW_1869 : decode code 1869 = .ok (.invokestatic 194, 3) := by decide +kernel
theorem dW_1872 : decode code 1872 = .ok (.istore 5, 2) := by decide +kernel
theorem dW_1874 : decode code 1874 = .ok (.aload_n 2, 1) := by decide +kernel
theorem dW_1875 : decode code 1875 = .ok (.aload_n 0, 1) := by decide +kernel
theorem dW_1876 : decode code 1876 = .ok (.iload 4, 2) := by decide +kernel
theorem dW_1878 : decode code 1878 = .ok (.iconst 1, 1) := by decide +kernel
theorem dW_1879 : decode code 1879 = .ok (.iadd, 1) := by decide +kernel
theorem dW_1880 : decode code 1880 = .ok (.iaload, 1) := by decide +kernel
theorem dW_1881 : decode code 1881 = .ok (.invokevirtual 196, 3) := by decide +kernel
theorem dW_1884 : decode code 1884 = .ok (.istore 6, 2) := by decide +kernel
theorem dW_1886 : decode code 1886 = .ok (.aload_n 2, 1) := by decide +kernel
theorem dW_1887 : decode code 1887 = .ok (.invokevirtual 111, 3) := by decide +kernel
theorem dW_1890 : decode code 1890 = .ok (.iload 5, 2) := by decide +kernel
theorem dW_1892 : decode code 1892 = .ok (.if_icmp .eq 5, 3) := by decide +kernel
theorem dW_1895 : decode code 1895 = .ok (.iconst 0, 1) := by decide +kernel
theorem dW_1897 : decode code 1897 = .ok (.iload 5, 2) := by decide +kernel
theorem dW_1899 : decode code 1899 = .ok (.ifCond .ne 15, 3) := by decide +kernel
theorem dW_1902 : decode code 1902 = .ok (.aload_n 3, 1) := by decide +kernel
theorem dW_1903 : decode code 1903 = .ok (.iconst 0, 1) := by decide +kernel
theorem dW_1904 : decode code 1904 = .ok (.laload, 1) := by decide +kernel
theorem dW_1905 : decode code 1905 = .ok (.iload 6, 2) := by decide +kernel
theorem dW_1907 : decode code 1907 = .ok (.i2l, 1) := by decide +kernel
theorem dW_1908 : decode code 1908 = .ok (.lcmp, 1) := by decide +kernel
theorem dW_1909 : decode code 1909 = .ok (.ifCond .eq 5, 3) := by decide +kernel
theorem dW_1912 : decode code 1912 = .ok (.iconst 0, 1) := by decide +kernel
theorem dW_1914 : decode code 1914 = .ok (.goto 52, 3) := by decide +kernel
theorem dW_1917 : decode code 1917 = .ok (.aload_n 1, 1) := by decide +kernel
theorem dW_1918 : decode code 1918 = .ok (.invokevirtual 197, 3) := by decide +kernel
theorem dW_1921 : decode code 1921 = .ok (.aload_n 2, 1) := by decide +kernel
theorem dW_1922 : decode code 1922 = .ok (.invokevirtual 200, 3) := by decide +kernel
theorem dW_1925 : decode code 1925 = .ok (.goto 41, 3) := by decide +kernel
theorem dW_1928 : decode code 1928 = .ok (.aload_n 1, 1) := by decide +kernel
theorem dW_1929 : decode code 1929 = .ok (.invokevirtual 201, 3) := by decide +kernel
theorem dW_1932 : decode code 1932 = .ok (.aload_n 2, 1) := by decide +kernel
theorem dW_1933 : decode code 1933 = .ok (.invokevirtual 205, 3) := by decide +kernel
theorem dW_1936 : decode code 1936 = .ok (.if_icmp .eq 30, 3) := by decide +kernel
theorem dW_1939 : decode code 1939 = .ok (.iconst 0, 1) := by decide +kernel
theorem dW_1941 : decode code 1941 = .ok (.aload_n 1, 1) := by decide +kernel
theorem dW_1942 : decode code 1942 = .ok (.aload_n 0, 1) := by decide +kernel
theorem dW_1943 : decode code 1943 = .ok (.iload 4, 2) := by decide +kernel
theorem dW_1945 : decode code 1945 = .ok (.iconst 1, 1) := by decide +kernel
theorem dW_1946 : decode code 1946 = .ok (.iadd, 1) := by decide +kernel
theorem dW_1947 : decode code 1947 = .ok (.iaload, 1) := by decide +kernel
theorem dW_1948 : decode code 1948 = .ok (.invokevirtual 206, 3) := by decide +kernel
theorem dW_1951 : decode code 1951 = .ok (.aload_n 2, 1) := by decide +kernel
theorem dW_1952 : decode code 1952 = .ok (.aload_n 0, 1) := by decide +kernel
theorem dW_1953 : decode code 1953 = .ok (.iload 4, 2) := by decide +kernel
theorem dW_1955 : decode code 1955 = .ok (.iconst 1, 1) := by decide +kernel
theorem dW_1956 : decode code 1956 = .ok (.iadd, 1) := by decide +kernel
theorem dW_1957 : decode code 1957 = .ok (.iaload, 1) := by decide +kernel
theorem dW_1958 : decode code 1958 = .ok (.invokevirtual 209, 3) := by decide +kernel
theorem dW_1961 : decode code 1961 = .ok (.if_icmp .eq 5, 3) := by decide +kernel
theorem dW_1964 : decode code 1964 = .ok (.iconst 0, 1) := by decide +kernel
theorem dW_1966 : decode code 1966 = .ok (.iinc 4 6, 3) := by decide +kernel
theorem dW_1969 : decode code 1969 = .ok (.goto (-1946), 3) := by decide +kernel
theorem dW_1972 : decode code 1972 = .ok (.iconst 1, 1) := by decide +kernel
theorem dW_1973 : decode code 1973 = .ok (.ireturn, 1) := by decide +kernel
def wu_0 : List Cond := [Cond.initialized RX8, Cond.initialized RX9, Cond.methodLink RL 96 yX8_feed, Cond.instanceMethod yX8_feed, Cond.selects RX8 yX8_feed yX8_feed, Cond.code yX8_feed cX8_feed 6 (some .int), Cond.methodLink RL 99 yX9_feed, Cond.instanceMethod yX9_feed, Cond.selects RX9 yX9_feed yX9_feed, Cond.code yX9_feed cX9_feed 8 (some .int), Cond.methodLink RL 100 yX8_end, Cond.instanceMethod yX8_end, Cond.selects RX8 yX8_end yX8_end, Cond.code yX8_end cX8_end 2 (some .boolean), Cond.methodLink RL 104 yX9_end, Cond.instanceMethod yX9_end, Cond.selects RX9 yX9_end yX9_end, Cond.code yX9_end cX9_end 2 (some .boolean), Cond.methodLink RL 105 yL_acts, Cond.methodLink RL 110 yX9_acts, Cond.instanceMethod yX9_acts, Cond.selects RX9 yX9_acts yX9_acts, Cond.code yX9_acts cX9_acts 5 (some .int), Cond.methodLink RL 111 yX9_thrown, Cond.instanceMethod yX9_thrown, Cond.selects RX9 yX9_thrown yX9_thrown, Cond.code yX9_thrown cX9_thrown 1 (some .int), Cond.methodLink RL 114 yX8_fault, Cond.instanceMethod yX8_fault, Cond.selects RX8 yX8_fault yX8_fault, Cond.code yX8_fault cX8_fault 1 (some .int), Cond.methodLink RL 117 yX9_fault, Cond.instanceMethod yX9_fault, Cond.selects RX9 yX9_fault yX9_fault, Cond.code yX9_fault cX9_fault 1 (some .int), Cond.methodLink RL 118 yX8_why, Cond.instanceMethod yX8_why, Cond.selects RX8 yX8_why yX8_why, Cond.code yX8_why cX8_why 1 (some .int), Cond.methodLink RL 121 yX9_why]
theorem wv_0 : ∀ w ∈ wu_0, w ∈ TBL := tb_ch _ [126, 136, 395, 396, 397, 398, 1326, 1327, 1328, 1329, 403, 404, 405, 406, 1330, 1331, 1332, 1333, 730, 1337, 1338, 1339, 1340, 1322, 1323, 1324, 1325, 407, 408, 409, 410, 1617, 1618, 1619, 1620, 411, 412, 413, 414, 1621] (by decide +kernel) (by decide +kernel)
theorem wi_X8 : Cond.initialized RX8 ∈ TBL := wv_0 _ (List.mem_of_getElem? (i := 0) rfl)
theorem wi_X9 : Cond.initialized RX9 ∈ TBL := wv_0 _ (List.mem_of_getElem? (i := 1) rfl)
theorem wm_96 : Cond.methodLink RL 96 yX8_feed ∈ TBL := wv_0 _ (List.mem_of_getElem? (i := 2) rfl)
theorem wn_X8_feed : Cond.instanceMethod yX8_feed ∈ TBL := wv_0 _ (List.mem_of_getElem? (i := 3) rfl)
theorem ws_X8_feed : Cond.selects RX8 yX8_feed yX8_feed ∈ TBL := wv_0 _ (List.mem_of_getElem? (i := 4) rfl)
theorem wk_X8_feed : Cond.code yX8_feed cX8_feed 6 (some .int) ∈ TBL := wv_0 _ (List.mem_of_getElem? (i := 5) rfl)
theorem wm_99 : Cond.methodLink RL 99 yX9_feed ∈ TBL := wv_0 _ (List.mem_of_getElem? (i := 6) rfl)
theorem wn_X9_feed : Cond.instanceMethod yX9_feed ∈ TBL := wv_0 _ (List.mem_of_getElem? (i := 7) rfl)
theorem ws_X9_feed : Cond.selects RX9 yX9_feed yX9_feed ∈ TBL := wv_0 _ (List.mem_of_getElem? (i := 8) rfl)
theorem wk_X9_feed : Cond.code yX9_feed cX9_feed 8 (some .int) ∈ TBL := wv_0 _ (List.mem_of_getElem? (i := 9) rfl)
theorem wm_100 : Cond.methodLink RL 100 yX8_end ∈ TBL := wv_0 _ (List.mem_of_getElem? (i := 10) rfl)
theorem wn_X8_end : Cond.instanceMethod yX8_end ∈ TBL := wv_0 _ (List.mem_of_getElem? (i := 11) rfl)
theorem ws_X8_end : Cond.selects RX8 yX8_end yX8_end ∈ TBL := wv_0 _ (List.mem_of_getElem? (i := 12) rfl)
theorem wk_X8_end : Cond.code yX8_end cX8_end 2 (some .boolean) ∈ TBL := wv_0 _ (List.mem_of_getElem? (i := 13) rfl)
theorem wm_104 : Cond.methodLink RL 104 yX9_end ∈ TBL := wv_0 _ (List.mem_of_getElem? (i := 14) rfl)
theorem wn_X9_end : Cond.instanceMethod yX9_end ∈ TBL := wv_0 _ (List.mem_of_getElem? (i := 15) rfl)
theorem ws_X9_end : Cond.selects RX9 yX9_end yX9_end ∈ TBL := wv_0 _ (List.mem_of_getElem? (i := 16) rfl)
theorem wk_X9_end : Cond.code yX9_end cX9_end 2 (some .boolean) ∈ TBL := wv_0 _ (List.mem_of_getElem? (i := 17) rfl)
theorem wm_105 : Cond.methodLink RL 105 yL_acts ∈ TBL := wv_0 _ (List.mem_of_getElem? (i := 18) rfl)
theorem wm_110 : Cond.methodLink RL 110 yX9_acts ∈ TBL := wv_0 _ (List.mem_of_getElem? (i := 19) rfl)
theorem wn_X9_acts : Cond.instanceMethod yX9_acts ∈ TBL := wv_0 _ (List.mem_of_getElem? (i := 20) rfl)
theorem ws_X9_acts : Cond.selects RX9 yX9_acts yX9_acts ∈ TBL := wv_0 _ (List.mem_of_getElem? (i := 21) rfl)
theorem wk_X9_acts : Cond.code yX9_acts cX9_acts 5 (some .int) ∈ TBL := wv_0 _ (List.mem_of_getElem? (i := 22) rfl)
theorem wm_111 : Cond.methodLink RL 111 yX9_thrown ∈ TBL := wv_0 _ (List.mem_of_getElem? (i := 23) rfl)
theorem wn_X9_thrown : Cond.instanceMethod yX9_thrown ∈ TBL := wv_0 _ (List.mem_of_getElem? (i := 24) rfl)
theorem ws_X9_thrown : Cond.selects RX9 yX9_thrown yX9_thrown ∈ TBL := wv_0 _ (List.mem_of_getElem? (i := 25) rfl)
theorem wk_X9_thrown : Cond.code yX9_thrown cX9_thrown 1 (some .int) ∈ TBL := wv_0 _ (List.mem_of_getElem? (i := 26) rfl)
theorem wm_114 : Cond.methodLink RL 114 yX8_fault ∈ TBL := wv_0 _ (List.mem_of_getElem? (i := 27) rfl)
theorem wn_X8_fault : Cond.instanceMethod yX8_fault ∈ TBL := wv_0 _ (List.mem_of_getElem? (i := 28) rfl)
theorem ws_X8_fault : Cond.selects RX8 yX8_fault yX8_fault ∈ TBL := wv_0 _ (List.mem_of_getElem? (i := 29) rfl)
theorem wk_X8_fault : Cond.code yX8_fault cX8_fault 1 (some .int) ∈ TBL := wv_0 _ (List.mem_of_getElem? (i := 30) rfl)
theorem wm_117 : Cond.methodLink RL 117 yX9_fault ∈ TBL := wv_0 _ (List.mem_of_getElem? (i := 31) rfl)
theorem wn_X9_fault : Cond.instanceMethod yX9_fault ∈ TBL := wv_0 _ (List.mem_of_getElem? (i := 32) rfl)
theorem ws_X9_fault : Cond.selects RX9 yX9_fault yX9_fault ∈ TBL := wv_0 _ (List.mem_of_getElem? (i := 33) rfl)
theorem wk_X9_fault : Cond.code yX9_fault cX9_fault 1 (some .int) ∈ TBL := wv_0 _ (List.mem_of_getElem? (i := 34) rfl)
theorem wm_118 : Cond.methodLink RL 118 yX8_why ∈ TBL := wv_0 _ (List.mem_of_getElem? (i := 35) rfl)
theorem wn_X8_why : Cond.instanceMethod yX8_why ∈ TBL := wv_0 _ (List.mem_of_getElem? (i := 36) rfl)
theorem ws_X8_why : Cond.selects RX8 yX8_why yX8_why ∈ TBL := wv_0 _ (List.mem_of_getElem? (i := 37) rfl)
theorem wk_X8_why : Cond.code yX8_why cX8_why 1 (some .int) ∈ TBL := wv_0 _ (List.mem_of_getElem? (i := 38) rfl)
theorem wm_121 : Cond.methodLink RL 121 yX9_why ∈ TBL := wv_0 _ (List.mem_of_getElem? (i := 39) rfl)
def wu_1 : List Cond := [Cond.instanceMethod yX9_why, Cond.selects RX9 yX9_why yX9_why, Cond.code yX9_why cX9_why 1 (some .int), Cond.methodLink RL 122 yL_join, Cond.methodLink RL 125 yX9_join, Cond.instanceMethod yX9_join, Cond.selects RX9 yX9_join yX9_join, Cond.code yX9_join cX9_join 5 (some .int), Cond.methodLink RL 126 yL_near, Cond.methodLink RL 129 yX9_near, Cond.instanceMethod yX9_near, Cond.selects RX9 yX9_near yX9_near, Cond.code yX9_near cX9_near 3 (some .int), Cond.methodLink RL 130 yL_go, Cond.methodLink RL 132 yX9_go, Cond.instanceMethod yX9_go, Cond.selects RX9 yX9_go yX9_go, Cond.code yX9_go cX9_go 3 (some .int), Cond.methodLink RL 133 yL_tidy, Cond.methodLink RL 135 yX9_tidy, Cond.instanceMethod yX9_tidy, Cond.selects RX9 yX9_tidy yX9_tidy, Cond.code yX9_tidy cX9_tidy 2 (some .int), Cond.methodLink RL 136 yL_put, Cond.methodLink RL 138 yX9_put, Cond.instanceMethod yX9_put, Cond.selects RX9 yX9_put yX9_put, Cond.code yX9_put cX9_put 3 (some .int), Cond.methodLink RL 139 yL_cut, Cond.methodLink RL 142 yX9_cut, Cond.instanceMethod yX9_cut, Cond.selects RX9 yX9_cut yX9_cut, Cond.code yX9_cut cX9_cut 3 (some .int), Cond.methodLink RL 143 yX8_mend, Cond.instanceMethod yX8_mend, Cond.selects RX8 yX8_mend yX8_mend, Cond.code yX8_mend cX8_mend 1 (some .int), Cond.methodLink RL 146 yX9_mend, Cond.instanceMethod yX9_mend, Cond.selects RX9 yX9_mend yX9_mend]
theorem wv_1 : ∀ w ∈ wu_1, w ∈ TBL := tb_ch _ [1622, 1623, 1624, 860, 1625, 1626, 1627, 1628, 875, 1644, 1645, 1646, 1647, 883, 1648, 1649, 1650, 1651, 930, 1655, 1656, 1657, 1658, 937, 1663, 1664, 1665, 1666, 949, 1670, 1671, 1672, 1673, 415, 416, 417, 418, 1674, 1675, 1676] (by decide +kernel) (by decide +kernel)
theorem wn_X9_why : Cond.instanceMethod yX9_why ∈ TBL := wv_1 _ (List.mem_of_getElem? (i := 0) rfl)
theorem ws_X9_why : Cond.selects RX9 yX9_why yX9_why ∈ TBL := wv_1 _ (List.mem_of_getElem? (i := 1) rfl)
theorem wk_X9_why : Cond.code yX9_why cX9_why 1 (some .int) ∈ TBL := wv_1 _ (List.mem_of_getElem? (i := 2) rfl)
theorem wm_122 : Cond.methodLink RL 122 yL_join ∈ TBL := wv_1 _ (List.mem_of_getElem? (i := 3) rfl)
theorem wm_125 : Cond.methodLink RL 125 yX9_join ∈ TBL := wv_1 _ (List.mem_of_getElem? (i := 4) rfl)
theorem wn_X9_join : Cond.instanceMethod yX9_join ∈ TBL := wv_1 _ (List.mem_of_getElem? (i := 5) rfl)
theorem ws_X9_join : Cond.selects RX9 yX9_join yX9_join ∈ TBL := wv_1 _ (List.mem_of_getElem? (i := 6) rfl)
theorem wk_X9_join : Cond.code yX9_join cX9_join 5 (some .int) ∈ TBL := wv_1 _ (List.mem_of_getElem? (i := 7) rfl)
theorem wm_126 : Cond.methodLink RL 126 yL_near ∈ TBL := wv_1 _ (List.mem_of_getElem? (i := 8) rfl)
theorem wm_129 : Cond.methodLink RL 129 yX9_near ∈ TBL := wv_1 _ (List.mem_of_getElem? (i := 9) rfl)
theorem wn_X9_near : Cond.instanceMethod yX9_near ∈ TBL := wv_1 _ (List.mem_of_getElem? (i := 10) rfl)
theorem ws_X9_near : Cond.selects RX9 yX9_near yX9_near ∈ TBL := wv_1 _ (List.mem_of_getElem? (i := 11) rfl)
theorem wk_X9_near : Cond.code yX9_near cX9_near 3 (some .int) ∈ TBL := wv_1 _ (List.mem_of_getElem? (i := 12) rfl)
theorem wm_130 : Cond.methodLink RL 130 yL_go ∈ TBL := wv_1 _ (List.mem_of_getElem? (i := 13) rfl)
theorem wm_132 : Cond.methodLink RL 132 yX9_go ∈ TBL := wv_1 _ (List.mem_of_getElem? (i := 14) rfl)
theorem wn_X9_go : Cond.instanceMethod yX9_go ∈ TBL := wv_1 _ (List.mem_of_getElem? (i := 15) rfl)
theorem ws_X9_go : Cond.selects RX9 yX9_go yX9_go ∈ TBL := wv_1 _ (List.mem_of_getElem? (i := 16) rfl)
theorem wk_X9_go : Cond.code yX9_go cX9_go 3 (some .int) ∈ TBL := wv_1 _ (List.mem_of_getElem? (i := 17) rfl)
theorem wm_133 : Cond.methodLink RL 133 yL_tidy ∈ TBL := wv_1 _ (List.mem_of_getElem? (i := 18) rfl)
theorem wm_135 : Cond.methodLink RL 135 yX9_tidy ∈ TBL := wv_1 _ (List.mem_of_getElem? (i := 19) rfl)
theorem wn_X9_tidy : Cond.instanceMethod yX9_tidy ∈ TBL := wv_1 _ (List.mem_of_getElem? (i := 20) rfl)
theorem ws_X9_tidy : Cond.selects RX9 yX9_tidy yX9_tidy ∈ TBL := wv_1 _ (List.mem_of_getElem? (i := 21) rfl)
theorem wk_X9_tidy : Cond.code yX9_tidy cX9_tidy 2 (some .int) ∈ TBL := wv_1 _ (List.mem_of_getElem? (i := 22) rfl)
theorem wm_136 : Cond.methodLink RL 136 yL_put ∈ TBL := wv_1 _ (List.mem_of_getElem? (i := 23) rfl)
theorem wm_138 : Cond.methodLink RL 138 yX9_put ∈ TBL := wv_1 _ (List.mem_of_getElem? (i := 24) rfl)
theorem wn_X9_put : Cond.instanceMethod yX9_put ∈ TBL := wv_1 _ (List.mem_of_getElem? (i := 25) rfl)
theorem ws_X9_put : Cond.selects RX9 yX9_put yX9_put ∈ TBL := wv_1 _ (List.mem_of_getElem? (i := 26) rfl)
theorem wk_X9_put : Cond.code yX9_put cX9_put 3 (some .int) ∈ TBL := wv_1 _ (List.mem_of_getElem? (i := 27) rfl)
theorem wm_139 : Cond.methodLink RL 139 yL_cut ∈ TBL := wv_1 _ (List.mem_of_getElem? (i := 28) rfl)
theorem wm_142 : Cond.methodLink RL 142 yX9_cut ∈ TBL := wv_1 _ (List.mem_of_getElem? (i := 29) rfl)
theorem wn_X9_cut : Cond.instanceMethod yX9_cut ∈ TBL := wv_1 _ (List.mem_of_getElem? (i := 30) rfl)
theorem ws_X9_cut : Cond.selects RX9 yX9_cut yX9_cut ∈ TBL := wv_1 _ (List.mem_of_getElem? (i := 31) rfl)
theorem wk_X9_cut : Cond.code yX9_cut cX9_cut 3 (some .int) ∈ TBL := wv_1 _ (List.mem_of_getElem? (i := 32) rfl)
theorem wm_143 : Cond.methodLink RL 143 yX8_mend ∈ TBL := wv_1 _ (List.mem_of_getElem? (i := 33) rfl)
theorem wn_X8_mend : Cond.instanceMethod yX8_mend ∈ TBL := wv_1 _ (List.mem_of_getElem? (i := 34) rfl)
theorem ws_X8_mend : Cond.selects RX8 yX8_mend yX8_mend ∈ TBL := wv_1 _ (List.mem_of_getElem? (i := 35) rfl)
theorem wk_X8_mend : Cond.code yX8_mend cX8_mend 1 (some .int) ∈ TBL := wv_1 _ (List.mem_of_getElem? (i := 36) rfl)
theorem wm_146 : Cond.methodLink RL 146 yX9_mend ∈ TBL := wv_1 _ (List.mem_of_getElem? (i := 37) rfl)
theorem wn_X9_mend : Cond.instanceMethod yX9_mend ∈ TBL := wv_1 _ (List.mem_of_getElem? (i := 38) rfl)
theorem ws_X9_mend : Cond.selects RX9 yX9_mend yX9_mend ∈ TBL := wv_1 _ (List.mem_of_getElem? (i := 39) rfl)
def wu_2 : List Cond := [Cond.code yX9_mend cX9_mend 2 (some .int), Cond.methodLink RL 147 yL_undo, Cond.methodLink RL 149 yX9_undo, Cond.instanceMethod yX9_undo, Cond.selects RX9 yX9_undo yX9_undo, Cond.code yX9_undo cX9_undo 2 (some .int), Cond.methodLink RL 150 yL_node, Cond.methodLink RL 152 yX9_node, Cond.instanceMethod yX9_node, Cond.selects RX9 yX9_node yX9_node, Cond.code yX9_node cX9_node 3 (some .int), Cond.methodLink RL 153 yL_held, Cond.methodLink RL 156 yX9_held, Cond.instanceMethod yX9_held, Cond.selects RX9 yX9_held yX9_held, Cond.code yX9_held cX9_held 4 (some .int), Cond.methodLink RL 157 yL_zone, Cond.methodLink RL 159 yX9_zone, Cond.instanceMethod yX9_zone, Cond.selects RX9 yX9_zone yX9_zone, Cond.code yX9_zone cX9_zone 4 (some .int), Cond.methodLink RL 160 yL_box, Cond.methodLink RL 162 yX9_box, Cond.instanceMethod yX9_box, Cond.selects RX9 yX9_box yX9_box, Cond.code yX9_box cX9_box 3 (some .int), Cond.methodLink RL 163 yL_cell, Cond.methodLink RL 165 yX9_cell, Cond.instanceMethod yX9_cell, Cond.selects RX9 yX9_cell yX9_cell, Cond.code yX9_cell cX9_cell 5 (some .int), Cond.methodLink RL 166 yL_heir, Cond.methodLink RL 168 yX9_heir, Cond.instanceMethod yX9_heir, Cond.selects RX9 yX9_heir yX9_heir, Cond.code yX9_heir cX9_heir 5 (some .int), Cond.methodLink RL 169 yL_key, Cond.methodLink RL 171 yX9_key, Cond.instanceMethod yX9_key, Cond.selects RX9 yX9_key yX9_key]
theorem wv_2 : ∀ w ∈ wu_2, w ∈ TBL := tb_ch _ [1677, 956, 1678, 1679, 1680, 1681, 968, 1682, 1683, 1684, 1685, 975, 1686, 1687, 1688, 1689, 1006, 1709, 1710, 1711, 1712, 1014, 1717, 1718, 1719, 1720, 1027, 1721, 1722, 1723, 1724, 1040, 1725, 1726, 1727, 1728, 1048, 1729, 1730, 1731] (by decide +kernel) (by decide +kernel)
theorem wk_X9_mend : Cond.code yX9_mend cX9_mend 2 (some .int) ∈ TBL := wv_2 _ (List.mem_of_getElem? (i := 0) rfl)
theorem wm_147 : Cond.methodLink RL 147 yL_undo ∈ TBL := wv_2 _ (List.mem_of_getElem? (i := 1) rfl)
theorem wm_149 : Cond.methodLink RL 149 yX9_undo ∈ TBL := wv_2 _ (List.mem_of_getElem? (i := 2) rfl)
theorem wn_X9_undo : Cond.instanceMethod yX9_undo ∈ TBL := wv_2 _ (List.mem_of_getElem? (i := 3) rfl)
theorem ws_X9_undo : Cond.selects RX9 yX9_undo yX9_undo ∈ TBL := wv_2 _ (List.mem_of_getElem? (i := 4) rfl)
theorem wk_X9_undo : Cond.code yX9_undo cX9_undo 2 (some .int) ∈ TBL := wv_2 _ (List.mem_of_getElem? (i := 5) rfl)
theorem wm_150 : Cond.methodLink RL 150 yL_node ∈ TBL := wv_2 _ (List.mem_of_getElem? (i := 6) rfl)
theorem wm_152 : Cond.methodLink RL 152 yX9_node ∈ TBL := wv_2 _ (List.mem_of_getElem? (i := 7) rfl)
theorem wn_X9_node : Cond.instanceMethod yX9_node ∈ TBL := wv_2 _ (List.mem_of_getElem? (i := 8) rfl)
theorem ws_X9_node : Cond.selects RX9 yX9_node yX9_node ∈ TBL := wv_2 _ (List.mem_of_getElem? (i := 9) rfl)
theorem wk_X9_node : Cond.code yX9_node cX9_node 3 (some .int) ∈ TBL := wv_2 _ (List.mem_of_getElem? (i := 10) rfl)
theorem wm_153 : Cond.methodLink RL 153 yL_held ∈ TBL := wv_2 _ (List.mem_of_getElem? (i := 11) rfl)
theorem wm_156 : Cond.methodLink RL 156 yX9_held ∈ TBL := wv_2 _ (List.mem_of_getElem? (i := 12) rfl)
theorem wn_X9_held : Cond.instanceMethod yX9_held ∈ TBL := wv_2 _ (List.mem_of_getElem? (i := 13) rfl)
theorem ws_X9_held : Cond.selects RX9 yX9_held yX9_held ∈ TBL := wv_2 _ (List.mem_of_getElem? (i := 14) rfl)
theorem wk_X9_held : Cond.code yX9_held cX9_held 4 (some .int) ∈ TBL := wv_2 _ (List.mem_of_getElem? (i := 15) rfl)
theorem wm_157 : Cond.methodLink RL 157 yL_zone ∈ TBL := wv_2 _ (List.mem_of_getElem? (i := 16) rfl)
theorem wm_159 : Cond.methodLink RL 159 yX9_zone ∈ TBL := wv_2 _ (List.mem_of_getElem? (i := 17) rfl)
theorem wn_X9_zone : Cond.instanceMethod yX9_zone ∈ TBL := wv_2 _ (List.mem_of_getElem? (i := 18) rfl)
theorem ws_X9_zone : Cond.selects RX9 yX9_zone yX9_zone ∈ TBL := wv_2 _ (List.mem_of_getElem? (i := 19) rfl)
theorem wk_X9_zone : Cond.code yX9_zone cX9_zone 4 (some .int) ∈ TBL := wv_2 _ (List.mem_of_getElem? (i := 20) rfl)
theorem wm_160 : Cond.methodLink RL 160 yL_box ∈ TBL := wv_2 _ (List.mem_of_getElem? (i := 21) rfl)
theorem wm_162 : Cond.methodLink RL 162 yX9_box ∈ TBL := wv_2 _ (List.mem_of_getElem? (i := 22) rfl)
theorem wn_X9_box : Cond.instanceMethod yX9_box ∈ TBL := wv_2 _ (List.mem_of_getElem? (i := 23) rfl)
theorem ws_X9_box : Cond.selects RX9 yX9_box yX9_box ∈ TBL := wv_2 _ (List.mem_of_getElem? (i := 24) rfl)
theorem wk_X9_box : Cond.code yX9_box cX9_box 3 (some .int) ∈ TBL := wv_2 _ (List.mem_of_getElem? (i := 25) rfl)
theorem wm_163 : Cond.methodLink RL 163 yL_cell ∈ TBL := wv_2 _ (List.mem_of_getElem? (i := 26) rfl)
theorem wm_165 : Cond.methodLink RL 165 yX9_cell ∈ TBL := wv_2 _ (List.mem_of_getElem? (i := 27) rfl)
theorem wn_X9_cell : Cond.instanceMethod yX9_cell ∈ TBL := wv_2 _ (List.mem_of_getElem? (i := 28) rfl)
theorem ws_X9_cell : Cond.selects RX9 yX9_cell yX9_cell ∈ TBL := wv_2 _ (List.mem_of_getElem? (i := 29) rfl)
theorem wk_X9_cell : Cond.code yX9_cell cX9_cell 5 (some .int) ∈ TBL := wv_2 _ (List.mem_of_getElem? (i := 30) rfl)
theorem wm_166 : Cond.methodLink RL 166 yL_heir ∈ TBL := wv_2 _ (List.mem_of_getElem? (i := 31) rfl)
theorem wm_168 : Cond.methodLink RL 168 yX9_heir ∈ TBL := wv_2 _ (List.mem_of_getElem? (i := 32) rfl)
theorem wn_X9_heir : Cond.instanceMethod yX9_heir ∈ TBL := wv_2 _ (List.mem_of_getElem? (i := 33) rfl)
theorem ws_X9_heir : Cond.selects RX9 yX9_heir yX9_heir ∈ TBL := wv_2 _ (List.mem_of_getElem? (i := 34) rfl)
theorem wk_X9_heir : Cond.code yX9_heir cX9_heir 5 (some .int) ∈ TBL := wv_2 _ (List.mem_of_getElem? (i := 35) rfl)
theorem wm_169 : Cond.methodLink RL 169 yL_key ∈ TBL := wv_2 _ (List.mem_of_getElem? (i := 36) rfl)
theorem wm_171 : Cond.methodLink RL 171 yX9_key ∈ TBL := wv_2 _ (List.mem_of_getElem? (i := 37) rfl)
theorem wn_X9_key : Cond.instanceMethod yX9_key ∈ TBL := wv_2 _ (List.mem_of_getElem? (i := 38) rfl)
theorem ws_X9_key : Cond.selects RX9 yX9_key yX9_key ∈ TBL := wv_2 _ (List.mem_of_getElem? (i := 39) rfl)
def wu_3 : List Cond := [Cond.code yX9_key cX9_key 3 (some .int), Cond.methodLink RL 172 yL_point, Cond.methodLink RL 174 yX9_point, Cond.instanceMethod yX9_point, Cond.selects RX9 yX9_point yX9_point, Cond.code yX9_point cX9_point 4 (some .int), Cond.methodLink RL 175 yL_way, Cond.methodLink RL 178 yX9_way, Cond.instanceMethod yX9_way, Cond.selects RX9 yX9_way yX9_way, Cond.code yX9_way cX9_way 6 (some .int), Cond.methodLink RL 179 yL_seek, Cond.methodLink RL 181 yX9_seek, Cond.instanceMethod yX9_seek, Cond.selects RX9 yX9_seek yX9_seek, Cond.code yX9_seek cX9_seek 4 (some .int), Cond.methodLink RL 182 yL_risk, Cond.methodLink RL 184 yX9_risk, Cond.instanceMethod yX9_risk, Cond.selects RX9 yX9_risk yX9_risk, Cond.code yX9_risk cX9_risk 4 (some .int), Cond.methodLink RL 185 yL_order, Cond.methodLink RL 187 yX9_order, Cond.instanceMethod yX9_order, Cond.selects RX9 yX9_order yX9_order, Cond.code yX9_order cX9_order 3 (some .int), Cond.methodLink RL 188 yL_reality, Cond.methodLink RL 190 yX9_reality, Cond.instanceMethod yX9_reality, Cond.selects RX9 yX9_reality yX9_reality, Cond.code yX9_reality cX9_reality 3 (some .int), Cond.methodLink RL 191 yL_ways, Cond.methodLink RL 193 yX9_ways, Cond.instanceMethod yX9_ways, Cond.selects RX9 yX9_ways yX9_ways, Cond.code yX9_ways cX9_ways 3 (some .int), Cond.methodLink RL 194 yL_friends, Cond.methodLink RL 196 yX9_friends, Cond.instanceMethod yX9_friends, Cond.selects RX9 yX9_friends yX9_friends]
theorem wv_3 : ∀ w ∈ wu_3, w ∈ TBL := tb_ch _ [1732, 1055, 1733, 1734, 1735, 1736, 1064, 1737, 1738, 1739, 1740, 1107, 1760, 1761, 1762, 1763, 1130, 1791, 1792, 1793, 1794, 1141, 1799, 1800, 1801, 1802, 1149, 1803, 1804, 1805, 1806, 1197, 1831, 1832, 1833, 1834, 1208, 1847, 1848, 1849] (by decide +kernel) (by decide +kernel)
theorem wk_X9_key : Cond.code yX9_key cX9_key 3 (some .int) ∈ TBL := wv_3 _ (List.mem_of_getElem? (i := 0) rfl)
theorem wm_172 : Cond.methodLink RL 172 yL_point ∈ TBL := wv_3 _ (List.mem_of_getElem? (i := 1) rfl)
theorem wm_174 : Cond.methodLink RL 174 yX9_point ∈ TBL := wv_3 _ (List.mem_of_getElem? (i := 2) rfl)
theorem wn_X9_point : Cond.instanceMethod yX9_point ∈ TBL := wv_3 _ (List.mem_of_getElem? (i := 3) rfl)
theorem ws_X9_point : Cond.selects RX9 yX9_point yX9_point ∈ TBL := wv_3 _ (List.mem_of_getElem? (i := 4) rfl)
theorem wk_X9_point : Cond.code yX9_point cX9_point 4 (some .int) ∈ TBL := wv_3 _ (List.mem_of_getElem? (i := 5) rfl)
theorem wm_175 : Cond.methodLink RL 175 yL_way ∈ TBL := wv_3 _ (List.mem_of_getElem? (i := 6) rfl)
theorem wm_178 : Cond.methodLink RL 178 yX9_way ∈ TBL := wv_3 _ (List.mem_of_getElem? (i := 7) rfl)
theorem wn_X9_way : Cond.instanceMethod yX9_way ∈ TBL := wv_3 _ (List.mem_of_getElem? (i := 8) rfl)
theorem ws_X9_way : Cond.selects RX9 yX9_way yX9_way ∈ TBL := wv_3 _ (List.mem_of_getElem? (i := 9) rfl)
theorem wk_X9_way : Cond.code yX9_way cX9_way 6 (some .int) ∈ TBL := wv_3 _ (List.mem_of_getElem? (i := 10) rfl)
theorem wm_179 : Cond.methodLink RL 179 yL_seek ∈ TBL := wv_3 _ (List.mem_of_getElem? (i := 11) rfl)
theorem wm_181 : Cond.methodLink RL 181 yX9_seek ∈ TBL := wv_3 _ (List.mem_of_getElem? (i := 12) rfl)
theorem wn_X9_seek : Cond.instanceMethod yX9_seek ∈ TBL := wv_3 _ (List.mem_of_getElem? (i := 13) rfl)
theorem ws_X9_seek : Cond.selects RX9 yX9_seek yX9_seek ∈ TBL := wv_3 _ (List.mem_of_getElem? (i := 14) rfl)
theorem wk_X9_seek : Cond.code yX9_seek cX9_seek 4 (some .int) ∈ TBL := wv_3 _ (List.mem_of_getElem? (i := 15) rfl)
theorem wm_182 : Cond.methodLink RL 182 yL_risk ∈ TBL := wv_3 _ (List.mem_of_getElem? (i := 16) rfl)
theorem wm_184 : Cond.methodLink RL 184 yX9_risk ∈ TBL := wv_3 _ (List.mem_of_getElem? (i := 17) rfl)
theorem wn_X9_risk : Cond.instanceMethod yX9_risk ∈ TBL := wv_3 _ (List.mem_of_getElem? (i := 18) rfl)
theorem ws_X9_risk : Cond.selects RX9 yX9_risk yX9_risk ∈ TBL := wv_3 _ (List.mem_of_getElem? (i := 19) rfl)
theorem wk_X9_risk : Cond.code yX9_risk cX9_risk 4 (some .int) ∈ TBL := wv_3 _ (List.mem_of_getElem? (i := 20) rfl)
theorem wm_185 : Cond.methodLink RL 185 yL_order ∈ TBL := wv_3 _ (List.mem_of_getElem? (i := 21) rfl)
theorem wm_187 : Cond.methodLink RL 187 yX9_order ∈ TBL := wv_3 _ (List.mem_of_getElem? (i := 22) rfl)
theorem wn_X9_order : Cond.instanceMethod yX9_order ∈ TBL := wv_3 _ (List.mem_of_getElem? (i := 23) rfl)
theorem ws_X9_order : Cond.selects RX9 yX9_order yX9_order ∈ TBL := wv_3 _ (List.mem_of_getElem? (i := 24) rfl)
theorem wk_X9_order : Cond.code yX9_order cX9_order 3 (some .int) ∈ TBL := wv_3 _ (List.mem_of_getElem? (i := 25) rfl)
theorem wm_188 : Cond.methodLink RL 188 yL_reality ∈ TBL := wv_3 _ (List.mem_of_getElem? (i := 26) rfl)
theorem wm_190 : Cond.methodLink RL 190 yX9_reality ∈ TBL := wv_3 _ (List.mem_of_getElem? (i := 27) rfl)
theorem wn_X9_reality : Cond.instanceMethod yX9_reality ∈ TBL := wv_3 _ (List.mem_of_getElem? (i := 28) rfl)
theorem ws_X9_reality : Cond.selects RX9 yX9_reality yX9_reality ∈ TBL := wv_3 _ (List.mem_of_getElem? (i := 29) rfl)
theorem wk_X9_reality : Cond.code yX9_reality cX9_reality 3 (some .int) ∈ TBL := wv_3 _ (List.mem_of_getElem? (i := 30) rfl)
theorem wm_191 : Cond.methodLink RL 191 yL_ways ∈ TBL := wv_3 _ (List.mem_of_getElem? (i := 31) rfl)
theorem wm_193 : Cond.methodLink RL 193 yX9_ways ∈ TBL := wv_3 _ (List.mem_of_getElem? (i := 32) rfl)
theorem wn_X9_ways : Cond.instanceMethod yX9_ways ∈ TBL := wv_3 _ (List.mem_of_getElem? (i := 33) rfl)
theorem ws_X9_ways : Cond.selects RX9 yX9_ways yX9_ways ∈ TBL := wv_3 _ (List.mem_of_getElem? (i := 34) rfl)
theorem wk_X9_ways : Cond.code yX9_ways cX9_ways 3 (some .int) ∈ TBL := wv_3 _ (List.mem_of_getElem? (i := 35) rfl)
theorem wm_194 : Cond.methodLink RL 194 yL_friends ∈ TBL := wv_3 _ (List.mem_of_getElem? (i := 36) rfl)
theorem wm_196 : Cond.methodLink RL 196 yX9_friends ∈ TBL := wv_3 _ (List.mem_of_getElem? (i := 37) rfl)
theorem wn_X9_friends : Cond.instanceMethod yX9_friends ∈ TBL := wv_3 _ (List.mem_of_getElem? (i := 38) rfl)
theorem ws_X9_friends : Cond.selects RX9 yX9_friends yX9_friends ∈ TBL := wv_3 _ (List.mem_of_getElem? (i := 39) rfl)
def wu_4 : List Cond := [Cond.code yX9_friends cX9_friends 4 (some .int), Cond.methodLink RL 197 yX8_image, Cond.instanceMethod yX8_image, Cond.selects RX8 yX8_image yX8_image, Cond.code yX8_image cX8_image 1 none, Cond.methodLink RL 200 yX9_image, Cond.instanceMethod yX9_image, Cond.selects RX9 yX9_image yX9_image, Cond.code yX9_image cX9_image 2 none, Cond.methodLink RL 201 yX8_back, Cond.instanceMethod yX8_back, Cond.selects RX8 yX8_back yX8_back, Cond.code yX8_back cX8_back 1 (some .boolean), Cond.methodLink RL 205 yX9_back, Cond.instanceMethod yX9_back, Cond.selects RX9 yX9_back yX9_back, Cond.code yX9_back cX9_back 2 (some .boolean), Cond.methodLink RL 206 yX8_count, Cond.instanceMethod yX8_count, Cond.selects RX8 yX8_count yX8_count, Cond.code yX8_count cX8_count 2 (some .int), Cond.methodLink RL 209 yX9_count, Cond.instanceMethod yX9_count, Cond.selects RX9 yX9_count yX9_count, Cond.code yX9_count cX9_count 2 (some .int)]
theorem wv_4 : ∀ w ∈ wu_4, w ∈ TBL := tb_ch _ [1850, 699, 700, 701, 702, 1851, 1852, 1853, 1854, 704, 705, 706, 707, 1855, 1856, 1857, 1858, 712, 713, 714, 715, 1859, 1860, 1861, 1862] (by decide +kernel) (by decide +kernel)
theorem wk_X9_friends : Cond.code yX9_friends cX9_friends 4 (some .int) ∈ TBL := wv_4 _ (List.mem_of_getElem? (i := 0) rfl)
theorem wm_197 : Cond.methodLink RL 197 yX8_image ∈ TBL := wv_4 _ (List.mem_of_getElem? (i := 1) rfl)
theorem wn_X8_image : Cond.instanceMethod yX8_image ∈ TBL := wv_4 _ (List.mem_of_getElem? (i := 2) rfl)
theorem ws_X8_image : Cond.selects RX8 yX8_image yX8_image ∈ TBL := wv_4 _ (List.mem_of_getElem? (i := 3) rfl)
theorem wk_X8_image : Cond.code yX8_image cX8_image 1 none ∈ TBL := wv_4 _ (List.mem_of_getElem? (i := 4) rfl)
theorem wm_200 : Cond.methodLink RL 200 yX9_image ∈ TBL := wv_4 _ (List.mem_of_getElem? (i := 5) rfl)
theorem wn_X9_image : Cond.instanceMethod yX9_image ∈ TBL := wv_4 _ (List.mem_of_getElem? (i := 6) rfl)
theorem ws_X9_image : Cond.selects RX9 yX9_image yX9_image ∈ TBL := wv_4 _ (List.mem_of_getElem? (i := 7) rfl)
theorem wk_X9_image : Cond.code yX9_image cX9_image 2 none ∈ TBL := wv_4 _ (List.mem_of_getElem? (i := 8) rfl)
theorem wm_201 : Cond.methodLink RL 201 yX8_back ∈ TBL := wv_4 _ (List.mem_of_getElem? (i := 9) rfl)
theorem wn_X8_back : Cond.instanceMethod yX8_back ∈ TBL := wv_4 _ (List.mem_of_getElem? (i := 10) rfl)
theorem ws_X8_back : Cond.selects RX8 yX8_back yX8_back ∈ TBL := wv_4 _ (List.mem_of_getElem? (i := 11) rfl)
theorem wk_X8_back : Cond.code yX8_back cX8_back 1 (some .boolean) ∈ TBL := wv_4 _ (List.mem_of_getElem? (i := 12) rfl)
theorem wm_205 : Cond.methodLink RL 205 yX9_back ∈ TBL := wv_4 _ (List.mem_of_getElem? (i := 13) rfl)
theorem wn_X9_back : Cond.instanceMethod yX9_back ∈ TBL := wv_4 _ (List.mem_of_getElem? (i := 14) rfl)
theorem ws_X9_back : Cond.selects RX9 yX9_back yX9_back ∈ TBL := wv_4 _ (List.mem_of_getElem? (i := 15) rfl)
theorem wk_X9_back : Cond.code yX9_back cX9_back 2 (some .boolean) ∈ TBL := wv_4 _ (List.mem_of_getElem? (i := 16) rfl)
theorem wm_206 : Cond.methodLink RL 206 yX8_count ∈ TBL := wv_4 _ (List.mem_of_getElem? (i := 17) rfl)
theorem wn_X8_count : Cond.instanceMethod yX8_count ∈ TBL := wv_4 _ (List.mem_of_getElem? (i := 18) rfl)
theorem ws_X8_count : Cond.selects RX8 yX8_count yX8_count ∈ TBL := wv_4 _ (List.mem_of_getElem? (i := 19) rfl)
theorem wk_X8_count : Cond.code yX8_count cX8_count 2 (some .int) ∈ TBL := wv_4 _ (List.mem_of_getElem? (i := 20) rfl)
theorem wm_209 : Cond.methodLink RL 209 yX9_count ∈ TBL := wv_4 _ (List.mem_of_getElem? (i := 21) rfl)
theorem wn_X9_count : Cond.instanceMethod yX9_count ∈ TBL := wv_4 _ (List.mem_of_getElem? (i := 22) rfl)
theorem ws_X9_count : Cond.selects RX9 yX9_count yX9_count ∈ TBL := wv_4 _ (List.mem_of_getElem? (i := 23) rfl)
theorem wk_X9_count : Cond.code yX9_count cX9_count 2 (some .int) ∈ TBL := wv_4 _ (List.mem_of_getElem? (i := 24) rfl)
theorem wh_X8_feed : yX8_feed.cls ≠ "java/lang/invoke/MethodHandle" ∧ yX8_feed.cls ≠ "java/lang/invoke/VarHandle" ∧ (parseMethodDescriptor yX8_feed.desc).map (fun d => d.parameters.length) = some 5 := by decide +kernel
theorem wh_X9_feed : yX9_feed.cls ≠ "java/lang/invoke/MethodHandle" ∧ yX9_feed.cls ≠ "java/lang/invoke/VarHandle" ∧ (parseMethodDescriptor yX9_feed.desc).map (fun d => d.parameters.length) = some 5 := by decide +kernel
theorem wh_X8_end : yX8_end.cls ≠ "java/lang/invoke/MethodHandle" ∧ yX8_end.cls ≠ "java/lang/invoke/VarHandle" ∧ (parseMethodDescriptor yX8_end.desc).map (fun d => d.parameters.length) = some 1 := by decide +kernel
theorem wh_X9_end : yX9_end.cls ≠ "java/lang/invoke/MethodHandle" ∧ yX9_end.cls ≠ "java/lang/invoke/VarHandle" ∧ (parseMethodDescriptor yX9_end.desc).map (fun d => d.parameters.length) = some 1 := by decide +kernel
theorem wh_X9_acts : yX9_acts.cls ≠ "java/lang/invoke/MethodHandle" ∧ yX9_acts.cls ≠ "java/lang/invoke/VarHandle" ∧ (parseMethodDescriptor yX9_acts.desc).map (fun d => d.parameters.length) = some 0 := by decide +kernel
theorem wh_X9_thrown : yX9_thrown.cls ≠ "java/lang/invoke/MethodHandle" ∧ yX9_thrown.cls ≠ "java/lang/invoke/VarHandle" ∧ (parseMethodDescriptor yX9_thrown.desc).map (fun d => d.parameters.length) = some 0 := by decide +kernel
theorem wh_X8_fault : yX8_fault.cls ≠ "java/lang/invoke/MethodHandle" ∧ yX8_fault.cls ≠ "java/lang/invoke/VarHandle" ∧ (parseMethodDescriptor yX8_fault.desc).map (fun d => d.parameters.length) = some 0 := by decide +kernel
theorem wh_X9_fault : yX9_fault.cls ≠ "java/lang/invoke/MethodHandle" ∧ yX9_fault.cls ≠ "java/lang/invoke/VarHandle" ∧ (parseMethodDescriptor yX9_fault.desc).map (fun d => d.parameters.length) = some 0 := by decide +kernel
theorem wh_X8_why : yX8_why.cls ≠ "java/lang/invoke/MethodHandle" ∧ yX8_why.cls ≠ "java/lang/invoke/VarHandle" ∧ (parseMethodDescriptor yX8_why.desc).map (fun d => d.parameters.length) = some 0 := by decide +kernel
theorem wh_X9_why : yX9_why.cls ≠ "java/lang/invoke/MethodHandle" ∧ yX9_why.cls ≠ "java/lang/invoke/VarHandle" ∧ (parseMethodDescriptor yX9_why.desc).map (fun d => d.parameters.length) = some 0 := by decide +kernel
theorem wh_X9_join : yX9_join.cls ≠ "java/lang/invoke/MethodHandle" ∧ yX9_join.cls ≠ "java/lang/invoke/VarHandle" ∧ (parseMethodDescriptor yX9_join.desc).map (fun d => d.parameters.length) = some 4 := by decide +kernel
theorem wh_X9_near : yX9_near.cls ≠ "java/lang/invoke/MethodHandle" ∧ yX9_near.cls ≠ "java/lang/invoke/VarHandle" ∧ (parseMethodDescriptor yX9_near.desc).map (fun d => d.parameters.length) = some 2 := by decide +kernel
theorem wh_X9_go : yX9_go.cls ≠ "java/lang/invoke/MethodHandle" ∧ yX9_go.cls ≠ "java/lang/invoke/VarHandle" ∧ (parseMethodDescriptor yX9_go.desc).map (fun d => d.parameters.length) = some 2 := by decide +kernel
theorem wh_X9_tidy : yX9_tidy.cls ≠ "java/lang/invoke/MethodHandle" ∧ yX9_tidy.cls ≠ "java/lang/invoke/VarHandle" ∧ (parseMethodDescriptor yX9_tidy.desc).map (fun d => d.parameters.length) = some 0 := by decide +kernel
theorem wh_X9_put : yX9_put.cls ≠ "java/lang/invoke/MethodHandle" ∧ yX9_put.cls ≠ "java/lang/invoke/VarHandle" ∧ (parseMethodDescriptor yX9_put.desc).map (fun d => d.parameters.length) = some 2 := by decide +kernel
theorem wh_X9_cut : yX9_cut.cls ≠ "java/lang/invoke/MethodHandle" ∧ yX9_cut.cls ≠ "java/lang/invoke/VarHandle" ∧ (parseMethodDescriptor yX9_cut.desc).map (fun d => d.parameters.length) = some 1 := by decide +kernel
theorem wh_X8_mend : yX8_mend.cls ≠ "java/lang/invoke/MethodHandle" ∧ yX8_mend.cls ≠ "java/lang/invoke/VarHandle" ∧ (parseMethodDescriptor yX8_mend.desc).map (fun d => d.parameters.length) = some 0 := by decide +kernel
theorem wh_X9_mend : yX9_mend.cls ≠ "java/lang/invoke/MethodHandle" ∧ yX9_mend.cls ≠ "java/lang/invoke/VarHandle" ∧ (parseMethodDescriptor yX9_mend.desc).map (fun d => d.parameters.length) = some 0 := by decide +kernel
theorem wh_X9_undo : yX9_undo.cls ≠ "java/lang/invoke/MethodHandle" ∧ yX9_undo.cls ≠ "java/lang/invoke/VarHandle" ∧ (parseMethodDescriptor yX9_undo.desc).map (fun d => d.parameters.length) = some 0 := by decide +kernel
theorem wh_X9_node : yX9_node.cls ≠ "java/lang/invoke/MethodHandle" ∧ yX9_node.cls ≠ "java/lang/invoke/VarHandle" ∧ (parseMethodDescriptor yX9_node.desc).map (fun d => d.parameters.length) = some 2 := by decide +kernel
theorem wh_X9_held : yX9_held.cls ≠ "java/lang/invoke/MethodHandle" ∧ yX9_held.cls ≠ "java/lang/invoke/VarHandle" ∧ (parseMethodDescriptor yX9_held.desc).map (fun d => d.parameters.length) = some 3 := by decide +kernel
theorem wh_X9_zone : yX9_zone.cls ≠ "java/lang/invoke/MethodHandle" ∧ yX9_zone.cls ≠ "java/lang/invoke/VarHandle" ∧ (parseMethodDescriptor yX9_zone.desc).map (fun d => d.parameters.length) = some 3 := by decide +kernel
theorem wh_X9_box : yX9_box.cls ≠ "java/lang/invoke/MethodHandle" ∧ yX9_box.cls ≠ "java/lang/invoke/VarHandle" ∧ (parseMethodDescriptor yX9_box.desc).map (fun d => d.parameters.length) = some 2 := by decide +kernel
theorem wh_X9_cell : yX9_cell.cls ≠ "java/lang/invoke/MethodHandle" ∧ yX9_cell.cls ≠ "java/lang/invoke/VarHandle" ∧ (parseMethodDescriptor yX9_cell.desc).map (fun d => d.parameters.length) = some 4 := by decide +kernel
theorem wh_X9_heir : yX9_heir.cls ≠ "java/lang/invoke/MethodHandle" ∧ yX9_heir.cls ≠ "java/lang/invoke/VarHandle" ∧ (parseMethodDescriptor yX9_heir.desc).map (fun d => d.parameters.length) = some 3 := by decide +kernel
theorem wh_X9_key : yX9_key.cls ≠ "java/lang/invoke/MethodHandle" ∧ yX9_key.cls ≠ "java/lang/invoke/VarHandle" ∧ (parseMethodDescriptor yX9_key.desc).map (fun d => d.parameters.length) = some 2 := by decide +kernel
theorem wh_X9_point : yX9_point.cls ≠ "java/lang/invoke/MethodHandle" ∧ yX9_point.cls ≠ "java/lang/invoke/VarHandle" ∧ (parseMethodDescriptor yX9_point.desc).map (fun d => d.parameters.length) = some 3 := by decide +kernel
theorem wh_X9_way : yX9_way.cls ≠ "java/lang/invoke/MethodHandle" ∧ yX9_way.cls ≠ "java/lang/invoke/VarHandle" ∧ (parseMethodDescriptor yX9_way.desc).map (fun d => d.parameters.length) = some 5 := by decide +kernel
theorem wh_X9_seek : yX9_seek.cls ≠ "java/lang/invoke/MethodHandle" ∧ yX9_seek.cls ≠ "java/lang/invoke/VarHandle" ∧ (parseMethodDescriptor yX9_seek.desc).map (fun d => d.parameters.length) = some 3 := by decide +kernel
theorem wh_X9_risk : yX9_risk.cls ≠ "java/lang/invoke/MethodHandle" ∧ yX9_risk.cls ≠ "java/lang/invoke/VarHandle" ∧ (parseMethodDescriptor yX9_risk.desc).map (fun d => d.parameters.length) = some 1 := by decide +kernel
theorem wh_X9_order : yX9_order.cls ≠ "java/lang/invoke/MethodHandle" ∧ yX9_order.cls ≠ "java/lang/invoke/VarHandle" ∧ (parseMethodDescriptor yX9_order.desc).map (fun d => d.parameters.length) = some 2 := by decide +kernel
theorem wh_X9_reality : yX9_reality.cls ≠ "java/lang/invoke/MethodHandle" ∧ yX9_reality.cls ≠ "java/lang/invoke/VarHandle" ∧ (parseMethodDescriptor yX9_reality.desc).map (fun d => d.parameters.length) = some 2 := by decide +kernel
theorem wh_X9_ways : yX9_ways.cls ≠ "java/lang/invoke/MethodHandle" ∧ yX9_ways.cls ≠ "java/lang/invoke/VarHandle" ∧ (parseMethodDescriptor yX9_ways.desc).map (fun d => d.parameters.length) = some 2 := by decide +kernel
theorem wh_X9_friends : yX9_friends.cls ≠ "java/lang/invoke/MethodHandle" ∧ yX9_friends.cls ≠ "java/lang/invoke/VarHandle" ∧ (parseMethodDescriptor yX9_friends.desc).map (fun d => d.parameters.length) = some 1 := by decide +kernel
theorem wh_X8_image : yX8_image.cls ≠ "java/lang/invoke/MethodHandle" ∧ yX8_image.cls ≠ "java/lang/invoke/VarHandle" ∧ (parseMethodDescriptor yX8_image.desc).map (fun d => d.parameters.length) = some 0 := by decide +kernel
theorem wh_X9_image : yX9_image.cls ≠ "java/lang/invoke/MethodHandle" ∧ yX9_image.cls ≠ "java/lang/invoke/VarHandle" ∧ (parseMethodDescriptor yX9_image.desc).map (fun d => d.parameters.length) = some 0 := by decide +kernel
theorem wh_X8_back : yX8_back.cls ≠ "java/lang/invoke/MethodHandle" ∧ yX8_back.cls ≠ "java/lang/invoke/VarHandle" ∧ (parseMethodDescriptor yX8_back.desc).map (fun d => d.parameters.length) = some 0 := by decide +kernel
theorem wh_X9_back : yX9_back.cls ≠ "java/lang/invoke/MethodHandle" ∧ yX9_back.cls ≠ "java/lang/invoke/VarHandle" ∧ (parseMethodDescriptor yX9_back.desc).map (fun d => d.parameters.length) = some 0 := by decide +kernel
theorem wh_X8_count : yX8_count.cls ≠ "java/lang/invoke/MethodHandle" ∧ yX8_count.cls ≠ "java/lang/invoke/VarHandle" ∧ (parseMethodDescriptor yX8_count.desc).map (fun d => d.parameters.length) = some 1 := by decide +kernel
theorem wh_X9_count : yX9_count.cls ≠ "java/lang/invoke/MethodHandle" ∧ yX9_count.cls ≠ "java/lang/invoke/VarHandle" ∧ (parseMethodDescriptor yX9_count.desc).map (fun d => d.parameters.length) = some 1 := by decide +kernel
