theorem dL_law_0 : decode code 0 = .ok (.new 8, 3) := by decide +kernel
theorem dL_law_3 : decode code 3 = .ok (.dup, 1) := by decide +kernel
theorem dL_law_4 : decode code 4 = .ok (.invokespecial 94, 3) := by decide +kernel
theorem dL_law_7 : decode code 7 = .ok (.astore_n 1, 1) := by decide +kernel
theorem dL_law_8 : decode code 8 = .ok (.new 95, 3) := by decide +kernel
theorem dL_law_11 : decode code 11 = .ok (.dup, 1) := by decide +kernel
theorem dL_law_12 : decode code 12 = .ok (.invokespecial 97, 3) := by decide +kernel
theorem dL_law_15 : decode code 15 = .ok (.astore_n 2, 1) := by decide +kernel
theorem dL_law_16 : decode code 16 = .ok (.iconst 1, 1) := by decide +kernel
theorem dL_law_17 : decode code 17 = .ok (.newarray .long, 2) := by decide +kernel
theorem dL_law_19 : decode code 19 = .ok (.astore_n 3, 1) := by decide +kernel
theorem dL_law_20 : decode code 20 = .ok (.iconst 0, 1) := by decide +kernel
theorem dL_law_21 : decode code 21 = .ok (.istore 4, 2) := by decide +kernel
theorem dL_law_23 : decode code 23 = .ok (.iload 4, 2) := by decide +kernel
theorem dL_law_25 : decode code 25 = .ok (.aload_n 0, 1) := by decide +kernel
theorem dL_law_26 : decode code 26 = .ok (.arraylength, 1) := by decide +kernel
theorem dL_law_27 : decode code 27 = .ok (.bipush 6, 2) := by decide +kernel
theorem dL_law_29 : decode code 29 = .ok (.isub, 1) := by decide +kernel
theorem dL_law_30 : decode code 30 = .ok (.if_icmp .gt 1871, 3) := by decide +kernel
theorem dL_law_33 : decode code 33 = .ok (.aload_n 0, 1) := by decide +kernel
theorem dL_law_34 : decode code 34 = .ok (.iload 4, 2) := by decide +kernel
theorem dL_law_36 : decode code 36 = .ok (.iaload, 1) := by decide +kernel
theorem dL_law_37 : decode code 37 = .ok (.bipush 63, 2) := by decide +kernel
theorem dL_law_39 : decode code 39 = .ok (.iand, 1) := by decide +kernel
theorem dL_law_40 : decode code 40 = .ok (.tableswitch 1855 0 36 #[164, 237, 262, 275, 288, 301, 314, 370, 383, 396, 464, 520, 588, 663, 743, 799, 812, 908, 921, 977, 1045, 1101, 1157, 1170, 1226, 1294, 1307, 1320, 1376, 1432, 1487, 1555, 1611, 1667, 1735, 1779, 1792], 164) := by decide +kernel
theorem dL_law_204 : decode code 204 = .ok (.aload_n 1, 1) := by decide +kernel
theorem dL_law_205 : decode code 205 = .ok (.aload_n 0, 1) := by decide +kernel
theorem dL_law_206 : decode code 206 = .ok (.iload 4, 2) := by decide +kernel
theorem dL_law_208 : decode code 208 = .ok (.iconst 1, 1) := by decide +kernel
theorem dL_law_209 : decode code 209 = .ok (.iadd, 1) := by decide +kernel
theorem dL_law_210 : decode code 210 = .ok (.iaload, 1) := by decide +kernel
theorem dL_law_211 : decode code 211 = .ok (.aload_n 0, 1) := by decide +kernel
theorem dL_law_212 : decode code 212 = .ok (.iload 4, 2) := by decide +kernel
theorem dL_law_214 : decode code 214 = .ok (.iconst 2, 1) := by decide +kernel
theorem dL_law_215 : decode code 215 = .ok (.iadd, 1) := by decide +kernel
theorem dL_law_216 : decode code 216 = .ok (.iaload, 1) := by decide +kernel
theorem dL_law_217 : decode code 217 = .ok (.aload_n 0, 1) := by decide +kernel
theorem dL_law_218 : decode code 218 = .ok (.iload 4, 2) := by decide +kernel
theorem dL_law_220 : decode code 220 = .ok (.iconst 3, 1) := by decide +kernel
theorem dL_law_221 : decode code 221 = .ok (.iadd, 1) := by decide +kernel
theorem dL_law_222 : decode code 222 = .ok (.iaload, 1) := by decide +kernel
theorem dL_law_223 : decode code 223 = .ok (.aload_n 0, 1) := by decide +kernel
theorem dL_law_224 : decode code 224 = .ok (.iload 4, 2) := by decide +kernel
theorem dL_law_226 : decode code 226 = .ok (.iconst 4, 1) := by decide +kernel
theorem dL_law_227 : decode code 227 = .ok (.iadd, 1) := by decide +kernel
theorem dL_law_228 : decode code 228 = .ok (.iaload, 1) := by decide +kernel
theorem dL_law_229 : decode code 229 = .ok (.aload_n 0, 1) := by decide +kernel
theorem dL_law_230 : decode code 230 = .ok (.iload 4, 2) := by decide +kernel
theorem dL_law_232 : decode code 232 = .ok (.iconst 5, 1) := by decide +kernel
theorem dL_law_233 : decode code 233 = .ok (.iadd, 1) := by decide +kernel
theorem dL_law_234 : decode code 234 = .ok (.iaload, 1) := by decide +kernel
theorem dL_law_235 : decode code 235 = .ok (.invokevirtual 98, 3) := by decide +kernel
theorem dL_law_238 : decode code 238 = .ok (.aload_n 2, 1) := by decide +kernel
theorem dL_law_239 : decode code 239 = .ok (.aload_n 0, 1) := by decide +kernel
theorem dL_law_240 : decode code 240 = .ok (.iload 4, 2) := by decide +kernel
theorem dL_law_242 : decode code 242 = .ok (.iconst 1, 1) := by decide +kernel
theorem dL_law_243 : decode code 243 = .ok (.iadd, 1) := by decide +kernel
theorem dL_law_244 : decode code 244 = .ok (.iaload, 1) := by decide +kernel
theorem dL_law_245 : decode code 245 = .ok (.aload_n 0, 1) := by decide +kernel
theorem dL_law_246 : decode code 246 = .ok (.iload 4, 2) := by decide +kernel
theorem dL_law_248 : decode code 248 = .ok (.iconst 2, 1) := by decide +kernel
theorem dL_law_249 : decode code 249 = .ok (.iadd, 1) := by decide +kernel
theorem dL_law_250 : decode code 250 = .ok (.iaload, 1) := by decide +kernel
theorem dL_law_251 : decode code 251 = .ok (.aload_n 0, 1) := by decide +kernel
theorem dL_law_252 : decode code 252 = .ok (.iload 4, 2) := by decide +kernel
theorem dL_law_254 : decode code 254 = .ok (.iconst 3, 1) := by decide +kernel
theorem dL_law_255 : decode code 255 = .ok (.iadd, 1) := by decide +kernel
theorem dL_law_256 : decode code 256 = .ok (.iaload, 1) := by decide +kernel
theorem dL_law_257 : decode code 257 = .ok (.aload_n 0, 1) := by decide +kernel
theorem dL_law_258 : decode code 258 = .ok (.iload 4, 2) := by decide +kernel
theorem dL_law_260 : decode code 260 = .ok (.iconst 4, 1) := by decide +kernel
theorem dL_law_261 : decode code 261 = .ok (.iadd, 1) := by decide +kernel
theorem dL_law_262 : decode code 262 = .ok (.iaload, 1) := by decide +kernel
theorem dL_law_263 : decode code 263 = .ok (.aload_n 0, 1) := by decide +kernel
theorem dL_law_264 : decode code 264 = .ok (.iload 4, 2) := by decide +kernel
theorem dL_law_266 : decode code 266 = .ok (.iconst 5, 1) := by decide +kernel
theorem dL_law_267 : decode code 267 = .ok (.iadd, 1) := by decide +kernel
theorem dL_law_268 : decode code 268 = .ok (.iaload, 1) := by decide +kernel
theorem dL_law_269 : decode code 269 = .ok (.invokevirtual 102, 3) := by decide +kernel
theorem dL_law_272 : decode code 272 = .ok (.if_icmp .eq 1623, 3) := by decide +kernel
theorem dL_law_275 : decode code 275 = .ok (.iconst 0, 1) := by decide +kernel
theorem dL_law_276 : decode code 276 = .ok (.ireturn, 1) := by decide +kernel
theorem dL_law_277 : decode code 277 = .ok (.aload_n 1, 1) := by decide +kernel
theorem dL_law_278 : decode code 278 = .ok (.aload_n 0, 1) := by decide +kernel
theorem dL_law_279 : decode code 279 = .ok (.iload 4, 2) := by decide +kernel
theorem dL_law_281 : decode code 281 = .ok (.iconst 1, 1) := by decide +kernel
theorem dL_law_282 : decode code 282 = .ok (.iadd, 1) := by decide +kernel
theorem dL_law_283 : decode code 283 = .ok (.iaload, 1) := by decide +kernel
theorem dL_law_284 : decode code 284 = .ok (.invokevirtual 103, 3) := by decide +kernel
theorem dL_law_287 : decode code 287 = .ok (.aload_n 2, 1) := by decide +kernel
theorem dL_law_288 : decode code 288 = .ok (.aload_n 0, 1) := by decide +kernel
theorem dL_law_289 : decode code 289 = .ok (.iload 4, 2) := by decide +kernel
theorem dL_law_291 : decode code 291 = .ok (.iconst 1, 1) := by decide +kernel
theorem dL_law_292 : decode code 292 = .ok (.iadd, 1) := by decide +kernel
theorem dL_law_293 : decode code 293 = .ok (.iaload, 1) := by decide +kernel
theorem dL_law_294 : decode code 294 = .ok (.invokevirtual 106, 3) := by decide +kernel
theorem dL_law_297 : decode code 297 = .ok (.if_icmp .eq 1598, 3) := by decide +kernel
theorem dL_law_300 : decode code 300 = .ok (.iconst 0, 1) := by decide +kernel
theorem dL_law_301 : decode code 301 = .ok (.ireturn, 1) := by decide +kernel
theorem dL_law_302 : decode code 302 = .ok (.aload_n 1, 1) := by decide +kernel
theorem dL_law_303 : decode code 303 = .ok (.invokevirtual 107, 3) := by decide +kernel
theorem dL_law_306 : decode code 306 = .ok (.aload_n 2, 1) := by decide +kernel
theorem dL_law_307 : decode code 307 = .ok (.invokevirtual 110, 3) := by decide +kernel
theorem dL_law_310 : decode code 310 = .ok (.if_icmp .eq 1585, 3) := by decide +kernel
theorem dL_law_313 : decode code 313 = .ok (.iconst 0, 1) := by decide +kernel
theorem dL_law_314 : decode code 314 = .ok (.ireturn, 1) := by decide +kernel
theorem dL_law_315 : decode code 315 = .ok (.aload_n 1, 1) := by decide +kernel
theorem dL_law_316 : decode code 316 = .ok (.invokevirtual 111, 3) := by decide +kernel
theorem dL_law_319 : decode code 319 = .ok (.aload_n 2, 1) := by decide +kernel
theorem dL_law_320 : decode code 320 = .ok (.invokevirtual 114, 3) := by decide +kernel
theorem dL_law_323 : decode code 323 = .ok (.if_icmp .eq 1572, 3) := by decide +kernel
theorem dL_law_326 : decode code 326 = .ok (.iconst 0, 1) := by decide +kernel
theorem dL_law_327 : decode code 327 = .ok (.ireturn, 1) := by decide +kernel
theorem dL_law_328 : decode code 328 = .ok (.aload_n 1, 1) := by decide +kernel
theorem dL_law_329 : decode code 329 = .ok (.invokevirtual 115, 3) := by decide +kernel
theorem dL_law_332 : decode code 332 = .ok (.aload_n 2, 1) := by decide +kernel
theorem dL_law_333 : decode code 333 = .ok (.invokevirtual 118, 3) := by decide +kernel
theorem dL_law_336 : decode code 336 = .ok (.if_icmp .eq 1559, 3) := by decide +kernel
theorem dL_law_339 : decode code 339 = .ok (.iconst 0, 1) := by decide +kernel
theorem dL_law_340 : decode code 340 = .ok (.ireturn, 1) := by decide +kernel
theorem dL_law_341 : decode code 341 = .ok (.aload_n 1, 1) := by decide +kernel
theorem dL_law_342 : decode code 342 = .ok (.invokevirtual 119, 3) := by decide +kernel
theorem dL_law_345 : decode code 345 = .ok (.aload_n 2, 1) := by decide +kernel
theorem dL_law_346 : decode code 346 = .ok (.invokevirtual 122, 3) := by decide +kernel
theorem dL_law_349 : decode code 349 = .ok (.if_icmp .eq 1546, 3) := by decide +kernel
theorem dL_law_352 : decode code 352 = .ok (.iconst 0, 1) := by decide +kernel
theorem dL_law_353 : decode code 353 = .ok (.ireturn, 1) := by decide +kernel
theorem dL_law_354 : decode code 354 = .ok (.aload_n 1, 1) := by decide +kernel
theorem dL_law_355 : decode code 355 = .ok (.aload_n 0, 1) := by decide +kernel
theorem dL_law_356 : decode code 356 = .ok (.iload 4, 2) := by decide +kernel
theorem dL_law_358 : decode code 358 = .ok (.iconst 1, 1) := by decide +kernel
theorem dL_law_359 : decode code 359 = .ok (.iadd, 1) := by decide +kernel
theorem dL_law_360 : decode code 360 = .ok (.iaload, 1) := by decide +kernel
theorem dL_law_361 : decode code 361 = .ok (.aload_n 3, 1) := by decide +kernel
theorem dL_law_362 : decode code 362 = .ok (.invokestatic 123, 3) := by decide +kernel
theorem dL_law_365 : decode code 365 = .ok (.istore 5, 2) := by decide +kernel
theorem dL_law_367 : decode code 367 = .ok (.aload_n 2, 1) := by decide +kernel
theorem dL_law_368 : decode code 368 = .ok (.aload_n 0, 1) := by decide +kernel
theorem dL_law_369 : decode code 369 = .ok (.iload 4, 2) := by decide +kernel
theorem dL_law_371 : decode code 371 = .ok (.iconst 1, 1) := by decide +kernel
theorem dL_law_372 : decode code 372 = .ok (.iadd, 1) := by decide +kernel
theorem dL_law_373 : decode code 373 = .ok (.iaload, 1) := by decide +kernel
theorem dL_law_374 : decode code 374 = .ok (.invokevirtual 128, 3) := by decide +kernel
theorem dL_law_377 : decode code 377 = .ok (.istore 6, 2) := by decide +kernel
theorem dL_law_379 : decode code 379 = .ok (.aload_n 2, 1) := by decide +kernel
theorem dL_law_380 : decode code 380 = .ok (.invokevirtual 129, 3) := by decide +kernel
theorem dL_law_383 : decode code 383 = .ok (.iload 5, 2) := by decide +kernel
theorem dL_law_385 : decode code 385 = .ok (.if_icmp .eq 5, 3) := by decide +kernel
theorem dL_law_388 : decode code 388 = .ok (.iconst 0, 1) := by decide +kernel
theorem dL_law_389 : decode code 389 = .ok (.ireturn, 1) := by decide +kernel
theorem dL_law_390 : decode code 390 = .ok (.iload 5, 2) := by decide +kernel
theorem dL_law_392 : decode code 392 = .ok (.ifCond .ne 15, 3) := by decide +kernel
theorem dL_law_395 : decode code 395 = .ok (.aload_n 3, 1) := by decide +kernel
theorem dL_law_396 : decode code 396 = .ok (.iconst 0, 1) := by decide +kernel
theorem dL_law_397 : decode code 397 = .ok (.laload, 1) := by decide +kernel
theorem dL_law_398 : decode code 398 = .ok (.iload 6, 2) := by decide +kernel
theorem dL_law_400 : decode code 400 = .ok (.i2l, 1) := by decide +kernel
theorem dL_law_401 : decode code 401 = .ok (.lcmp, 1) := by decide +kernel
theorem dL_law_402 : decode code 402 = .ok (.ifCond .eq 5, 3) := by decide +kernel
theorem dL_law_405 : decode code 405 = .ok (.iconst 0, 1) := by decide +kernel
theorem dL_law_406 : decode code 406 = .ok (.ireturn, 1) := by decide +kernel
theorem dL_law_407 : decode code 407 = .ok (.goto 1488, 3) := by decide +kernel
theorem dL_law_410 : decode code 410 = .ok (.aload_n 1, 1) := by decide +kernel
theorem dL_law_411 : decode code 411 = .ok (.invokevirtual 132, 3) := by decide +kernel
theorem dL_law_414 : decode code 414 = .ok (.aload_n 2, 1) := by decide +kernel
theorem dL_law_415 : decode code 415 = .ok (.invokevirtual 135, 3) := by decide +kernel
theorem dL_law_418 : decode code 418 = .ok (.if_icmp .eq 1477, 3) := by decide +kernel
theorem dL_law_421 : decode code 421 = .ok (.iconst 0, 1) := by decide +kernel
theorem dL_law_422 : decode code 422 = .ok (.ireturn, 1) := by decide +kernel
theorem dL_law_423 : decode code 423 = .ok (.aload_n 1, 1) := by decide +kernel
theorem dL_law_424 : decode code 424 = .ok (.invokevirtual 136, 3) := by decide +kernel
theorem dL_law_427 : decode code 427 = .ok (.aload_n 2, 1) := by decide +kernel
theorem dL_law_428 : decode code 428 = .ok (.invokevirtual 139, 3) := by decide +kernel
theorem dL_law_431 : decode code 431 = .ok (.if_icmp .eq 1464, 3) := by decide +kernel
theorem dL_law_434 : decode code 434 = .ok (.iconst 0, 1) := by decide +kernel
theorem dL_law_435 : decode code 435 = .ok (.ireturn, 1) := by decide +kernel
theorem dL_law_436 : decode code 436 = .ok (.aload_n 1, 1) := by decide +kernel
theorem dL_law_437 : decode code 437 = .ok (.aload_n 0, 1) := by decide +kernel
theorem dL_law_438 : decode code 438 = .ok (.iload 4, 2) := by decide +kernel
theorem dL_law_440 : decode code 440 = .ok (.iconst 1, 1) := by decide +kernel
theorem dL_law_441 : decode code 441 = .ok (.iadd, 1) := by decide +kernel
theorem dL_law_442 : decode code 442 = .ok (.iaload, 1) := by decide +kernel
theorem dL_law_443 : decode code 443 = .ok (.aload_n 0, 1) := by decide +kernel
theorem dL_law_444 : decode code 444 = .ok (.iload 4, 2) := by decide +kernel
theorem dL_law_446 : decode code 446 = .ok (.iconst 2, 1) := by decide +kernel
theorem dL_law_447 : decode code 447 = .ok (.iadd, 1) := by decide +kernel
theorem dL_law_448 : decode code 448 = .ok (.iaload, 1) := by decide +kernel
theorem dL_law_449 : decode code 449 = .ok (.aload_n 3, 1) := by decide +kernel
theorem dL_law_450 : decode code 450 = .ok (.invokestatic 140, 3) := by decide +kernel
theorem dL_law_453 : decode code 453 = .ok (.istore 5, 2) := by decide +kernel
theorem dL_law_455 : decode code 455 = .ok (.aload_n 2, 1) := by decide +kernel
theorem dL_law_456 : decode code 456 = .ok (.aload_n 0, 1) := by decide +kernel
theorem dL_law_457 : decode code 457 = .ok (.iload 4, 2) := by decide +kernel
theorem dL_law_459 : decode code 459 = .ok (.iconst 1, 1) := by decide +kernel
theorem dL_law_460 : decode code 460 = .ok (.iadd, 1) := by decide +kernel
theorem dL_law_461 : decode code 461 = .ok (.iaload, 1) := by decide +kernel
theorem dL_law_462 : decode code 462 = .ok (.aload_n 0, 1) := by decide +kernel
theorem dL_law_463 : decode code 463 = .ok (.iload 4, 2) := by decide +kernel
theorem dL_law_465 : decode code 465 = .ok (.iconst 2, 1) := by decide +kernel
theorem dL_law_466 : decode code 466 = .ok (.iadd, 1) := by decide +kernel
theorem dL_law_467 : decode code 467 = .ok (.iaload, 1) := by decide +kernel
theorem dL_law_468 : decode code 468 = .ok (.invokevirtual 143, 3) := by decide +kernel
theorem dL_law_471 : decode code 471 = .ok (.istore 6, 2) := by decide +kernel
theorem dL_law_473 : decode code 473 = .ok (.aload_n 2, 1) := by decide +kernel
theorem dL_law_474 : decode code 474 = .ok (.invokevirtual 129, 3) := by decide +kernel
theorem dL_law_477 : decode code 477 = .ok (.iload 5, 2) := by decide +kernel
theorem dL_law_479 : decode code 479 = .ok (.if_icmp .eq 5, 3) := by decide +kernel
theorem dL_law_482 : decode code 482 = .ok (.iconst 0, 1) := by decide +kernel
theorem dL_law_483 : decode code 483 = .ok (.ireturn, 1) := by decide +kernel
theorem dL_law_484 : decode code 484 = .ok (.iload 5, 2) := by decide +kernel
theorem dL_law_486 : decode code 486 = .ok (.ifCond .ne 15, 3) := by decide +kernel
theorem dL_law_489 : decode code 489 = .ok (.aload_n 3, 1) := by decide +kernel
theorem dL_law_490 : decode code 490 = .ok (.iconst 0, 1) := by decide +kernel
theorem dL_law_491 : decode code 491 = .ok (.laload, 1) := by decide +kernel
theorem dL_law_492 : decode code 492 = .ok (.iload 6, 2) := by decide +kernel
theorem dL_law_494 : decode code 494 = .ok (.i2l, 1) := by decide +kernel
theorem dL_law_495 : decode code 495 = .ok (.lcmp, 1) := by decide +kernel
theorem dL_law_496 : decode code 496 = .ok (.ifCond .eq 5, 3) := by decide +kernel
theorem dL_law_499 : decode code 499 = .ok (.iconst 0, 1) := by decide +kernel
theorem dL_law_500 : decode code 500 = .ok (.ireturn, 1) := by decide +kernel
theorem dL_law_501 : decode code 501 = .ok (.goto 1394, 3) := by decide +kernel
theorem dL_law_504 : decode code 504 = .ok (.aload_n 1, 1) := by decide +kernel
theorem dL_law_505 : decode code 505 = .ok (.aload_n 0, 1) := by decide +kernel
theorem dL_law_506 : decode code 506 = .ok (.iload 4, 2) := by decide +kernel
theorem dL_law_508 : decode code 508 = .ok (.iconst 1, 1) := by decide +kernel
theorem dL_law_509 : decode code 509 = .ok (.iadd, 1) := by decide +kernel
theorem dL_law_510 : decode code 510 = .ok (.iaload, 1) := by decide +kernel
theorem dL_law_511 : decode code 511 = .ok (.aload_n 3, 1) := by decide +kernel
theorem dL_law_512 : decode code 512 = .ok (.invokestatic 144, 3) := by decide +kernel
theorem dL_law_515 : decode code 515 = .ok (.istore 5, 2) := by decide +kernel
theorem dL_law_517 : decode code 517 = .ok (.aload_n 2, 1) := by decide +kernel
theorem dL_law_518 : decode code 518 = .ok (.aload_n 0, 1) := by decide +kernel
theorem dL_law_519 : decode code 519 = .ok (.iload 4, 2) := by decide +kernel
theorem dL_law_521 : decode code 521 = .ok (.iconst 1, 1) := by decide +kernel
theorem dL_law_522 : decode code 522 = .ok (.iadd, 1) := by decide +kernel
theorem dL_law_523 : decode code 523 = .ok (.iaload, 1) := by decide +kernel
theorem dL_law_524 : decode code 524 = .ok (.invokevirtual 146, 3) := by decide +kernel
theorem dL_law_527 : decode code 527 = .ok (.istore 6, 2) := by decide +kernel
theorem dL_law_529 : decode code 529 = .ok (.aload_n 2, 1) := by decide +kernel
theorem dL_law_530 : decode code 530 = .ok (.invokevirtual 129, 3) := by decide +kernel
theorem dL_law_533 : decode code 533 = .ok (.iload 5, 2) := by decide +kernel
theorem dL_law_535 : decode code 535 = .ok (.if_icmp .eq 5, 3) := by decide +kernel
theorem dL_law_538 : decode code 538 = .ok (.iconst 0, 1) := by decide +kernel
theorem dL_law_539 : decode code 539 = .ok (.ireturn, 1) := by decide +kernel
theorem dL_law_540 : decode code 540 = .ok (.iload 5, 2) := by decide +kernel
theorem dL_law_542 : decode code 542 = .ok (.ifCond .ne 15, 3) := by decide +kernel
theorem dL_law_545 : decode code 545 = .ok (.aload_n 3, 1) := by decide +kernel
theorem dL_law_546 : decode code 546 = .ok (.iconst 0, 1) := by decide +kernel
theorem dL_law_547 : decode code 547 = .ok (.laload, 1) := by decide +kernel
theorem dL_law_548 : decode code 548 = .ok (.iload 6, 2) := by decide +kernel
theorem dL_law_550 : decode code 550 = .ok (.i2l, 1) := by decide +kernel
theorem dL_law_551 : decode code 551 = .ok (.lcmp, 1) := by decide +kernel
theorem dL_law_552 : decode code 552 = .ok (.ifCond .eq 5, 3) := by decide +kernel
theorem dL_law_555 : decode code 555 = .ok (.iconst 0, 1) := by decide +kernel
theorem dL_law_556 : decode code 556 = .ok (.ireturn, 1) := by decide +kernel
theorem dL_law_557 : decode code 557 = .ok (.goto 1338, 3) := by decide +kernel
theorem dL_law_560 : decode code 560 = .ok (.aload_n 1, 1) := by decide +kernel
theorem dL_law_561 : decode code 561 = .ok (.aload_n 0, 1) := by decide +kernel
theorem dL_law_562 : decode code 562 = .ok (.iload 4, 2) := by decide +kernel
theorem dL_law_564 : decode code 564 = .ok (.iconst 1, 1) := by decide +kernel
theorem dL_law_565 : decode code 565 = .ok (.iadd, 1) := by decide +kernel
theorem dL_law_566 : decode code 566 = .ok (.iaload, 1) := by decide +kernel
theorem dL_law_567 : decode code 567 = .ok (.aload_n 0, 1) := by decide +kernel
theorem dL_law_568 : decode code 568 = .ok (.iload 4, 2) := by decide +kernel
theorem dL_law_570 : decode code 570 = .ok (.iconst 2, 1) := by decide +kernel
theorem dL_law_571 : decode code 571 = .ok (.iadd, 1) := by decide +kernel
theorem dL_law_572 : decode code 572 = .ok (.iaload, 1) := by decide +kernel
theorem dL_law_573 : decode code 573 = .ok (.aload_n 3, 1) := by decide +kernel
theorem dL_law_574 : decode code 574 = .ok (.invokestatic 147, 3) := by decide +kernel
theorem dL_law_577 : decode code 577 = .ok (.istore 5, 2) := by decide +kernel
theorem dL_law_579 : decode code 579 = .ok (.aload_n 2, 1) := by decide +kernel
theorem dL_law_580 : decode code 580 = .ok (.aload_n 0, 1) := by decide +kernel
theorem dL_law_581 : decode code 581 = .ok (.iload 4, 2) := by decide +kernel
theorem dL_law_583 : decode code 583 = .ok (.iconst 1, 1) := by decide +kernel
theorem dL_law_584 : decode code 584 = .ok (.iadd, 1) := by decide +kernel
theorem dL_law_585 : decode code 585 = .ok (.iaload, 1) := by decide +kernel
theorem dL_law_586 : decode code 586 = .ok (.aload_n 0, 1) := by decide +kernel
theorem dL_law_587 : decode code 587 = .ok (.iload 4, 2) := by decide +kernel
theorem dL_law_589 : decode code 589 = .ok (.iconst 2, 1) := by decide +kernel
theorem dL_law_590 : decode code 590 = .ok (.iadd, 1) := by decide +kernel
theorem dL_law_591 : decode code 591 = .ok (.iaload, 1) := by decide +kernel
theorem dL_law_592 : decode code 592 = .ok (.invokevirtual 149, 3) := by decide +kernel
theorem dL_law_595 : decode code 595 = .ok (.istore 6, 2) := by decide +kernel
theorem dL_law_597 : decode code 597 = .ok (.aload_n 2, 1) := by decide +kernel
theorem dL_law_598 : decode code 598 = .ok (.invokevirtual 129, 3) := by decide +kernel
theorem dL_law_601 : decode code 601 = .ok (.iload 5, 2) := by decide +kernel
theorem dL_law_603 : decode code 603 = .ok (.if_icmp .eq 5, 3) := by decide +kernel
theorem dL_law_606 : decode code 606 = .ok (.iconst 0, 1) := by decide +kernel
theorem dL_law_607 : decode code 607 = .ok (.ireturn, 1) := by decide +kernel
theorem dL_law_608 : decode code 608 = .ok (.iload 5, 2) := by decide +kernel
theorem dL_law_610 : decode code 610 = .ok (.ifCond .ne 15, 3) := by decide +kernel
theorem dL_law_613 : decode code 613 = .ok (.aload_n 3, 1) := by decide +kernel
theorem dL_law_614 : decode code 614 = .ok (.iconst 0, 1) := by decide +kernel
theorem dL_law_615 : decode code 615 = .ok (.laload, 1) := by decide +kernel
theorem dL_law_616 : decode code 616 = .ok (.iload 6, 2) := by decide +kernel
theorem dL_law_618 : decode code 618 = .ok (.i2l, 1) := by decide +kernel
theorem dL_law_619 : decode code 619 = .ok (.lcmp, 1) := by decide +kernel
theorem dL_law_620 : decode code 620 = .ok (.ifCond .eq 5, 3) := by decide +kernel
theorem dL_law_623 : decode code 623 = .ok (.iconst 0, 1) := by decide +kernel
theorem dL_law_624 : decode code 624 = .ok (.ireturn, 1) := by decide +kernel
theorem dL_law_625 : decode code 625 = .ok (.goto 1270, 3) := by decide +kernel
theorem dL_law_628 : decode code 628 = .ok (.aload_n 1, 1) := by decide +kernel
theorem dL_law_629 : decode code 629 = .ok (.aload_n 0, 1) := by decide +kernel
theorem dL_law_630 : decode code 630 = .ok (.iload 4, 2) := by decide +kernel
theorem dL_law_632 : decode code 632 = .ok (.iconst 1, 1) := by decide +kernel
theorem dL_law_633 : decode code 633 = .ok (.iadd, 1) := by decide +kernel
theorem dL_law_634 : decode code 634 = .ok (.iaload, 1) := by decide +kernel
theorem dL_law_635 : decode code 635 = .ok (.aload_n 0, 1) := by decide +kernel
theorem dL_law_636 : decode code 636 = .ok (.iload 4, 2) := by decide +kernel
theorem dL_law_638 : decode code 638 = .ok (.iconst 2, 1) := by decide +kernel
theorem dL_law_639 : decode code 639 = .ok (.iadd, 1) := by decide +kernel
theorem dL_law_640 : decode code 640 = .ok (.iaload, 1) := by decide +kernel
theorem dL_law_641 : decode code 641 = .ok (.aload_n 3, 1) := by decide +kernel
theorem dL_law_642 : decode code 642 = .ok (.invokestatic 150, 3) := by decide +kernel
theorem dL_law_645 : decode code 645 = .ok (.istore 5, 2) := by decide +kernel
theorem dL_law_647 : decode code 647 = .ok (.aload_n 2, 1) := by decide +kernel
theorem dL_law_648 : decode code 648 = .ok (.aload_n 0, 1) := by decide +kernel
theorem dL_law_649 : decode code 649 = .ok (.iload 4, 2) := by decide +kernel
theorem dL_law_651 : decode code 651 = .ok (.iconst 1, 1) := by decide +kernel
theorem dL_law_652 : decode code 652 = .ok (.iadd, 1) := by decide +kernel
theorem dL_law_653 : decode code 653 = .ok (.iaload, 1) := by decide +kernel
theorem dL_law_654 : decode code 654 = .ok (.aload_n 0, 1) := by decide +kernel
theorem dL_law_655 : decode code 655 = .ok (.iload 4, 2) := by decide +kernel
theorem dL_law_657 : decode code 657 = .ok (.iconst 2, 1) := by decide +kernel
theorem dL_law_658 : decode code 658 = .ok (.iadd, 1) := by decide +kernel
theorem dL_law_659 : decode code 659 = .ok (.iaload, 1) := by decide +kernel
theorem dL_law_660 : decode code 660 = .ok (.invokevirtual 152, 3) := by decide +kernel
theorem dL_law_663 : decode code 663 = .ok (.istore 6, 2) := by decide +kernel
theorem dL_law_665 : decode code 665 = .ok (.aload_n 2, 1) := by decide +kernel
theorem dL_law_666 : decode code 666 = .ok (.invokevirtual 129, 3) := by decide +kernel
theorem dL_law_669 : decode code 669 = .ok (.iload 5, 2) := by decide +kernel
theorem dL_law_671 : decode code 671 = .ok (.if_icmp .eq 5, 3) := by decide +kernel
theorem dL_law_674 : decode code 674 = .ok (.iconst 0, 1) := by decide +kernel
theorem dL_law_675 : decode code 675 = .ok (.ireturn, 1) := by decide +kernel
theorem dL_law_676 : decode code 676 = .ok (.iload 5, 2) := by decide +kernel
theorem dL_law_678 : decode code 678 = .ok (.ifCond .ne 22, 3) := by decide +kernel
theorem dL_law_681 : decode code 681 = .ok (.aload_n 3, 1) := by decide +kernel
theorem dL_law_682 : decode code 682 = .ok (.iconst 0, 1) := by decide +kernel
theorem dL_law_683 : decode code 683 = .ok (.laload, 1) := by decide +kernel
theorem dL_law_684 : decode code 684 = .ok (.iload 6, 2) := by decide +kernel
theorem dL_law_686 : decode code 686 = .ok (.ifCond .eq 7, 3) := by decide +kernel
theorem dL_law_689 : decode code 689 = .ok (.lconst 1, 1) := by decide +kernel
theorem dL_law_690 : decode code 690 = .ok (.goto 4, 3) := by decide +kernel
theorem dL_law_693 : decode code 693 = .ok (.lconst 0, 1) := by decide +kernel
theorem dL_law_694 : decode code 694 = .ok (.lcmp, 1) := by decide +kernel
theorem dL_law_695 : decode code 695 = .ok (.ifCond .eq 5, 3) := by decide +kernel
theorem dL_law_698 : decode code 698 = .ok (.iconst 0, 1) := by decide +kernel
theorem dL_law_699 : decode code 699 = .ok (.ireturn, 1) := by decide +kernel
theorem dL_law_700 : decode code 700 = .ok (.goto 1195, 3) := by decide +kernel
theorem dL_law_703 : decode code 703 = .ok (.aload_n 1, 1) := by decide +kernel
theorem dL_law_704 : decode code 704 = .ok (.aload_n 0, 1) := by decide +kernel
theorem dL_law_705 : decode code 705 = .ok (.iload 4, 2) := by decide +kernel
theorem dL_law_707 : decode code 707 = .ok (.iconst 1, 1) := by decide +kernel
theorem dL_law_708 : decode code 708 = .ok (.iadd, 1) := by decide +kernel
theorem dL_law_709 : decode code 709 = .ok (.iaload, 1) := by decide +kernel
theorem dL_law_710 : decode code 710 = .ok (.aload_n 0, 1) := by decide +kernel
theorem dL_law_711 : decode code 711 = .ok (.iload 4, 2) := by decide +kernel
theorem dL_law_713 : decode code 713 = .ok (.iconst 2, 1) := by decide +kernel
theorem dL_law_714 : decode code 714 = .ok (.iadd, 1) := by decide +kernel
theorem dL_law_715 : decode code 715 = .ok (.iaload, 1) := by decide +kernel
theorem dL_law_716 : decode code 716 = .ok (.aload_n 0, 1) := by decide +kernel
theorem dL_law_717 : decode code 717 = .ok (.iload 4, 2) := by decide +kernel
theorem dL_law_719 : decode code 719 = .ok (.iconst 3, 1) := by decide +kernel
theorem dL_law_720 : decode code 720 = .ok (.iadd, 1) := by decide +kernel
theorem dL_law_721 : decode code 721 = .ok (.iaload, 1) := by decide +kernel
theorem dL_law_722 : decode code 722 = .ok (.aload_n 3, 1) := by decide +kernel
theorem dL_law_723 : decode code 723 = .ok (.invokestatic 153, 3) := by decide +kernel
theorem dL_law_726 : decode code 726 = .ok (.istore 5, 2) := by decide +kernel
theorem dL_law_728 : decode code 728 = .ok (.aload_n 2, 1) := by decide +kernel
theorem dL_law_729 : decode code 729 = .ok (.aload_n 0, 1) := by decide +kernel
theorem dL_law_730 : decode code 730 = .ok (.iload 4, 2) := by decide +kernel
theorem dL_law_732 : decode code 732 = .ok (.iconst 1, 1) := by decide +kernel
theorem dL_law_733 : decode code 733 = .ok (.iadd, 1) := by decide +kernel
theorem dL_law_734 : decode code 734 = .ok (.iaload, 1) := by decide +kernel
theorem dL_law_735 : decode code 735 = .ok (.aload_n 0, 1) := by decide +kernel
theorem dL_law_736 : decode code 736 = .ok (.iload 4, 2) := by decide +kernel
theorem dL_law_738 : decode code 738 = .ok (.iconst 2, 1) := by decide +kernel
theorem dL_law_739 : decode code 739 = .ok (.iadd, 1) := by decide +kernel
theorem dL_law_740 : decode code 740 = .ok (.iaload, 1) := by decide +kernel
theorem dL_law_741 : decode code 741 = .ok (.aload_n 0, 1) := by decide +kernel
theorem dL_law_742 : decode code 742 = .ok (.iload 4, 2) := by decide +kernel
theorem dL_law_744 : decode code 744 = .ok (.iconst 3, 1) := by decide +kernel
theorem dL_law_745 : decode code 745 = .ok (.iadd, 1) := by decide +kernel
theorem dL_law_746 : decode code 746 = .ok (.iaload, 1) := by decide +kernel
theorem dL_law_747 : decode code 747 = .ok (.invokevirtual 156, 3) := by decide +kernel
theorem dL_law_750 : decode code 750 = .ok (.istore 6, 2) := by decide +kernel
theorem dL_law_752 : decode code 752 = .ok (.aload_n 2, 1) := by decide +kernel
theorem dL_law_753 : decode code 753 = .ok (.invokevirtual 129, 3) := by decide +kernel
theorem dL_law_756 : decode code 756 = .ok (.iload 5, 2) := by decide +kernel
theorem dL_law_758 : decode code 758 = .ok (.if_icmp .eq 5, 3) := by decide +kernel
theorem dL_law_761 : decode code 761 = .ok (.iconst 0, 1) := by decide +kernel
theorem dL_law_762 : decode code 762 = .ok (.ireturn, 1) := by decide +kernel
theorem dL_law_763 : decode code 763 = .ok (.iload 5, 2) := by decide +kernel
theorem dL_law_765 : decode code 765 = .ok (.ifCond .ne 15, 3) := by decide +kernel
theorem dL_law_768 : decode code 768 = .ok (.aload_n 3, 1) := by decide +kernel
theorem dL_law_769 : decode code 769 = .ok (.iconst 0, 1) := by decide +kernel
theorem dL_law_770 : decode code 770 = .ok (.laload, 1) := by decide +kernel
theorem dL_law_771 : decode code 771 = .ok (.iload 6, 2) := by decide +kernel
theorem dL_law_773 : decode code 773 = .ok (.i2l, 1) := by decide +kernel
theorem dL_law_774 : decode code 774 = .ok (.lcmp, 1) := by decide +kernel
theorem dL_law_775 : decode code 775 = .ok (.ifCond .eq 5, 3) := by decide +kernel
theorem dL_law_778 : decode code 778 = .ok (.iconst 0, 1) := by decide +kernel
theorem dL_law_779 : decode code 779 = .ok (.ireturn, 1) := by decide +kernel
theorem dL_law_780 : decode code 780 = .ok (.goto 1115, 3) := by decide +kernel
theorem dL_law_783 : decode code 783 = .ok (.aload_n 1, 1) := by decide +kernel
theorem dL_law_784 : decode code 784 = .ok (.aload_n 0, 1) := by decide +kernel
theorem dL_law_785 : decode code 785 = .ok (.iload 4, 2) := by decide +kernel
theorem dL_law_787 : decode code 787 = .ok (.iconst 1, 1) := by decide +kernel
theorem dL_law_788 : decode code 788 = .ok (.iadd, 1) := by decide +kernel
theorem dL_law_789 : decode code 789 = .ok (.iaload, 1) := by decide +kernel
theorem dL_law_790 : decode code 790 = .ok (.aload_n 3, 1) := by decide +kernel
theorem dL_law_791 : decode code 791 = .ok (.invokestatic 157, 3) := by decide +kernel
theorem dL_law_794 : decode code 794 = .ok (.istore 5, 2) := by decide +kernel
theorem dL_law_796 : decode code 796 = .ok (.aload_n 2, 1) := by decide +kernel
theorem dL_law_797 : decode code 797 = .ok (.aload_n 0, 1) := by decide +kernel
theorem dL_law_798 : decode code 798 = .ok (.iload 4, 2) := by decide +kernel
theorem dL_law_800 : decode code 800 = .ok (.iconst 1, 1) := by decide +kernel
theorem dL_law_801 : decode code 801 = .ok (.iadd, 1) := by decide +kernel
theorem dL_law_802 : decode code 802 = .ok (.iaload, 1) := by decide +kernel
theorem dL_law_803 : decode code 803 = .ok (.invokevirtual 159, 3) := by decide +kernel
theorem dL_law_806 : decode code 806 = .ok (.istore 6, 2) := by decide +kernel
theorem dL_law_808 : decode code 808 = .ok (.aload_n 2, 1) := by decide +kernel
theorem dL_law_809 : decode code 809 = .ok (.invokevirtual 129, 3) := by decide +kernel
theorem dL_law_812 : decode code 812 = .ok (.iload 5, 2) := by decide +kernel
theorem dL_law_814 : decode code 814 = .ok (.if_icmp .eq 5, 3) := by decide +kernel
theorem dL_law_817 : decode code 817 = .ok (.iconst 0, 1) := by decide +kernel
theorem dL_law_818 : decode code 818 = .ok (.ireturn, 1) := by decide +kernel
theorem dL_law_819 : decode code 819 = .ok (.iload 5, 2) := by decide +kernel
theorem dL_law_821 : decode code 821 = .ok (.ifCond .ne 15, 3) := by decide +kernel
theorem dL_law_824 : decode code 824 = .ok (.aload_n 3, 1) := by decide +kernel
theorem dL_law_825 : decode code 825 = .ok (.iconst 0, 1) := by decide +kernel
theorem dL_law_826 : decode code 826 = .ok (.laload, 1) := by decide +kernel
theorem dL_law_827 : decode code 827 = .ok (.iload 6, 2) := by decide +kernel
theorem dL_law_829 : decode code 829 = .ok (.i2l, 1) := by decide +kernel
theorem dL_law_830 : decode code 830 = .ok (.lcmp, 1) := by decide +kernel
theorem dL_law_831 : decode code 831 = .ok (.ifCond .eq 5, 3) := by decide +kernel
theorem dL_law_834 : decode code 834 = .ok (.iconst 0, 1) := by decide +kernel
theorem dL_law_835 : decode code 835 = .ok (.ireturn, 1) := by decide +kernel
theorem dL_law_836 : decode code 836 = .ok (.goto 1059, 3) := by decide +kernel
theorem dL_law_839 : decode code 839 = .ok (.aload_n 1, 1) := by decide +kernel
theorem dL_law_840 : decode code 840 = .ok (.invokevirtual 160, 3) := by decide +kernel
theorem dL_law_843 : decode code 843 = .ok (.aload_n 2, 1) := by decide +kernel
theorem dL_law_844 : decode code 844 = .ok (.invokevirtual 163, 3) := by decide +kernel
theorem dL_law_847 : decode code 847 = .ok (.if_icmp .eq 1048, 3) := by decide +kernel
theorem dL_law_850 : decode code 850 = .ok (.iconst 0, 1) := by decide +kernel
theorem dL_law_851 : decode code 851 = .ok (.ireturn, 1) := by decide +kernel
theorem dL_law_852 : decode code 852 = .ok (.aload_n 1, 1) := by decide +kernel
theorem dL_law_853 : decode code 853 = .ok (.aload_n 0, 1) := by decide +kernel
theorem dL_law_854 : decode code 854 = .ok (.iload 4, 2) := by decide +kernel
theorem dL_law_856 : decode code 856 = .ok (.iconst 1, 1) := by decide +kernel
theorem dL_law_857 : decode code 857 = .ok (.iadd, 1) := by decide +kernel
theorem dL_law_858 : decode code 858 = .ok (.iaload, 1) := by decide +kernel
theorem dL_law_859 : decode code 859 = .ok (.aload_n 0, 1) := by decide +kernel
theorem dL_law_860 : decode code 860 = .ok (.iload 4, 2) := by decide +kernel
theorem dL_law_862 : decode code 862 = .ok (.iconst 2, 1) := by decide +kernel
theorem dL_law_863 : decode code 863 = .ok (.iadd, 1) := by decide +kernel
theorem dL_law_864 : decode code 864 = .ok (.iaload, 1) := by decide +kernel
theorem dL_law_865 : decode code 865 = .ok (.aload_n 0, 1) := by decide +kernel
theorem dL_law_866 : decode code 866 = .ok (.iload 4, 2) := by decide +kernel
theorem dL_law_868 : decode code 868 = .ok (.iconst 3, 1) := by decide +kernel
theorem dL_law_869 : decode code 869 = .ok (.iadd, 1) := by decide +kernel
theorem dL_law_870 : decode code 870 = .ok (.iaload, 1) := by decide +kernel
theorem dL_law_871 : decode code 871 = .ok (.ifCond .eq 7, 3) := by decide +kernel
theorem dL_law_874 : decode code 874 = .ok (.iconst 1, 1) := by decide +kernel
theorem dL_law_875 : decode code 875 = .ok (.goto 4, 3) := by decide +kernel
theorem dL_law_878 : decode code 878 = .ok (.iconst 0, 1) := by decide +kernel
theorem dL_law_879 : decode code 879 = .ok (.aload_n 3, 1) := by decide +kernel
theorem dL_law_880 : decode code 880 = .ok (.invokestatic 164, 3) := by decide +kernel
theorem dL_law_883 : decode code 883 = .ok (.istore 5, 2) := by decide +kernel
theorem dL_law_885 : decode code 885 = .ok (.aload_n 2, 1) := by decide +kernel
theorem dL_law_886 : decode code 886 = .ok (.aload_n 0, 1) := by decide +kernel
theorem dL_law_887 : decode code 887 = .ok (.iload 4, 2) := by decide +kernel
theorem dL_law_889 : decode code 889 = .ok (.iconst 1, 1) := by decide +kernel
theorem dL_law_890 : decode code 890 = .ok (.iadd, 1) := by decide +kernel
theorem dL_law_891 : decode code 891 = .ok (.iaload, 1) := by decide +kernel
theorem dL_law_892 : decode code 892 = .ok (.aload_n 0, 1) := by decide +kernel
theorem dL_law_893 : decode code 893 = .ok (.iload 4, 2) := by decide +kernel
theorem dL_law_895 : decode code 895 = .ok (.iconst 2, 1) := by decide +kernel
theorem dL_law_896 : decode code 896 = .ok (.iadd, 1) := by decide +kernel
theorem dL_law_897 : decode code 897 = .ok (.iaload, 1) := by decide +kernel
theorem dL_law_898 : decode code 898 = .ok (.aload_n 0, 1) := by decide +kernel
theorem dL_law_899 : decode code 899 = .ok (.iload 4, 2) := by decide +kernel
theorem dL_law_901 : decode code 901 = .ok (.iconst 3, 1) := by decide +kernel
theorem dL_law_902 : decode code 902 = .ok (.iadd, 1) := by decide +kernel
theorem dL_law_903 : decode code 903 = .ok (.iaload, 1) := by decide +kernel
theorem dL_law_904 : decode code 904 = .ok (.ifCond .eq 7, 3) := by decide +kernel
theorem dL_law_907 : decode code 907 = .ok (.iconst 1, 1) := by decide +kernel
theorem dL_law_908 : decode code 908 = .ok (.goto 4, 3) := by decide +kernel
theorem dL_law_911 : decode code 911 = .ok (.iconst 0, 1) := by decide +kernel
theorem dL_law_912 : decode code 912 = .ok (.invokevirtual 167, 3) := by decide +kernel
theorem dL_law_915 : decode code 915 = .ok (.istore 6, 2) := by decide +kernel
theorem dL_law_917 : decode code 917 = .ok (.aload_n 2, 1) := by decide +kernel
theorem dL_law_918 : decode code 918 = .ok (.invokevirtual 129, 3) := by decide +kernel
theorem dL_law_921 : decode code 921 = .ok (.iload 5, 2) := by decide +kernel
theorem dL_law_923 : decode code 923 = .ok (.if_icmp .eq 5, 3) := by decide +kernel
theorem dL_law_926 : decode code 926 = .ok (.iconst 0, 1) := by decide +kernel
theorem dL_law_927 : decode code 927 = .ok (.ireturn, 1) := by decide +kernel
theorem dL_law_928 : decode code 928 = .ok (.iload 5, 2) := by decide +kernel
theorem dL_law_930 : decode code 930 = .ok (.ifCond .ne 15, 3) := by decide +kernel
theorem dL_law_933 : decode code 933 = .ok (.aload_n 3, 1) := by decide +kernel
theorem dL_law_934 : decode code 934 = .ok (.iconst 0, 1) := by decide +kernel
theorem dL_law_935 : decode code 935 = .ok (.laload, 1) := by decide +kernel
theorem dL_law_936 : decode code 936 = .ok (.iload 6, 2) := by decide +kernel
theorem dL_law_938 : decode code 938 = .ok (.i2l, 1) := by decide +kernel
theorem dL_law_939 : decode code 939 = .ok (.lcmp, 1) := by decide +kernel
theorem dL_law_940 : decode code 940 = .ok (.ifCond .eq 5, 3) := by decide +kernel
theorem dL_law_943 : decode code 943 = .ok (.iconst 0, 1) := by decide +kernel
theorem dL_law_944 : decode code 944 = .ok (.ireturn, 1) := by decide +kernel
theorem dL_law_945 : decode code 945 = .ok (.goto 950, 3) := by decide +kernel
theorem dL_law_948 : decode code 948 = .ok (.aload_n 1, 1) := by decide +kernel
theorem dL_law_949 : decode code 949 = .ok (.invokevirtual 168, 3) := by decide +kernel
theorem dL_law_952 : decode code 952 = .ok (.aload_n 2, 1) := by decide +kernel
theorem dL_law_953 : decode code 953 = .ok (.invokevirtual 171, 3) := by decide +kernel
theorem dL_law_956 : decode code 956 = .ok (.if_icmp .eq 939, 3) := by decide +kernel
theorem dL_law_959 : decode code 959 = .ok (.iconst 0, 1) := by decide +kernel
theorem dL_law_960 : decode code 960 = .ok (.ireturn, 1) := by decide +kernel
theorem dL_law_961 : decode code 961 = .ok (.aload_n 1, 1) := by decide +kernel
theorem dL_law_962 : decode code 962 = .ok (.aload_n 0, 1) := by decide +kernel
theorem dL_law_963 : decode code 963 = .ok (.iload 4, 2) := by decide +kernel
theorem dL_law_965 : decode code 965 = .ok (.iconst 1, 1) := by decide +kernel
theorem dL_law_966 : decode code 966 = .ok (.iadd, 1) := by decide +kernel
theorem dL_law_967 : decode code 967 = .ok (.iaload, 1) := by decide +kernel
theorem dL_law_968 : decode code 968 = .ok (.aload_n 3, 1) := by decide +kernel
theorem dL_law_969 : decode code 969 = .ok (.invokestatic 172, 3) := by decide +kernel
theorem dL_law_972 : decode code 972 = .ok (.istore 5, 2) := by decide +kernel
theorem dL_law_974 : decode code 974 = .ok (.aload_n 2, 1) := by decide +kernel
theorem dL_law_975 : decode code 975 = .ok (.aload_n 0, 1) := by decide +kernel
theorem dL_law_976 : decode code 976 = .ok (.iload 4, 2) := by decide +kernel
theorem dL_law_978 : decode code 978 = .ok (.iconst 1, 1) := by decide +kernel
theorem dL_law_979 : decode code 979 = .ok (.iadd, 1) := by decide +kernel
theorem dL_law_980 : decode code 980 = .ok (.iaload, 1) := by decide +kernel
theorem dL_law_981 : decode code 981 = .ok (.invokevirtual 174, 3) := by decide +kernel
theorem dL_law_984 : decode code 984 = .ok (.istore 6, 2) := by decide +kernel
theorem dL_law_986 : decode code 986 = .ok (.aload_n 2, 1) := by decide +kernel
theorem dL_law_987 : decode code 987 = .ok (.invokevirtual 129, 3) := by decide +kernel
theorem dL_law_990 : decode code 990 = .ok (.iload 5, 2) := by decide +kernel
theorem dL_law_992 : decode code 992 = .ok (.if_icmp .eq 5, 3) := by decide +kernel
theorem dL_law_995 : decode code 995 = .ok (.iconst 0, 1) := by decide +kernel
theorem dL_law_996 : decode code 996 = .ok (.ireturn, 1) := by decide +kernel
theorem dL_law_997 : decode code 997 = .ok (.iload 5, 2) := by decide +kernel
theorem dL_law_999 : decode code 999 = .ok (.ifCond .ne 15, 3) := by decide +kernel
theorem dL_law_1002 : decode code 1002 = .ok (.aload_n 3, 1) := by decide +kernel
theorem dL_law_1003 : decode code 1003 = .ok (.iconst 0, 1) := by decide +kernel
theorem dL_law_1004 : decode code 1004 = .ok (.laload, 1) := by decide +kernel
theorem dL_law_1005 : decode code 1005 = .ok (.iload 6, 2) := by decide +kernel
theorem dL_law_1007 : decode code 1007 = .ok (.i2l, 1) := by decide +kernel
theorem dL_law_1008 : decode code 1008 = .ok (.lcmp, 1) := by decide +kernel
theorem dL_law_1009 : decode code 1009 = .ok (.ifCond .eq 5, 3) := by decide +kernel
theorem dL_law_1012 : decode code 1012 = .ok (.iconst 0, 1) := by decide +kernel
theorem dL_law_1013 : decode code 1013 = .ok (.ireturn, 1) := by decide +kernel
theorem dL_law_1014 : decode code 1014 = .ok (.goto 881, 3) := by decide +kernel
theorem dL_law_1017 : decode code 1017 = .ok (.aload_n 1, 1) := by decide +kernel
theorem dL_law_1018 : decode code 1018 = .ok (.aload_n 0, 1) := by decide +kernel
theorem dL_law_1019 : decode code 1019 = .ok (.iload 4, 2) := by decide +kernel
theorem dL_law_1021 : decode code 1021 = .ok (.iconst 1, 1) := by decide +kernel
theorem dL_law_1022 : decode code 1022 = .ok (.iadd, 1) := by decide +kernel
theorem dL_law_1023 : decode code 1023 = .ok (.iaload, 1) := by decide +kernel
theorem dL_law_1024 : decode code 1024 = .ok (.aload_n 0, 1) := by decide +kernel
theorem dL_law_1025 : decode code 1025 = .ok (.iload 4, 2) := by decide +kernel
theorem dL_law_1027 : decode code 1027 = .ok (.iconst 2, 1) := by decide +kernel
theorem dL_law_1028 : decode code 1028 = .ok (.iadd, 1) := by decide +kernel
theorem dL_law_1029 : decode code 1029 = .ok (.iaload, 1) := by decide +kernel
theorem dL_law_1030 : decode code 1030 = .ok (.aload_n 3, 1) := by decide +kernel
theorem dL_law_1031 : decode code 1031 = .ok (.invokestatic 175, 3) := by decide +kernel
theorem dL_law_1034 : decode code 1034 = .ok (.istore 5, 2) := by decide +kernel
theorem dL_law_1036 : decode code 1036 = .ok (.aload_n 2, 1) := by decide +kernel
theorem dL_law_1037 : decode code 1037 = .ok (.aload_n 0, 1) := by decide +kernel
theorem dL_law_1038 : decode code 1038 = .ok (.iload 4, 2) := by decide +kernel
theorem dL_law_1040 : decode code 1040 = .ok (.iconst 1, 1) := by decide +kernel
theorem dL_law_1041 : decode code 1041 = .ok (.iadd, 1) := by decide +kernel
theorem dL_law_1042 : decode code 1042 = .ok (.iaload, 1) := by decide +kernel
theorem dL_law_1043 : decode code 1043 = .ok (.aload_n 0, 1) := by decide +kernel
theorem dL_law_1044 : decode code 1044 = .ok (.iload 4, 2) := by decide +kernel
theorem dL_law_1046 : decode code 1046 = .ok (.iconst 2, 1) := by decide +kernel
theorem dL_law_1047 : decode code 1047 = .ok (.iadd, 1) := by decide +kernel
theorem dL_law_1048 : decode code 1048 = .ok (.iaload, 1) := by decide +kernel
theorem dL_law_1049 : decode code 1049 = .ok (.invokevirtual 177, 3) := by decide +kernel
theorem dL_law_1052 : decode code 1052 = .ok (.istore 6, 2) := by decide +kernel
theorem dL_law_1054 : decode code 1054 = .ok (.aload_n 2, 1) := by decide +kernel
theorem dL_law_1055 : decode code 1055 = .ok (.invokevirtual 129, 3) := by decide +kernel
theorem dL_law_1058 : decode code 1058 = .ok (.iload 5, 2) := by decide +kernel
theorem dL_law_1060 : decode code 1060 = .ok (.if_icmp .eq 5, 3) := by decide +kernel
theorem dL_law_1063 : decode code 1063 = .ok (.iconst 0, 1) := by decide +kernel
theorem dL_law_1064 : decode code 1064 = .ok (.ireturn, 1) := by decide +kernel
theorem dL_law_1065 : decode code 1065 = .ok (.iload 5, 2) := by decide +kernel
theorem dL_law_1067 : decode code 1067 = .ok (.ifCond .ne 15, 3) := by decide +kernel
theorem dL_law_1070 : decode code 1070 = .ok (.aload_n 3, 1) := by decide +kernel
theorem dL_law_1071 : decode code 1071 = .ok (.iconst 0, 1) := by decide +kernel
theorem dL_law_1072 : decode code 1072 = .ok (.laload, 1) := by decide +kernel
theorem dL_law_1073 : decode code 1073 = .ok (.iload 6, 2) := by decide +kernel
theorem dL_law_1075 : decode code 1075 = .ok (.i2l, 1) := by decide +kernel
theorem dL_law_1076 : decode code 1076 = .ok (.lcmp, 1) := by decide +kernel
theorem dL_law_1077 : decode code 1077 = .ok (.ifCond .eq 5, 3) := by decide +kernel
theorem dL_law_1080 : decode code 1080 = .ok (.iconst 0, 1) := by decide +kernel
theorem dL_law_1081 : decode code 1081 = .ok (.ireturn, 1) := by decide +kernel
theorem dL_law_1082 : decode code 1082 = .ok (.goto 813, 3) := by decide +kernel
theorem dL_law_1085 : decode code 1085 = .ok (.aload_n 1, 1) := by decide +kernel
theorem dL_law_1086 : decode code 1086 = .ok (.aload_n 0, 1) := by decide +kernel
theorem dL_law_1087 : decode code 1087 = .ok (.iload 4, 2) := by decide +kernel
theorem dL_law_1089 : decode code 1089 = .ok (.iconst 1, 1) := by decide +kernel
theorem dL_law_1090 : decode code 1090 = .ok (.iadd, 1) := by decide +kernel
theorem dL_law_1091 : decode code 1091 = .ok (.iaload, 1) := by decide +kernel
theorem dL_law_1092 : decode code 1092 = .ok (.aload_n 3, 1) := by decide +kernel
theorem dL_law_1093 : decode code 1093 = .ok (.invokestatic 178, 3) := by decide +kernel
theorem dL_law_1096 : decode code 1096 = .ok (.istore 5, 2) := by decide +kernel
theorem dL_law_1098 : decode code 1098 = .ok (.aload_n 2, 1) := by decide +kernel
theorem dL_law_1099 : decode code 1099 = .ok (.aload_n 0, 1) := by decide +kernel
theorem dL_law_1100 : decode code 1100 = .ok (.iload 4, 2) := by decide +kernel
theorem dL_law_1102 : decode code 1102 = .ok (.iconst 1, 1) := by decide +kernel
theorem dL_law_1103 : decode code 1103 = .ok (.iadd, 1) := by decide +kernel
theorem dL_law_1104 : decode code 1104 = .ok (.iaload, 1) := by decide +kernel
theorem dL_law_1105 : decode code 1105 = .ok (.invokevirtual 180, 3) := by decide +kernel
theorem dL_law_1108 : decode code 1108 = .ok (.istore 6, 2) := by decide +kernel
theorem dL_law_1110 : decode code 1110 = .ok (.aload_n 2, 1) := by decide +kernel
theorem dL_law_1111 : decode code 1111 = .ok (.invokevirtual 129, 3) := by decide +kernel
theorem dL_law_1114 : decode code 1114 = .ok (.iload 5, 2) := by decide +kernel
theorem dL_law_1116 : decode code 1116 = .ok (.if_icmp .eq 5, 3) := by decide +kernel
theorem dL_law_1119 : decode code 1119 = .ok (.iconst 0, 1) := by decide +kernel
theorem dL_law_1120 : decode code 1120 = .ok (.ireturn, 1) := by decide +kernel
theorem dL_law_1121 : decode code 1121 = .ok (.iload 5, 2) := by decide +kernel
theorem dL_law_1123 : decode code 1123 = .ok (.ifCond .ne 15, 3) := by decide +kernel
theorem dL_law_1126 : decode code 1126 = .ok (.aload_n 3, 1) := by decide +kernel
theorem dL_law_1127 : decode code 1127 = .ok (.iconst 0, 1) := by decide +kernel
theorem dL_law_1128 : decode code 1128 = .ok (.laload, 1) := by decide +kernel
theorem dL_law_1129 : decode code 1129 = .ok (.iload 6, 2) := by decide +kernel
theorem dL_law_1131 : decode code 1131 = .ok (.i2l, 1) := by decide +kernel
theorem dL_law_1132 : decode code 1132 = .ok (.lcmp, 1) := by decide +kernel
theorem dL_law_1133 : decode code 1133 = .ok (.ifCond .eq 5, 3) := by decide +kernel
theorem dL_law_1136 : decode code 1136 = .ok (.iconst 0, 1) := by decide +kernel
theorem dL_law_1137 : decode code 1137 = .ok (.ireturn, 1) := by decide +kernel
theorem dL_law_1138 : decode code 1138 = .ok (.goto 757, 3) := by decide +kernel
theorem dL_law_1141 : decode code 1141 = .ok (.aload_n 1, 1) := by decide +kernel
theorem dL_law_1142 : decode code 1142 = .ok (.aload_n 0, 1) := by decide +kernel
theorem dL_law_1143 : decode code 1143 = .ok (.iload 4, 2) := by decide +kernel
theorem dL_law_1145 : decode code 1145 = .ok (.iconst 1, 1) := by decide +kernel
theorem dL_law_1146 : decode code 1146 = .ok (.iadd, 1) := by decide +kernel
theorem dL_law_1147 : decode code 1147 = .ok (.iaload, 1) := by decide +kernel
theorem dL_law_1148 : decode code 1148 = .ok (.aload_n 3, 1) := by decide +kernel
theorem dL_law_1149 : decode code 1149 = .ok (.invokestatic 181, 3) := by decide +kernel
theorem dL_law_1152 : decode code 1152 = .ok (.istore 5, 2) := by decide +kernel
theorem dL_law_1154 : decode code 1154 = .ok (.aload_n 2, 1) := by decide +kernel
theorem dL_law_1155 : decode code 1155 = .ok (.aload_n 0, 1) := by decide +kernel
theorem dL_law_1156 : decode code 1156 = .ok (.iload 4, 2) := by decide +kernel
theorem dL_law_1158 : decode code 1158 = .ok (.iconst 1, 1) := by decide +kernel
theorem dL_law_1159 : decode code 1159 = .ok (.iadd, 1) := by decide +kernel
theorem dL_law_1160 : decode code 1160 = .ok (.iaload, 1) := by decide +kernel
theorem dL_law_1161 : decode code 1161 = .ok (.invokevirtual 183, 3) := by decide +kernel
theorem dL_law_1164 : decode code 1164 = .ok (.istore 6, 2) := by decide +kernel
theorem dL_law_1166 : decode code 1166 = .ok (.aload_n 2, 1) := by decide +kernel
theorem dL_law_1167 : decode code 1167 = .ok (.invokevirtual 129, 3) := by decide +kernel
theorem dL_law_1170 : decode code 1170 = .ok (.iload 5, 2) := by decide +kernel
theorem dL_law_1172 : decode code 1172 = .ok (.if_icmp .eq 5, 3) := by decide +kernel
theorem dL_law_1175 : decode code 1175 = .ok (.iconst 0, 1) := by decide +kernel
theorem dL_law_1176 : decode code 1176 = .ok (.ireturn, 1) := by decide +kernel
theorem dL_law_1177 : decode code 1177 = .ok (.iload 5, 2) := by decide +kernel
theorem dL_law_1179 : decode code 1179 = .ok (.ifCond .ne 15, 3) := by decide +kernel
theorem dL_law_1182 : decode code 1182 = .ok (.aload_n 3, 1) := by decide +kernel
theorem dL_law_1183 : decode code 1183 = .ok (.iconst 0, 1) := by decide +kernel
theorem dL_law_1184 : decode code 1184 = .ok (.laload, 1) := by decide +kernel
theorem dL_law_1185 : decode code 1185 = .ok (.iload 6, 2) := by decide +kernel
theorem dL_law_1187 : decode code 1187 = .ok (.i2l, 1) := by decide +kernel
theorem dL_law_1188 : decode code 1188 = .ok (.lcmp, 1) := by decide +kernel
theorem dL_law_1189 : decode code 1189 = .ok (.ifCond .eq 5, 3) := by decide +kernel
theorem dL_law_1192 : decode code 1192 = .ok (.iconst 0, 1) := by decide +kernel
theorem dL_law_1193 : decode code 1193 = .ok (.ireturn, 1) := by decide +kernel
theorem dL_law_1194 : decode code 1194 = .ok (.goto 701, 3) := by decide +kernel
theorem dL_law_1197 : decode code 1197 = .ok (.aload_n 1, 1) := by decide +kernel
theorem dL_law_1198 : decode code 1198 = .ok (.invokevirtual 184, 3) := by decide +kernel
theorem dL_law_1201 : decode code 1201 = .ok (.aload_n 2, 1) := by decide +kernel
theorem dL_law_1202 : decode code 1202 = .ok (.invokevirtual 187, 3) := by decide +kernel
theorem dL_law_1205 : decode code 1205 = .ok (.if_icmp .eq 690, 3) := by decide +kernel
theorem dL_law_1208 : decode code 1208 = .ok (.iconst 0, 1) := by decide +kernel
theorem dL_law_1209 : decode code 1209 = .ok (.ireturn, 1) := by decide +kernel
theorem dL_law_1210 : decode code 1210 = .ok (.aload_n 1, 1) := by decide +kernel
theorem dL_law_1211 : decode code 1211 = .ok (.aload_n 0, 1) := by decide +kernel
theorem dL_law_1212 : decode code 1212 = .ok (.iload 4, 2) := by decide +kernel
theorem dL_law_1214 : decode code 1214 = .ok (.iconst 1, 1) := by decide +kernel
theorem dL_law_1215 : decode code 1215 = .ok (.iadd, 1) := by decide +kernel
theorem dL_law_1216 : decode code 1216 = .ok (.iaload, 1) := by decide +kernel
theorem dL_law_1217 : decode code 1217 = .ok (.aload_n 3, 1) := by decide +kernel
theorem dL_law_1218 : decode code 1218 = .ok (.invokestatic 188, 3) := by decide +kernel
theorem dL_law_1221 : decode code 1221 = .ok (.istore 5, 2) := by decide +kernel
theorem dL_law_1223 : decode code 1223 = .ok (.aload_n 2, 1) := by decide +kernel
theorem dL_law_1224 : decode code 1224 = .ok (.aload_n 0, 1) := by decide +kernel
theorem dL_law_1225 : decode code 1225 = .ok (.iload 4, 2) := by decide +kernel
theorem dL_law_1227 : decode code 1227 = .ok (.iconst 1, 1) := by decide +kernel
theorem dL_law_1228 : decode code 1228 = .ok (.iadd, 1) := by decide +kernel
theorem dL_law_1229 : decode code 1229 = .ok (.iaload, 1) := by decide +kernel
theorem dL_law_1230 : decode code 1230 = .ok (.invokevirtual 190, 3) := by decide +kernel
theorem dL_law_1233 : decode code 1233 = .ok (.istore 6, 2) := by decide +kernel
theorem dL_law_1235 : decode code 1235 = .ok (.aload_n 2, 1) := by decide +kernel
theorem dL_law_1236 : decode code 1236 = .ok (.invokevirtual 129, 3) := by decide +kernel
theorem dL_law_1239 : decode code 1239 = .ok (.iload 5, 2) := by decide +kernel
theorem dL_law_1241 : decode code 1241 = .ok (.if_icmp .eq 5, 3) := by decide +kernel
theorem dL_law_1244 : decode code 1244 = .ok (.iconst 0, 1) := by decide +kernel
theorem dL_law_1245 : decode code 1245 = .ok (.ireturn, 1) := by decide +kernel
theorem dL_law_1246 : decode code 1246 = .ok (.iload 5, 2) := by decide +kernel
theorem dL_law_1248 : decode code 1248 = .ok (.ifCond .ne 15, 3) := by decide +kernel
theorem dL_law_1251 : decode code 1251 = .ok (.aload_n 3, 1) := by decide +kernel
theorem dL_law_1252 : decode code 1252 = .ok (.iconst 0, 1) := by decide +kernel
theorem dL_law_1253 : decode code 1253 = .ok (.laload, 1) := by decide +kernel
theorem dL_law_1254 : decode code 1254 = .ok (.iload 6, 2) := by decide +kernel
theorem dL_law_1256 : decode code 1256 = .ok (.i2l, 1) := by decide +kernel
theorem dL_law_1257 : decode code 1257 = .ok (.lcmp, 1) := by decide +kernel
theorem dL_law_1258 : decode code 1258 = .ok (.ifCond .eq 5, 3) := by decide +kernel
theorem dL_law_1261 : decode code 1261 = .ok (.iconst 0, 1) := by decide +kernel
theorem dL_law_1262 : decode code 1262 = .ok (.ireturn, 1) := by decide +kernel
theorem dL_law_1263 : decode code 1263 = .ok (.goto 632, 3) := by decide +kernel
theorem dL_law_1266 : decode code 1266 = .ok (.aload_n 1, 1) := by decide +kernel
theorem dL_law_1267 : decode code 1267 = .ok (.aload_n 0, 1) := by decide +kernel
theorem dL_law_1268 : decode code 1268 = .ok (.iload 4, 2) := by decide +kernel
theorem dL_law_1270 : decode code 1270 = .ok (.iconst 1, 1) := by decide +kernel
theorem dL_law_1271 : decode code 1271 = .ok (.iadd, 1) := by decide +kernel
theorem dL_law_1272 : decode code 1272 = .ok (.iaload, 1) := by decide +kernel
theorem dL_law_1273 : decode code 1273 = .ok (.aload_n 0, 1) := by decide +kernel
theorem dL_law_1274 : decode code 1274 = .ok (.iload 4, 2) := by decide +kernel
theorem dL_law_1276 : decode code 1276 = .ok (.iconst 2, 1) := by decide +kernel
theorem dL_law_1277 : decode code 1277 = .ok (.iadd, 1) := by decide +kernel
theorem dL_law_1278 : decode code 1278 = .ok (.iaload, 1) := by decide +kernel
theorem dL_law_1279 : decode code 1279 = .ok (.aload_n 3, 1) := by decide +kernel
theorem dL_law_1280 : decode code 1280 = .ok (.invokestatic 191, 3) := by decide +kernel
theorem dL_law_1283 : decode code 1283 = .ok (.istore 5, 2) := by decide +kernel
theorem dL_law_1285 : decode code 1285 = .ok (.aload_n 2, 1) := by decide +kernel
theorem dL_law_1286 : decode code 1286 = .ok (.aload_n 0, 1) := by decide +kernel
theorem dL_law_1287 : decode code 1287 = .ok (.iload 4, 2) := by decide +kernel
theorem dL_law_1289 : decode code 1289 = .ok (.iconst 1, 1) := by decide +kernel
theorem dL_law_1290 : decode code 1290 = .ok (.iadd, 1) := by decide +kernel
theorem dL_law_1291 : decode code 1291 = .ok (.iaload, 1) := by decide +kernel
theorem dL_law_1292 : decode code 1292 = .ok (.aload_n 0, 1) := by decide +kernel
theorem dL_law_1293 : decode code 1293 = .ok (.iload 4, 2) := by decide +kernel
theorem dL_law_1295 : decode code 1295 = .ok (.iconst 2, 1) := by decide +kernel
theorem dL_law_1296 : decode code 1296 = .ok (.iadd, 1) := by decide +kernel
theorem dL_law_1297 : decode code 1297 = .ok (.iaload, 1) := by decide +kernel
theorem dL_law_1298 : decode code 1298 = .ok (.invokevirtual 193, 3) := by decide +kernel
theorem dL_law_1301 : decode code 1301 = .ok (.istore 6, 2) := by decide +kernel
theorem dL_law_1303 : decode code 1303 = .ok (.aload_n 2, 1) := by decide +kernel
theorem dL_law_1304 : decode code 1304 = .ok (.invokevirtual 129, 3) := by decide +kernel
theorem dL_law_1307 : decode code 1307 = .ok (.iload 5, 2) := by decide +kernel
theorem dL_law_1309 : decode code 1309 = .ok (.if_icmp .eq 5, 3) := by decide +kernel
theorem dL_law_1312 : decode code 1312 = .ok (.iconst 0, 1) := by decide +kernel
theorem dL_law_1313 : decode code 1313 = .ok (.ireturn, 1) := by decide +kernel
theorem dL_law_1314 : decode code 1314 = .ok (.iload 5, 2) := by decide +kernel
theorem dL_law_1316 : decode code 1316 = .ok (.ifCond .ne 15, 3) := by decide +kernel
theorem dL_law_1319 : decode code 1319 = .ok (.aload_n 3, 1) := by decide +kernel
theorem dL_law_1320 : decode code 1320 = .ok (.iconst 0, 1) := by decide +kernel
theorem dL_law_1321 : decode code 1321 = .ok (.laload, 1) := by decide +kernel
theorem dL_law_1322 : decode code 1322 = .ok (.iload 6, 2) := by decide +kernel
theorem dL_law_1324 : decode code 1324 = .ok (.i2l, 1) := by decide +kernel
theorem dL_law_1325 : decode code 1325 = .ok (.lcmp, 1) := by decide +kernel
theorem dL_law_1326 : decode code 1326 = .ok (.ifCond .eq 5, 3) := by decide +kernel
theorem dL_law_1329 : decode code 1329 = .ok (.iconst 0, 1) := by decide +kernel
theorem dL_law_1330 : decode code 1330 = .ok (.ireturn, 1) := by decide +kernel
theorem dL_law_1331 : decode code 1331 = .ok (.goto 564, 3) := by decide +kernel
theorem dL_law_1334 : decode code 1334 = .ok (.aload_n 1, 1) := by decide +kernel
theorem dL_law_1335 : decode code 1335 = .ok (.invokevirtual 194, 3) := by decide +kernel
theorem dL_law_1338 : decode code 1338 = .ok (.aload_n 2, 1) := by decide +kernel
theorem dL_law_1339 : decode code 1339 = .ok (.invokevirtual 197, 3) := by decide +kernel
theorem dL_law_1342 : decode code 1342 = .ok (.if_icmp .eq 553, 3) := by decide +kernel
theorem dL_law_1345 : decode code 1345 = .ok (.iconst 0, 1) := by decide +kernel
theorem dL_law_1346 : decode code 1346 = .ok (.ireturn, 1) := by decide +kernel
theorem dL_law_1347 : decode code 1347 = .ok (.aload_n 1, 1) := by decide +kernel
theorem dL_law_1348 : decode code 1348 = .ok (.invokevirtual 198, 3) := by decide +kernel
theorem dL_law_1351 : decode code 1351 = .ok (.aload_n 2, 1) := by decide +kernel
theorem dL_law_1352 : decode code 1352 = .ok (.invokevirtual 201, 3) := by decide +kernel
theorem dL_law_1355 : decode code 1355 = .ok (.if_icmp .eq 540, 3) := by decide +kernel
theorem dL_law_1358 : decode code 1358 = .ok (.iconst 0, 1) := by decide +kernel
theorem dL_law_1359 : decode code 1359 = .ok (.ireturn, 1) := by decide +kernel
theorem dL_law_1360 : decode code 1360 = .ok (.aload_n 1, 1) := by decide +kernel
theorem dL_law_1361 : decode code 1361 = .ok (.aload_n 0, 1) := by decide +kernel
theorem dL_law_1362 : decode code 1362 = .ok (.iload 4, 2) := by decide +kernel
theorem dL_law_1364 : decode code 1364 = .ok (.iconst 1, 1) := by decide +kernel
theorem dL_law_1365 : decode code 1365 = .ok (.iadd, 1) := by decide +kernel
theorem dL_law_1366 : decode code 1366 = .ok (.iaload, 1) := by decide +kernel
theorem dL_law_1367 : decode code 1367 = .ok (.aload_n 3, 1) := by decide +kernel
theorem dL_law_1368 : decode code 1368 = .ok (.invokestatic 202, 3) := by decide +kernel
theorem dL_law_1371 : decode code 1371 = .ok (.istore 5, 2) := by decide +kernel
theorem dL_law_1373 : decode code 1373 = .ok (.aload_n 2, 1) := by decide +kernel
theorem dL_law_1374 : decode code 1374 = .ok (.aload_n 0, 1) := by decide +kernel
theorem dL_law_1375 : decode code 1375 = .ok (.iload 4, 2) := by decide +kernel
theorem dL_law_1377 : decode code 1377 = .ok (.iconst 1, 1) := by decide +kernel
theorem dL_law_1378 : decode code 1378 = .ok (.iadd, 1) := by decide +kernel
theorem dL_law_1379 : decode code 1379 = .ok (.iaload, 1) := by decide +kernel
theorem dL_law_1380 : decode code 1380 = .ok (.invokevirtual 204, 3) := by decide +kernel
theorem dL_law_1383 : decode code 1383 = .ok (.istore 6, 2) := by decide +kernel
theorem dL_law_1385 : decode code 1385 = .ok (.aload_n 2, 1) := by decide +kernel
theorem dL_law_1386 : decode code 1386 = .ok (.invokevirtual 129, 3) := by decide +kernel
theorem dL_law_1389 : decode code 1389 = .ok (.iload 5, 2) := by decide +kernel
theorem dL_law_1391 : decode code 1391 = .ok (.if_icmp .eq 5, 3) := by decide +kernel
theorem dL_law_1394 : decode code 1394 = .ok (.iconst 0, 1) := by decide +kernel
theorem dL_law_1395 : decode code 1395 = .ok (.ireturn, 1) := by decide +kernel
theorem dL_law_1396 : decode code 1396 = .ok (.iload 5, 2) := by decide +kernel
theorem dL_law_1398 : decode code 1398 = .ok (.ifCond .ne 15, 3) := by decide +kernel
theorem dL_law_1401 : decode code 1401 = .ok (.aload_n 3, 1) := by decide +kernel
theorem dL_law_1402 : decode code 1402 = .ok (.iconst 0, 1) := by decide +kernel
theorem dL_law_1403 : decode code 1403 = .ok (.laload, 1) := by decide +kernel
theorem dL_law_1404 : decode code 1404 = .ok (.iload 6, 2) := by decide +kernel
theorem dL_law_1406 : decode code 1406 = .ok (.i2l, 1) := by decide +kernel
theorem dL_law_1407 : decode code 1407 = .ok (.lcmp, 1) := by decide +kernel
theorem dL_law_1408 : decode code 1408 = .ok (.ifCond .eq 5, 3) := by decide +kernel
theorem dL_law_1411 : decode code 1411 = .ok (.iconst 0, 1) := by decide +kernel
theorem dL_law_1412 : decode code 1412 = .ok (.ireturn, 1) := by decide +kernel
theorem dL_law_1413 : decode code 1413 = .ok (.goto 482, 3) := by decide +kernel
theorem dL_law_1416 : decode code 1416 = .ok (.aload_n 1, 1) := by decide +kernel
theorem dL_law_1417 : decode code 1417 = .ok (.aload_n 0, 1) := by decide +kernel
theorem dL_law_1418 : decode code 1418 = .ok (.iload 4, 2) := by decide +kernel
theorem dL_law_1420 : decode code 1420 = .ok (.iconst 1, 1) := by decide +kernel
theorem dL_law_1421 : decode code 1421 = .ok (.iadd, 1) := by decide +kernel
theorem dL_law_1422 : decode code 1422 = .ok (.iaload, 1) := by decide +kernel
theorem dL_law_1423 : decode code 1423 = .ok (.aload_n 3, 1) := by decide +kernel
theorem dL_law_1424 : decode code 1424 = .ok (.invokestatic 205, 3) := by decide +kernel
theorem dL_law_1427 : decode code 1427 = .ok (.istore 5, 2) := by decide +kernel
theorem dL_law_1429 : decode code 1429 = .ok (.aload_n 2, 1) := by decide +kernel
theorem dL_law_1430 : decode code 1430 = .ok (.aload_n 0, 1) := by decide +kernel
theorem dL_law_1431 : decode code 1431 = .ok (.iload 4, 2) := by decide +kernel
theorem dL_law_1433 : decode code 1433 = .ok (.iconst 1, 1) := by decide +kernel
theorem dL_law_1434 : decode code 1434 = .ok (.iadd, 1) := by decide +kernel
theorem dL_law_1435 : decode code 1435 = .ok (.iaload, 1) := by decide +kernel
theorem dL_law_1436 : decode code 1436 = .ok (.invokevirtual 207, 3) := by decide +kernel
theorem dL_law_1439 : decode code 1439 = .ok (.istore 6, 2) := by decide +kernel
theorem dL_law_1441 : decode code 1441 = .ok (.aload_n 2, 1) := by decide +kernel
theorem dL_law_1442 : decode code 1442 = .ok (.invokevirtual 129, 3) := by decide +kernel
theorem dL_law_1445 : decode code 1445 = .ok (.iload 5, 2) := by decide +kernel
theorem dL_law_1447 : decode code 1447 = .ok (.if_icmp .eq 5, 3) := by decide +kernel
theorem dL_law_1450 : decode code 1450 = .ok (.iconst 0, 1) := by decide +kernel
theorem dL_law_1451 : decode code 1451 = .ok (.ireturn, 1) := by decide +kernel
theorem dL_law_1452 : decode code 1452 = .ok (.iload 5, 2) := by decide +kernel
theorem dL_law_1454 : decode code 1454 = .ok (.ifCond .ne 15, 3) := by decide +kernel
theorem dL_law_1457 : decode code 1457 = .ok (.aload_n 3, 1) := by decide +kernel
theorem dL_law_1458 : decode code 1458 = .ok (.iconst 0, 1) := by decide +kernel
theorem dL_law_1459 : decode code 1459 = .ok (.laload, 1) := by decide +kernel
theorem dL_law_1460 : decode code 1460 = .ok (.iload 6, 2) := by decide +kernel
theorem dL_law_1462 : decode code 1462 = .ok (.i2l, 1) := by decide +kernel
theorem dL_law_1463 : decode code 1463 = .ok (.lcmp, 1) := by decide +kernel
theorem dL_law_1464 : decode code 1464 = .ok (.ifCond .eq 5, 3) := by decide +kernel
theorem dL_law_1467 : decode code 1467 = .ok (.iconst 0, 1) := by decide +kernel
theorem dL_law_1468 : decode code 1468 = .ok (.ireturn, 1) := by decide +kernel
theorem dL_law_1469 : decode code 1469 = .ok (.goto 426, 3) := by decide +kernel
theorem dL_law_1472 : decode code 1472 = .ok (.aload_n 1, 1) := by decide +kernel
theorem dL_law_1473 : decode code 1473 = .ok (.aload_n 0, 1) := by decide +kernel
theorem dL_law_1474 : decode code 1474 = .ok (.iload 4, 2) := by decide +kernel
theorem dL_law_1476 : decode code 1476 = .ok (.iconst 1, 1) := by decide +kernel
theorem dL_law_1477 : decode code 1477 = .ok (.iadd, 1) := by decide +kernel
theorem dL_law_1478 : decode code 1478 = .ok (.iaload, 1) := by decide +kernel
theorem dL_law_1479 : decode code 1479 = .ok (.aload_n 3, 1) := by decide +kernel
theorem dL_law_1480 : decode code 1480 = .ok (.invokestatic 208, 3) := by decide +kernel
theorem dL_law_1483 : decode code 1483 = .ok (.istore 5, 2) := by decide +kernel
theorem dL_law_1485 : decode code 1485 = .ok (.aload_n 2, 1) := by decide +kernel
theorem dL_law_1486 : decode code 1486 = .ok (.aload_n 0, 1) := by decide +kernel
theorem dL_law_1487 : decode code 1487 = .ok (.iload 4, 2) := by decide +kernel
theorem dL_law_1489 : decode code 1489 = .ok (.iconst 1, 1) := by decide +kernel
theorem dL_law_1490 : decode code 1490 = .ok (.iadd, 1) := by decide +kernel
theorem dL_law_1491 : decode code 1491 = .ok (.iaload, 1) := by decide +kernel
theorem dL_law_1492 : decode code 1492 = .ok (.invokevirtual 210, 3) := by decide +kernel
theorem dL_law_1495 : decode code 1495 = .ok (.lstore 6, 2) := by decide +kernel
theorem dL_law_1497 : decode code 1497 = .ok (.aload_n 2, 1) := by decide +kernel
theorem dL_law_1498 : decode code 1498 = .ok (.invokevirtual 129, 3) := by decide +kernel
theorem dL_law_1501 : decode code 1501 = .ok (.iload 5, 2) := by decide +kernel
theorem dL_law_1503 : decode code 1503 = .ok (.if_icmp .eq 5, 3) := by decide +kernel
theorem dL_law_1506 : decode code 1506 = .ok (.iconst 0, 1) := by decide +kernel
theorem dL_law_1507 : decode code 1507 = .ok (.ireturn, 1) := by decide +kernel
theorem dL_law_1508 : decode code 1508 = .ok (.iload 5, 2) := by decide +kernel
theorem dL_law_1510 : decode code 1510 = .ok (.ifCond .ne 14, 3) := by decide +kernel
theorem dL_law_1513 : decode code 1513 = .ok (.aload_n 3, 1) := by decide +kernel
theorem dL_law_1514 : decode code 1514 = .ok (.iconst 0, 1) := by decide +kernel
theorem dL_law_1515 : decode code 1515 = .ok (.laload, 1) := by decide +kernel
theorem dL_law_1516 : decode code 1516 = .ok (.lload 6, 2) := by decide +kernel
theorem dL_law_1518 : decode code 1518 = .ok (.lcmp, 1) := by decide +kernel
theorem dL_law_1519 : decode code 1519 = .ok (.ifCond .eq 5, 3) := by decide +kernel
theorem dL_law_1522 : decode code 1522 = .ok (.iconst 0, 1) := by decide +kernel
theorem dL_law_1523 : decode code 1523 = .ok (.ireturn, 1) := by decide +kernel
theorem dL_law_1524 : decode code 1524 = .ok (.goto 371, 3) := by decide +kernel
theorem dL_law_1527 : decode code 1527 = .ok (.aload_n 1, 1) := by decide +kernel
theorem dL_law_1528 : decode code 1528 = .ok (.aload_n 0, 1) := by decide +kernel
theorem dL_law_1529 : decode code 1529 = .ok (.iload 4, 2) := by decide +kernel
theorem dL_law_1531 : decode code 1531 = .ok (.iconst 1, 1) := by decide +kernel
theorem dL_law_1532 : decode code 1532 = .ok (.iadd, 1) := by decide +kernel
theorem dL_law_1533 : decode code 1533 = .ok (.iaload, 1) := by decide +kernel
theorem dL_law_1534 : decode code 1534 = .ok (.aload_n 0, 1) := by decide +kernel
theorem dL_law_1535 : decode code 1535 = .ok (.iload 4, 2) := by decide +kernel
theorem dL_law_1537 : decode code 1537 = .ok (.iconst 2, 1) := by decide +kernel
theorem dL_law_1538 : decode code 1538 = .ok (.iadd, 1) := by decide +kernel
theorem dL_law_1539 : decode code 1539 = .ok (.iaload, 1) := by decide +kernel
theorem dL_law_1540 : decode code 1540 = .ok (.aload_n 3, 1) := by decide +kernel
theorem dL_law_1541 : decode code 1541 = .ok (.invokestatic 211, 3) := by decide +kernel
theorem dL_law_1544 : decode code 1544 = .ok (.istore 5, 2) := by decide +kernel
theorem dL_law_1546 : decode code 1546 = .ok (.aload_n 2, 1) := by decide +kernel
theorem dL_law_1547 : decode code 1547 = .ok (.aload_n 0, 1) := by decide +kernel
theorem dL_law_1548 : decode code 1548 = .ok (.iload 4, 2) := by decide +kernel
theorem dL_law_1550 : decode code 1550 = .ok (.iconst 1, 1) := by decide +kernel
theorem dL_law_1551 : decode code 1551 = .ok (.iadd, 1) := by decide +kernel
theorem dL_law_1552 : decode code 1552 = .ok (.iaload, 1) := by decide +kernel
theorem dL_law_1553 : decode code 1553 = .ok (.aload_n 0, 1) := by decide +kernel
theorem dL_law_1554 : decode code 1554 = .ok (.iload 4, 2) := by decide +kernel
theorem dL_law_1556 : decode code 1556 = .ok (.iconst 2, 1) := by decide +kernel
theorem dL_law_1557 : decode code 1557 = .ok (.iadd, 1) := by decide +kernel
theorem dL_law_1558 : decode code 1558 = .ok (.iaload, 1) := by decide +kernel
theorem dL_law_1559 : decode code 1559 = .ok (.invokevirtual 213, 3) := by decide +kernel
theorem dL_law_1562 : decode code 1562 = .ok (.istore 6, 2) := by decide +kernel
theorem dL_law_1564 : decode code 1564 = .ok (.aload_n 2, 1) := by decide +kernel
theorem dL_law_1565 : decode code 1565 = .ok (.invokevirtual 129, 3) := by decide +kernel
theorem dL_law_1568 : decode code 1568 = .ok (.iload 5, 2) := by decide +kernel
theorem dL_law_1570 : decode code 1570 = .ok (.if_icmp .eq 5, 3) := by decide +kernel
theorem dL_law_1573 : decode code 1573 = .ok (.iconst 0, 1) := by decide +kernel
theorem dL_law_1574 : decode code 1574 = .ok (.ireturn, 1) := by decide +kernel
theorem dL_law_1575 : decode code 1575 = .ok (.iload 5, 2) := by decide +kernel
theorem dL_law_1577 : decode code 1577 = .ok (.ifCond .ne 15, 3) := by decide +kernel
theorem dL_law_1580 : decode code 1580 = .ok (.aload_n 3, 1) := by decide +kernel
theorem dL_law_1581 : decode code 1581 = .ok (.iconst 0, 1) := by decide +kernel
theorem dL_law_1582 : decode code 1582 = .ok (.laload, 1) := by decide +kernel
theorem dL_law_1583 : decode code 1583 = .ok (.iload 6, 2) := by decide +kernel
theorem dL_law_1585 : decode code 1585 = .ok (.i2l, 1) := by decide +kernel
theorem dL_law_1586 : decode code 1586 = .ok (.lcmp, 1) := by decide +kernel
theorem dL_law_1587 : decode code 1587 = .ok (.ifCond .eq 5, 3) := by decide +kernel
theorem dL_law_1590 : decode code 1590 = .ok (.iconst 0, 1) := by decide +kernel
theorem dL_law_1591 : decode code 1591 = .ok (.ireturn, 1) := by decide +kernel
theorem dL_law_1592 : decode code 1592 = .ok (.goto 303, 3) := by decide +kernel
theorem dL_law_1595 : decode code 1595 = .ok (.aload_n 1, 1) := by decide +kernel
theorem dL_law_1596 : decode code 1596 = .ok (.aload_n 0, 1) := by decide +kernel
theorem dL_law_1597 : decode code 1597 = .ok (.iload 4, 2) := by decide +kernel
theorem dL_law_1599 : decode code 1599 = .ok (.iconst 1, 1) := by decide +kernel
theorem dL_law_1600 : decode code 1600 = .ok (.iadd, 1) := by decide +kernel
theorem dL_law_1601 : decode code 1601 = .ok (.iaload, 1) := by decide +kernel
theorem dL_law_1602 : decode code 1602 = .ok (.aload_n 3, 1) := by decide +kernel
theorem dL_law_1603 : decode code 1603 = .ok (.invokestatic 214, 3) := by decide +kernel
theorem dL_law_1606 : decode code 1606 = .ok (.istore 5, 2) := by decide +kernel
theorem dL_law_1608 : decode code 1608 = .ok (.aload_n 2, 1) := by decide +kernel
theorem dL_law_1609 : decode code 1609 = .ok (.aload_n 0, 1) := by decide +kernel
theorem dL_law_1610 : decode code 1610 = .ok (.iload 4, 2) := by decide +kernel
theorem dL_law_1612 : decode code 1612 = .ok (.iconst 1, 1) := by decide +kernel
theorem dL_law_1613 : decode code 1613 = .ok (.iadd, 1) := by decide +kernel
theorem dL_law_1614 : decode code 1614 = .ok (.iaload, 1) := by decide +kernel
theorem dL_law_1615 : decode code 1615 = .ok (.invokevirtual 216, 3) := by decide +kernel
theorem dL_law_1618 : decode code 1618 = .ok (.istore 6, 2) := by decide +kernel
theorem dL_law_1620 : decode code 1620 = .ok (.aload_n 2, 1) := by decide +kernel
theorem dL_law_1621 : decode code 1621 = .ok (.invokevirtual 129, 3) := by decide +kernel
theorem dL_law_1624 : decode code 1624 = .ok (.iload 5, 2) := by decide +kernel
theorem dL_law_1626 : decode code 1626 = .ok (.if_icmp .eq 5, 3) := by decide +kernel
theorem dL_law_1629 : decode code 1629 = .ok (.iconst 0, 1) := by decide +kernel
theorem dL_law_1630 : decode code 1630 = .ok (.ireturn, 1) := by decide +kernel
theorem dL_law_1631 : decode code 1631 = .ok (.iload 5, 2) := by decide +kernel
theorem dL_law_1633 : decode code 1633 = .ok (.ifCond .ne 15, 3) := by decide +kernel
theorem dL_law_1636 : decode code 1636 = .ok (.aload_n 3, 1) := by decide +kernel
theorem dL_law_1637 : decode code 1637 = .ok (.iconst 0, 1) := by decide +kernel
theorem dL_law_1638 : decode code 1638 = .ok (.laload, 1) := by decide +kernel
theorem dL_law_1639 : decode code 1639 = .ok (.iload 6, 2) := by decide +kernel
theorem dL_law_1641 : decode code 1641 = .ok (.i2l, 1) := by decide +kernel
theorem dL_law_1642 : decode code 1642 = .ok (.lcmp, 1) := by decide +kernel
theorem dL_law_1643 : decode code 1643 = .ok (.ifCond .eq 5, 3) := by decide +kernel
theorem dL_law_1646 : decode code 1646 = .ok (.iconst 0, 1) := by decide +kernel
theorem dL_law_1647 : decode code 1647 = .ok (.ireturn, 1) := by decide +kernel
theorem dL_law_1648 : decode code 1648 = .ok (.goto 247, 3) := by decide +kernel
theorem dL_law_1651 : decode code 1651 = .ok (.aload_n 1, 1) := by decide +kernel
theorem dL_law_1652 : decode code 1652 = .ok (.aload_n 0, 1) := by decide +kernel
theorem dL_law_1653 : decode code 1653 = .ok (.iload 4, 2) := by decide +kernel
theorem dL_law_1655 : decode code 1655 = .ok (.iconst 1, 1) := by decide +kernel
theorem dL_law_1656 : decode code 1656 = .ok (.iadd, 1) := by decide +kernel
theorem dL_law_1657 : decode code 1657 = .ok (.iaload, 1) := by decide +kernel
theorem dL_law_1658 : decode code 1658 = .ok (.aload_n 3, 1) := by decide +kernel
theorem dL_law_1659 : decode code 1659 = .ok (.invokestatic 217, 3) := by decide +kernel
theorem dL_law_1662 : decode code 1662 = .ok (.istore 5, 2) := by decide +kernel
theorem dL_law_1664 : decode code 1664 = .ok (.aload_n 2, 1) := by decide +kernel
theorem dL_law_1665 : decode code 1665 = .ok (.aload_n 0, 1) := by decide +kernel
theorem dL_law_1666 : decode code 1666 = .ok (.iload 4, 2) := by decide +kernel
theorem dL_law_1668 : decode code 1668 = .ok (.iconst 1, 1) := by decide +kernel
theorem dL_law_1669 : decode code 1669 = .ok (.iadd, 1) := by decide +kernel
theorem dL_law_1670 : decode code 1670 = .ok (.iaload, 1) := by decide +kernel
theorem dL_law_1671 : decode code 1671 = .ok (.invokevirtual 219, 3) := by decide +kernel
theorem dL_law_1674 : decode code 1674 = .ok (.istore 6, 2) := by decide +kernel
theorem dL_law_1676 : decode code 1676 = .ok (.aload_n 2, 1) := by decide +kernel
theorem dL_law_1677 : decode code 1677 = .ok (.invokevirtual 129, 3) := by decide +kernel
theorem dL_law_1680 : decode code 1680 = .ok (.iload 5, 2) := by decide +kernel
theorem dL_law_1682 : decode code 1682 = .ok (.if_icmp .eq 5, 3) := by decide +kernel
theorem dL_law_1685 : decode code 1685 = .ok (.iconst 0, 1) := by decide +kernel
theorem dL_law_1686 : decode code 1686 = .ok (.ireturn, 1) := by decide +kernel
theorem dL_law_1687 : decode code 1687 = .ok (.iload 5, 2) := by decide +kernel
theorem dL_law_1689 : decode code 1689 = .ok (.ifCond .ne 15, 3) := by decide +kernel
theorem dL_law_1692 : decode code 1692 = .ok (.aload_n 3, 1) := by decide +kernel
theorem dL_law_1693 : decode code 1693 = .ok (.iconst 0, 1) := by decide +kernel
theorem dL_law_1694 : decode code 1694 = .ok (.laload, 1) := by decide +kernel
theorem dL_law_1695 : decode code 1695 = .ok (.iload 6, 2) := by decide +kernel
theorem dL_law_1697 : decode code 1697 = .ok (.i2l, 1) := by decide +kernel
theorem dL_law_1698 : decode code 1698 = .ok (.lcmp, 1) := by decide +kernel
theorem dL_law_1699 : decode code 1699 = .ok (.ifCond .eq 5, 3) := by decide +kernel
theorem dL_law_1702 : decode code 1702 = .ok (.iconst 0, 1) := by decide +kernel
theorem dL_law_1703 : decode code 1703 = .ok (.ireturn, 1) := by decide +kernel
theorem dL_law_1704 : decode code 1704 = .ok (.goto 191, 3) := by decide +kernel
theorem dL_law_1707 : decode code 1707 = .ok (.aload_n 1, 1) := by decide +kernel
theorem dL_law_1708 : decode code 1708 = .ok (.aload_n 0, 1) := by decide +kernel
theorem dL_law_1709 : decode code 1709 = .ok (.iload 4, 2) := by decide +kernel
theorem dL_law_1711 : decode code 1711 = .ok (.iconst 1, 1) := by decide +kernel
theorem dL_law_1712 : decode code 1712 = .ok (.iadd, 1) := by decide +kernel
theorem dL_law_1713 : decode code 1713 = .ok (.iaload, 1) := by decide +kernel
theorem dL_law_1714 : decode code 1714 = .ok (.aload_n 0, 1) := by decide +kernel
theorem dL_law_1715 : decode code 1715 = .ok (.iload 4, 2) := by decide +kernel
theorem dL_law_1717 : decode code 1717 = .ok (.iconst 2, 1) := by decide +kernel
theorem dL_law_1718 : decode code 1718 = .ok (.iadd, 1) := by decide +kernel
theorem dL_law_1719 : decode code 1719 = .ok (.iaload, 1) := by decide +kernel
theorem dL_law_1720 : decode code 1720 = .ok (.aload_n 3, 1) := by decide +kernel
theorem dL_law_1721 : decode code 1721 = .ok (.invokestatic 220, 3) := by decide +kernel
theorem dL_law_1724 : decode code 1724 = .ok (.istore 5, 2) := by decide +kernel
theorem dL_law_1726 : decode code 1726 = .ok (.aload_n 2, 1) := by decide +kernel
theorem dL_law_1727 : decode code 1727 = .ok (.aload_n 0, 1) := by decide +kernel
theorem dL_law_1728 : decode code 1728 = .ok (.iload 4, 2) := by decide +kernel
theorem dL_law_1730 : decode code 1730 = .ok (.iconst 1, 1) := by decide +kernel
theorem dL_law_1731 : decode code 1731 = .ok (.iadd, 1) := by decide +kernel
theorem dL_law_1732 : decode code 1732 = .ok (.iaload, 1) := by decide +kernel
theorem dL_law_1733 : decode code 1733 = .ok (.aload_n 0, 1) := by decide +kernel
theorem dL_law_1734 : decode code 1734 = .ok (.iload 4, 2) := by decide +kernel
theorem dL_law_1736 : decode code 1736 = .ok (.iconst 2, 1) := by decide +kernel
theorem dL_law_1737 : decode code 1737 = .ok (.iadd, 1) := by decide +kernel
theorem dL_law_1738 : decode code 1738 = .ok (.iaload, 1) := by decide +kernel
theorem dL_law_1739 : decode code 1739 = .ok (.invokevirtual 222, 3) := by decide +kernel
theorem dL_law_1742 : decode code 1742 = .ok (.istore 6, 2) := by decide +kernel
theorem dL_law_1744 : decode code 1744 = .ok (.aload_n 2, 1) := by decide +kernel
theorem dL_law_1745 : decode code 1745 = .ok (.invokevirtual 129, 3) := by decide +kernel
theorem dL_law_1748 : decode code 1748 = .ok (.iload 5, 2) := by decide +kernel
theorem dL_law_1750 : decode code 1750 = .ok (.if_icmp .eq 5, 3) := by decide +kernel
theorem dL_law_1753 : decode code 1753 = .ok (.iconst 0, 1) := by decide +kernel
theorem dL_law_1754 : decode code 1754 = .ok (.ireturn, 1) := by decide +kernel
theorem dL_law_1755 : decode code 1755 = .ok (.iload 5, 2) := by decide +kernel
theorem dL_law_1757 : decode code 1757 = .ok (.ifCond .ne 15, 3) := by decide +kernel
theorem dL_law_1760 : decode code 1760 = .ok (.aload_n 3, 1) := by decide +kernel
theorem dL_law_1761 : decode code 1761 = .ok (.iconst 0, 1) := by decide +kernel
theorem dL_law_1762 : decode code 1762 = .ok (.laload, 1) := by decide +kernel
theorem dL_law_1763 : decode code 1763 = .ok (.iload 6, 2) := by decide +kernel
theorem dL_law_1765 : decode code 1765 = .ok (.i2l, 1) := by decide +kernel
theorem dL_law_1766 : decode code 1766 = .ok (.lcmp, 1) := by decide +kernel
theorem dL_law_1767 : decode code 1767 = .ok (.ifCond .eq 5, 3) := by decide +kernel
theorem dL_law_1770 : decode code 1770 = .ok (.iconst 0, 1) := by decide +kernel
theorem dL_law_1771 : decode code 1771 = .ok (.ireturn, 1) := by decide +kernel
theorem dL_law_1772 : decode code 1772 = .ok (.goto 123, 3) := by decide +kernel
theorem dL_law_1775 : decode code 1775 = .ok (.aload_n 1, 1) := by decide +kernel
theorem dL_law_1776 : decode code 1776 = .ok (.aload_n 3, 1) := by decide +kernel
theorem dL_law_1777 : decode code 1777 = .ok (.invokestatic 223, 3) := by decide +kernel
theorem dL_law_1780 : decode code 1780 = .ok (.istore 5, 2) := by decide +kernel
theorem dL_law_1782 : decode code 1782 = .ok (.aload_n 2, 1) := by decide +kernel
theorem dL_law_1783 : decode code 1783 = .ok (.invokevirtual 226, 3) := by decide +kernel
theorem dL_law_1786 : decode code 1786 = .ok (.istore 6, 2) := by decide +kernel
theorem dL_law_1788 : decode code 1788 = .ok (.aload_n 2, 1) := by decide +kernel
theorem dL_law_1789 : decode code 1789 = .ok (.invokevirtual 129, 3) := by decide +kernel
theorem dL_law_1792 : decode code 1792 = .ok (.iload 5, 2) := by decide +kernel
theorem dL_law_1794 : decode code 1794 = .ok (.if_icmp .eq 5, 3) := by decide +kernel
theorem dL_law_1797 : decode code 1797 = .ok (.iconst 0, 1) := by decide +kernel
theorem dL_law_1798 : decode code 1798 = .ok (.ireturn, 1) := by decide +kernel
theorem dL_law_1799 : decode code 1799 = .ok (.iload 5, 2) := by decide +kernel
theorem dL_law_1801 : decode code 1801 = .ok (.ifCond .ne 15, 3) := by decide +kernel
theorem dL_law_1804 : decode code 1804 = .ok (.aload_n 3, 1) := by decide +kernel
theorem dL_law_1805 : decode code 1805 = .ok (.iconst 0, 1) := by decide +kernel
theorem dL_law_1806 : decode code 1806 = .ok (.laload, 1) := by decide +kernel
theorem dL_law_1807 : decode code 1807 = .ok (.iload 6, 2) := by decide +kernel
theorem dL_law_1809 : decode code 1809 = .ok (.i2l, 1) := by decide +kernel
theorem dL_law_1810 : decode code 1810 = .ok (.lcmp, 1) := by decide +kernel
theorem dL_law_1811 : decode code 1811 = .ok (.ifCond .eq 5, 3) := by decide +kernel
theorem dL_law_1814 : decode code 1814 = .ok (.iconst 0, 1) := by decide +kernel
theorem dL_law_1815 : decode code 1815 = .ok (.ireturn, 1) := by decide +kernel
theorem dL_law_1816 : decode code 1816 = .ok (.goto 79, 3) := by decide +kernel
theorem dL_law_1819 : decode code 1819 = .ok (.aload_n 1, 1) := by decide +kernel
theorem dL_law_1820 : decode code 1820 = .ok (.invokevirtual 227, 3) := by decide +kernel
theorem dL_law_1823 : decode code 1823 = .ok (.aload_n 2, 1) := by decide +kernel
theorem dL_law_1824 : decode code 1824 = .ok (.invokevirtual 230, 3) := by decide +kernel
theorem dL_law_1827 : decode code 1827 = .ok (.if_icmp .eq 68, 3) := by decide +kernel
theorem dL_law_1830 : decode code 1830 = .ok (.iconst 0, 1) := by decide +kernel
theorem dL_law_1831 : decode code 1831 = .ok (.ireturn, 1) := by decide +kernel
theorem dL_law_1832 : decode code 1832 = .ok (.aload_n 1, 1) := by decide +kernel
theorem dL_law_1833 : decode code 1833 = .ok (.aload_n 0, 1) := by decide +kernel
theorem dL_law_1834 : decode code 1834 = .ok (.iload 4, 2) := by decide +kernel
theorem dL_law_1836 : decode code 1836 = .ok (.iconst 1, 1) := by decide +kernel
theorem dL_law_1837 : decode code 1837 = .ok (.iadd, 1) := by decide +kernel
theorem dL_law_1838 : decode code 1838 = .ok (.iaload, 1) := by decide +kernel
theorem dL_law_1839 : decode code 1839 = .ok (.aload_n 3, 1) := by decide +kernel
theorem dL_law_1840 : decode code 1840 = .ok (.invokestatic 231, 3) := by decide +kernel
theorem dL_law_1843 : decode code 1843 = .ok (.istore 5, 2) := by decide +kernel
theorem dL_law_1845 : decode code 1845 = .ok (.aload_n 2, 1) := by decide +kernel
theorem dL_law_1846 : decode code 1846 = .ok (.aload_n 0, 1) := by decide +kernel
theorem dL_law_1847 : decode code 1847 = .ok (.iload 4, 2) := by decide +kernel
theorem dL_law_1849 : decode code 1849 = .ok (.iconst 1, 1) := by decide +kernel
theorem dL_law_1850 : decode code 1850 = .ok (.iadd, 1) := by decide +kernel
theorem dL_law_1851 : decode code 1851 = .ok (.iaload, 1) := by decide +kernel
theorem dL_law_1852 : decode code 1852 = .ok (.invokevirtual 233, 3) := by decide +kernel
theorem dL_law_1855 : decode code 1855 = .ok (.istore 6, 2) := by decide +kernel
theorem dL_law_1857 : decode code 1857 = .ok (.aload_n 2, 1) := by decide +kernel
theorem dL_law_1858 : decode code 1858 = .ok (.invokevirtual 129, 3) := by decide +kernel
theorem dL_law_1861 : decode code 1861 = .ok (.iload 5, 2) := by decide +kernel
theorem dL_law_1863 : decode code 1863 = .ok (.if_icmp .eq 5, 3) := by decide +kernel
theorem dL_law_1866 : decode code 1866 = .ok (.iconst 0, 1) := by decide +kernel
theorem dL_law_1867 : decode code 1867 = .ok (.ireturn, 1) := by decide +kernel
theorem dL_law_1868 : decode code 1868 = .ok (.iload 5, 2) := by decide +kernel
theorem dL_law_1870 : decode code 1870 = .ok (.ifCond .ne 22, 3) := by decide +kernel
theorem dL_law_1873 : decode code 1873 = .ok (.aload_n 3, 1) := by decide +kernel
theorem dL_law_1874 : decode code 1874 = .ok (.iconst 0, 1) := by decide +kernel
theorem dL_law_1875 : decode code 1875 = .ok (.laload, 1) := by decide +kernel
theorem dL_law_1876 : decode code 1876 = .ok (.iload 6, 2) := by decide +kernel
theorem dL_law_1878 : decode code 1878 = .ok (.ifCond .eq 7, 3) := by decide +kernel
theorem dL_law_1881 : decode code 1881 = .ok (.lconst 1, 1) := by decide +kernel
theorem dL_law_1882 : decode code 1882 = .ok (.goto 4, 3) := by decide +kernel
theorem dL_law_1885 : decode code 1885 = .ok (.lconst 0, 1) := by decide +kernel
theorem dL_law_1886 : decode code 1886 = .ok (.lcmp, 1) := by decide +kernel
theorem dL_law_1887 : decode code 1887 = .ok (.ifCond .eq 5, 3) := by decide +kernel
theorem dL_law_1890 : decode code 1890 = .ok (.iconst 0, 1) := by decide +kernel
theorem dL_law_1891 : decode code 1891 = .ok (.ireturn, 1) := by decide +kernel
theorem dL_law_1892 : decode code 1892 = .ok (.goto 3, 3) := by decide +kernel
theorem dL_law_1895 : decode code 1895 = .ok (.iinc 4 6, 3) := by decide +kernel
theorem dL_law_1898 : decode code 1898 = .ok (.goto (-1875), 3) := by decide +kernel
theorem dL_law_1901 : decode code 1901 = .ok (.iconst 1, 1) := by decide +kernel
theorem dL_law_1902 : decode code 1902 = .ok (.ireturn, 1) := by decide +kernel
