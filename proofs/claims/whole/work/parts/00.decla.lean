theorem dL_field_0 : decode method_3_code 0 = .ok (.aload_n 3, 1) := by decide +kernel
theorem dL_field_1 : decode method_3_code 1 = .ok (.iconst 0, 1) := by decide +kernel
theorem dL_field_2 : decode method_3_code 2 = .ok (.aload_n 0, 1) := by decide +kernel
theorem dL_field_3 : decode method_3_code 3 = .ok (.iload_n 1, 1) := by decide +kernel
theorem dL_field_4 : decode method_3_code 4 = .ok (.iload_n 2, 1) := by decide +kernel
theorem dL_field_5 : decode method_3_code 5 = .ok (.invokevirtual 7, 3) := by decide +kernel
theorem dL_field_8 : decode method_3_code 8 = .ok (.i2l, 1) := by decide +kernel
theorem dL_field_9 : decode method_3_code 9 = .ok (.lastore, 1) := by decide +kernel
theorem dL_field_10 : decode method_3_code 10 = .ok (.goto 7, 3) := by decide +kernel
theorem dL_field_13 : decode method_3_code 13 = .ok (.astore 4, 2) := by decide +kernel
theorem dL_field_15 : decode method_3_code 15 = .ok (.iconst 1, 1) := by decide +kernel
theorem dL_field_16 : decode method_3_code 16 = .ok (.ireturn, 1) := by decide +kernel
theorem dL_field_17 : decode method_3_code 17 = .ok (.iconst 0, 1) := by decide +kernel
theorem dL_field_18 : decode method_3_code 18 = .ok (.ireturn, 1) := by decide +kernel
theorem dL_law_0 : decode code 0 = .ok (.new 8, 3) := by decide +kernel
theorem dL_law_3 : decode code 3 = .ok (.dup, 1) := by decide +kernel
theorem dL_law_4 : decode code 4 = .ok (.invokespecial 15, 3) := by decide +kernel
theorem dL_law_7 : decode code 7 = .ok (.astore_n 1, 1) := by decide +kernel
theorem dL_law_8 : decode code 8 = .ok (.new 16, 3) := by decide +kernel
theorem dL_law_11 : decode code 11 = .ok (.dup, 1) := by decide +kernel
theorem dL_law_12 : decode code 12 = .ok (.invokespecial 18, 3) := by decide +kernel
theorem dL_law_15 : decode code 15 = .ok (.astore_n 2, 1) := by decide +kernel
theorem dL_law_16 : decode code 16 = .ok (.iconst 1, 1) := by decide +kernel
theorem dL_law_17 : decode code 17 = .ok (.newarray .long, 2) := by decide +kernel
theorem dL_law_19 : decode code 19 = .ok (.astore_n 3, 1) := by decide +kernel
theorem dL_law_20 : decode code 20 = .ok (.iconst 0, 1) := by decide +kernel
theorem dL_law_21 : decode code 21 = .ok (.istore 4, 2) := by decide +kernel
theorem dL_law_23 : decode code 23 = .ok (.iload 4, 2) := by decide +kernel
theorem dL_law_25 : decode code 25 = .ok (.aload_n 0, 1) := by decide +kernel
theorem dL_law_26 : decode code 26 = .ok (.arraylength, 1) := by decide +kernel
theorem dL_law_27 : decode code 27 = .ok (.bipush 7, 2) := by decide +kernel
theorem dL_law_29 : decode code 29 = .ok (.isub, 1) := by decide +kernel
theorem dL_law_30 : decode code 30 = .ok (.if_icmp .gt 1773, 3) := by decide +kernel
theorem dL_law_33 : decode code 33 = .ok (.aload_n 0, 1) := by decide +kernel
theorem dL_law_34 : decode code 34 = .ok (.iload 4, 2) := by decide +kernel
theorem dL_law_36 : decode code 36 = .ok (.iaload, 1) := by decide +kernel
theorem dL_law_37 : decode code 37 = .ok (.bipush 63, 2) := by decide +kernel
theorem dL_law_39 : decode code 39 = .ok (.iand, 1) := by decide +kernel
theorem dL_law_40 : decode code 40 = .ok (.tableswitch 1757 0 43 #[192, 265, 290, 315, 340, 365, 433, 458, 483, 508, 557, 594, 619, 644, 669, 738, 751, 788, 837, 874, 899, 936, 961, 974, 1011, 1048, 1085, 1162, 1199, 1236, 1323, 1384, 1433, 1458, 1507, 1544, 1569, 1594, 1631, 1656, 1681, 1706, 1719, 1732], 192) := by decide +kernel
theorem dL_law_232 : decode code 232 = .ok (.aload_n 1, 1) := by decide +kernel
theorem dL_law_233 : decode code 233 = .ok (.aload_n 0, 1) := by decide +kernel
theorem dL_law_234 : decode code 234 = .ok (.iload 4, 2) := by decide +kernel
theorem dL_law_236 : decode code 236 = .ok (.iconst 1, 1) := by decide +kernel
theorem dL_law_237 : decode code 237 = .ok (.iadd, 1) := by decide +kernel
theorem dL_law_238 : decode code 238 = .ok (.iaload, 1) := by decide +kernel
theorem dL_law_239 : decode code 239 = .ok (.aload_n 0, 1) := by decide +kernel
theorem dL_law_240 : decode code 240 = .ok (.iload 4, 2) := by decide +kernel
theorem dL_law_242 : decode code 242 = .ok (.iconst 2, 1) := by decide +kernel
theorem dL_law_243 : decode code 243 = .ok (.iadd, 1) := by decide +kernel
theorem dL_law_244 : decode code 244 = .ok (.iaload, 1) := by decide +kernel
theorem dL_law_245 : decode code 245 = .ok (.aload_n 0, 1) := by decide +kernel
theorem dL_law_246 : decode code 246 = .ok (.iload 4, 2) := by decide +kernel
theorem dL_law_248 : decode code 248 = .ok (.iconst 3, 1) := by decide +kernel
theorem dL_law_249 : decode code 249 = .ok (.iadd, 1) := by decide +kernel
theorem dL_law_250 : decode code 250 = .ok (.iaload, 1) := by decide +kernel
theorem dL_law_251 : decode code 251 = .ok (.aload_n 0, 1) := by decide +kernel
theorem dL_law_252 : decode code 252 = .ok (.iload 4, 2) := by decide +kernel
theorem dL_law_254 : decode code 254 = .ok (.iconst 4, 1) := by decide +kernel
theorem dL_law_255 : decode code 255 = .ok (.iadd, 1) := by decide +kernel
theorem dL_law_256 : decode code 256 = .ok (.iaload, 1) := by decide +kernel
theorem dL_law_257 : decode code 257 = .ok (.aload_n 0, 1) := by decide +kernel
theorem dL_law_258 : decode code 258 = .ok (.iload 4, 2) := by decide +kernel
theorem dL_law_260 : decode code 260 = .ok (.iconst 5, 1) := by decide +kernel
theorem dL_law_261 : decode code 261 = .ok (.iadd, 1) := by decide +kernel
theorem dL_law_262 : decode code 262 = .ok (.iaload, 1) := by decide +kernel
theorem dL_law_263 : decode code 263 = .ok (.invokevirtual 19, 3) := by decide +kernel
theorem dL_law_266 : decode code 266 = .ok (.aload_n 2, 1) := by decide +kernel
theorem dL_law_267 : decode code 267 = .ok (.aload_n 0, 1) := by decide +kernel
theorem dL_law_268 : decode code 268 = .ok (.iload 4, 2) := by decide +kernel
theorem dL_law_270 : decode code 270 = .ok (.iconst 1, 1) := by decide +kernel
theorem dL_law_271 : decode code 271 = .ok (.iadd, 1) := by decide +kernel
theorem dL_law_272 : decode code 272 = .ok (.iaload, 1) := by decide +kernel
theorem dL_law_273 : decode code 273 = .ok (.aload_n 0, 1) := by decide +kernel
theorem dL_law_274 : decode code 274 = .ok (.iload 4, 2) := by decide +kernel
theorem dL_law_276 : decode code 276 = .ok (.iconst 2, 1) := by decide +kernel
theorem dL_law_277 : decode code 277 = .ok (.iadd, 1) := by decide +kernel
theorem dL_law_278 : decode code 278 = .ok (.iaload, 1) := by decide +kernel
theorem dL_law_279 : decode code 279 = .ok (.aload_n 0, 1) := by decide +kernel
theorem dL_law_280 : decode code 280 = .ok (.iload 4, 2) := by decide +kernel
theorem dL_law_282 : decode code 282 = .ok (.iconst 3, 1) := by decide +kernel
theorem dL_law_283 : decode code 283 = .ok (.iadd, 1) := by decide +kernel
theorem dL_law_284 : decode code 284 = .ok (.iaload, 1) := by decide +kernel
theorem dL_law_285 : decode code 285 = .ok (.aload_n 0, 1) := by decide +kernel
theorem dL_law_286 : decode code 286 = .ok (.iload 4, 2) := by decide +kernel
theorem dL_law_288 : decode code 288 = .ok (.iconst 4, 1) := by decide +kernel
theorem dL_law_289 : decode code 289 = .ok (.iadd, 1) := by decide +kernel
theorem dL_law_290 : decode code 290 = .ok (.iaload, 1) := by decide +kernel
theorem dL_law_291 : decode code 291 = .ok (.aload_n 0, 1) := by decide +kernel
theorem dL_law_292 : decode code 292 = .ok (.iload 4, 2) := by decide +kernel
theorem dL_law_294 : decode code 294 = .ok (.iconst 5, 1) := by decide +kernel
theorem dL_law_295 : decode code 295 = .ok (.iadd, 1) := by decide +kernel
theorem dL_law_296 : decode code 296 = .ok (.iaload, 1) := by decide +kernel
theorem dL_law_297 : decode code 297 = .ok (.invokevirtual 23, 3) := by decide +kernel
theorem dL_law_300 : decode code 300 = .ok (.if_icmp .eq 1497, 3) := by decide +kernel
theorem dL_law_303 : decode code 303 = .ok (.iconst 0, 1) := by decide +kernel
theorem dL_law_304 : decode code 304 = .ok (.ireturn, 1) := by decide +kernel
theorem dL_law_305 : decode code 305 = .ok (.aload_n 1, 1) := by decide +kernel
theorem dL_law_306 : decode code 306 = .ok (.aload_n 0, 1) := by decide +kernel
theorem dL_law_307 : decode code 307 = .ok (.iload 4, 2) := by decide +kernel
theorem dL_law_309 : decode code 309 = .ok (.iconst 1, 1) := by decide +kernel
theorem dL_law_310 : decode code 310 = .ok (.iadd, 1) := by decide +kernel
theorem dL_law_311 : decode code 311 = .ok (.iaload, 1) := by decide +kernel
theorem dL_law_312 : decode code 312 = .ok (.invokevirtual 24, 3) := by decide +kernel
theorem dL_law_315 : decode code 315 = .ok (.aload_n 2, 1) := by decide +kernel
theorem dL_law_316 : decode code 316 = .ok (.aload_n 0, 1) := by decide +kernel
theorem dL_law_317 : decode code 317 = .ok (.iload 4, 2) := by decide +kernel
theorem dL_law_319 : decode code 319 = .ok (.iconst 1, 1) := by decide +kernel
theorem dL_law_320 : decode code 320 = .ok (.iadd, 1) := by decide +kernel
theorem dL_law_321 : decode code 321 = .ok (.iaload, 1) := by decide +kernel
theorem dL_law_322 : decode code 322 = .ok (.invokevirtual 28, 3) := by decide +kernel
theorem dL_law_325 : decode code 325 = .ok (.if_icmp .eq 1472, 3) := by decide +kernel
theorem dL_law_328 : decode code 328 = .ok (.iconst 0, 1) := by decide +kernel
theorem dL_law_329 : decode code 329 = .ok (.ireturn, 1) := by decide +kernel
theorem dL_law_330 : decode code 330 = .ok (.aload_n 1, 1) := by decide +kernel
theorem dL_law_331 : decode code 331 = .ok (.aload_n 0, 1) := by decide +kernel
theorem dL_law_332 : decode code 332 = .ok (.iload 4, 2) := by decide +kernel
theorem dL_law_334 : decode code 334 = .ok (.iconst 1, 1) := by decide +kernel
theorem dL_law_335 : decode code 335 = .ok (.iadd, 1) := by decide +kernel
theorem dL_law_336 : decode code 336 = .ok (.iaload, 1) := by decide +kernel
theorem dL_law_337 : decode code 337 = .ok (.invokevirtual 29, 3) := by decide +kernel
theorem dL_law_340 : decode code 340 = .ok (.aload_n 2, 1) := by decide +kernel
theorem dL_law_341 : decode code 341 = .ok (.aload_n 0, 1) := by decide +kernel
theorem dL_law_342 : decode code 342 = .ok (.iload 4, 2) := by decide +kernel
theorem dL_law_344 : decode code 344 = .ok (.iconst 1, 1) := by decide +kernel
theorem dL_law_345 : decode code 345 = .ok (.iadd, 1) := by decide +kernel
theorem dL_law_346 : decode code 346 = .ok (.iaload, 1) := by decide +kernel
theorem dL_law_347 : decode code 347 = .ok (.invokevirtual 33, 3) := by decide +kernel
theorem dL_law_350 : decode code 350 = .ok (.if_icmp .eq 1447, 3) := by decide +kernel
theorem dL_law_353 : decode code 353 = .ok (.iconst 0, 1) := by decide +kernel
theorem dL_law_354 : decode code 354 = .ok (.ireturn, 1) := by decide +kernel
theorem dL_law_355 : decode code 355 = .ok (.aload_n 1, 1) := by decide +kernel
theorem dL_law_356 : decode code 356 = .ok (.aload_n 0, 1) := by decide +kernel
theorem dL_law_357 : decode code 357 = .ok (.iload 4, 2) := by decide +kernel
theorem dL_law_359 : decode code 359 = .ok (.iconst 1, 1) := by decide +kernel
theorem dL_law_360 : decode code 360 = .ok (.iadd, 1) := by decide +kernel
theorem dL_law_361 : decode code 361 = .ok (.iaload, 1) := by decide +kernel
theorem dL_law_362 : decode code 362 = .ok (.invokevirtual 34, 3) := by decide +kernel
theorem dL_law_365 : decode code 365 = .ok (.aload_n 2, 1) := by decide +kernel
theorem dL_law_366 : decode code 366 = .ok (.aload_n 0, 1) := by decide +kernel
theorem dL_law_367 : decode code 367 = .ok (.iload 4, 2) := by decide +kernel
theorem dL_law_369 : decode code 369 = .ok (.iconst 1, 1) := by decide +kernel
theorem dL_law_370 : decode code 370 = .ok (.iadd, 1) := by decide +kernel
theorem dL_law_371 : decode code 371 = .ok (.iaload, 1) := by decide +kernel
theorem dL_law_372 : decode code 372 = .ok (.invokevirtual 37, 3) := by decide +kernel
theorem dL_law_375 : decode code 375 = .ok (.if_icmp .eq 1422, 3) := by decide +kernel
theorem dL_law_378 : decode code 378 = .ok (.iconst 0, 1) := by decide +kernel
theorem dL_law_379 : decode code 379 = .ok (.ireturn, 1) := by decide +kernel
theorem dL_law_380 : decode code 380 = .ok (.aload_n 1, 1) := by decide +kernel
theorem dL_law_381 : decode code 381 = .ok (.aload_n 0, 1) := by decide +kernel
theorem dL_law_382 : decode code 382 = .ok (.iload 4, 2) := by decide +kernel
theorem dL_law_384 : decode code 384 = .ok (.iconst 1, 1) := by decide +kernel
theorem dL_law_385 : decode code 385 = .ok (.iadd, 1) := by decide +kernel
theorem dL_law_386 : decode code 386 = .ok (.iaload, 1) := by decide +kernel
theorem dL_law_387 : decode code 387 = .ok (.invokevirtual 38, 3) := by decide +kernel
theorem dL_law_390 : decode code 390 = .ok (.aload_n 2, 1) := by decide +kernel
theorem dL_law_391 : decode code 391 = .ok (.aload_n 0, 1) := by decide +kernel
theorem dL_law_392 : decode code 392 = .ok (.iload 4, 2) := by decide +kernel
theorem dL_law_394 : decode code 394 = .ok (.iconst 1, 1) := by decide +kernel
theorem dL_law_395 : decode code 395 = .ok (.iadd, 1) := by decide +kernel
theorem dL_law_396 : decode code 396 = .ok (.iaload, 1) := by decide +kernel
theorem dL_law_397 : decode code 397 = .ok (.invokevirtual 41, 3) := by decide +kernel
theorem dL_law_400 : decode code 400 = .ok (.if_icmp .eq 1397, 3) := by decide +kernel
theorem dL_law_403 : decode code 403 = .ok (.iconst 0, 1) := by decide +kernel
theorem dL_law_404 : decode code 404 = .ok (.ireturn, 1) := by decide +kernel
theorem dL_law_405 : decode code 405 = .ok (.aload_n 1, 1) := by decide +kernel
theorem dL_law_406 : decode code 406 = .ok (.aload_n 0, 1) := by decide +kernel
theorem dL_law_407 : decode code 407 = .ok (.iload 4, 2) := by decide +kernel
theorem dL_law_409 : decode code 409 = .ok (.iconst 1, 1) := by decide +kernel
theorem dL_law_410 : decode code 410 = .ok (.iadd, 1) := by decide +kernel
theorem dL_law_411 : decode code 411 = .ok (.iaload, 1) := by decide +kernel
theorem dL_law_412 : decode code 412 = .ok (.aload_n 0, 1) := by decide +kernel
theorem dL_law_413 : decode code 413 = .ok (.iload 4, 2) := by decide +kernel
theorem dL_law_415 : decode code 415 = .ok (.iconst 2, 1) := by decide +kernel
theorem dL_law_416 : decode code 416 = .ok (.iadd, 1) := by decide +kernel
theorem dL_law_417 : decode code 417 = .ok (.iaload, 1) := by decide +kernel
theorem dL_law_418 : decode code 418 = .ok (.aload_n 3, 1) := by decide +kernel
theorem dL_law_419 : decode code 419 = .ok (.invokestatic 42, 3) := by decide +kernel
theorem dL_law_422 : decode code 422 = .ok (.istore 5, 2) := by decide +kernel
theorem dL_law_424 : decode code 424 = .ok (.aload_n 2, 1) := by decide +kernel
theorem dL_law_425 : decode code 425 = .ok (.aload_n 0, 1) := by decide +kernel
theorem dL_law_426 : decode code 426 = .ok (.iload 4, 2) := by decide +kernel
theorem dL_law_428 : decode code 428 = .ok (.iconst 1, 1) := by decide +kernel
theorem dL_law_429 : decode code 429 = .ok (.iadd, 1) := by decide +kernel
theorem dL_law_430 : decode code 430 = .ok (.iaload, 1) := by decide +kernel
theorem dL_law_431 : decode code 431 = .ok (.aload_n 0, 1) := by decide +kernel
theorem dL_law_432 : decode code 432 = .ok (.iload 4, 2) := by decide +kernel
theorem dL_law_434 : decode code 434 = .ok (.iconst 2, 1) := by decide +kernel
theorem dL_law_435 : decode code 435 = .ok (.iadd, 1) := by decide +kernel
theorem dL_law_436 : decode code 436 = .ok (.iaload, 1) := by decide +kernel
theorem dL_law_437 : decode code 437 = .ok (.invokevirtual 47, 3) := by decide +kernel
theorem dL_law_440 : decode code 440 = .ok (.istore 6, 2) := by decide +kernel
theorem dL_law_442 : decode code 442 = .ok (.aload_n 2, 1) := by decide +kernel
theorem dL_law_443 : decode code 443 = .ok (.invokevirtual 48, 3) := by decide +kernel
theorem dL_law_446 : decode code 446 = .ok (.iload 5, 2) := by decide +kernel
theorem dL_law_448 : decode code 448 = .ok (.if_icmp .eq 5, 3) := by decide +kernel
theorem dL_law_451 : decode code 451 = .ok (.iconst 0, 1) := by decide +kernel
theorem dL_law_452 : decode code 452 = .ok (.ireturn, 1) := by decide +kernel
theorem dL_law_453 : decode code 453 = .ok (.iload 5, 2) := by decide +kernel
theorem dL_law_455 : decode code 455 = .ok (.ifCond .ne 15, 3) := by decide +kernel
theorem dL_law_458 : decode code 458 = .ok (.aload_n 3, 1) := by decide +kernel
theorem dL_law_459 : decode code 459 = .ok (.iconst 0, 1) := by decide +kernel
theorem dL_law_460 : decode code 460 = .ok (.laload, 1) := by decide +kernel
theorem dL_law_461 : decode code 461 = .ok (.iload 6, 2) := by decide +kernel
theorem dL_law_463 : decode code 463 = .ok (.i2l, 1) := by decide +kernel
theorem dL_law_464 : decode code 464 = .ok (.lcmp, 1) := by decide +kernel
theorem dL_law_465 : decode code 465 = .ok (.ifCond .eq 5, 3) := by decide +kernel
theorem dL_law_468 : decode code 468 = .ok (.iconst 0, 1) := by decide +kernel
theorem dL_law_469 : decode code 469 = .ok (.ireturn, 1) := by decide +kernel
theorem dL_law_470 : decode code 470 = .ok (.goto 1327, 3) := by decide +kernel
theorem dL_law_473 : decode code 473 = .ok (.aload_n 1, 1) := by decide +kernel
theorem dL_law_474 : decode code 474 = .ok (.aload_n 0, 1) := by decide +kernel
theorem dL_law_475 : decode code 475 = .ok (.iload 4, 2) := by decide +kernel
theorem dL_law_477 : decode code 477 = .ok (.iconst 1, 1) := by decide +kernel
theorem dL_law_478 : decode code 478 = .ok (.iadd, 1) := by decide +kernel
theorem dL_law_479 : decode code 479 = .ok (.iaload, 1) := by decide +kernel
theorem dL_law_480 : decode code 480 = .ok (.invokevirtual 52, 3) := by decide +kernel
theorem dL_law_483 : decode code 483 = .ok (.aload_n 2, 1) := by decide +kernel
theorem dL_law_484 : decode code 484 = .ok (.aload_n 0, 1) := by decide +kernel
theorem dL_law_485 : decode code 485 = .ok (.iload 4, 2) := by decide +kernel
theorem dL_law_487 : decode code 487 = .ok (.iconst 1, 1) := by decide +kernel
theorem dL_law_488 : decode code 488 = .ok (.iadd, 1) := by decide +kernel
theorem dL_law_489 : decode code 489 = .ok (.iaload, 1) := by decide +kernel
theorem dL_law_490 : decode code 490 = .ok (.invokevirtual 55, 3) := by decide +kernel
theorem dL_law_493 : decode code 493 = .ok (.if_icmp .eq 1304, 3) := by decide +kernel
theorem dL_law_496 : decode code 496 = .ok (.iconst 0, 1) := by decide +kernel
theorem dL_law_497 : decode code 497 = .ok (.ireturn, 1) := by decide +kernel
theorem dL_law_498 : decode code 498 = .ok (.aload_n 1, 1) := by decide +kernel
theorem dL_law_499 : decode code 499 = .ok (.aload_n 0, 1) := by decide +kernel
theorem dL_law_500 : decode code 500 = .ok (.iload 4, 2) := by decide +kernel
theorem dL_law_502 : decode code 502 = .ok (.iconst 1, 1) := by decide +kernel
theorem dL_law_503 : decode code 503 = .ok (.iadd, 1) := by decide +kernel
theorem dL_law_504 : decode code 504 = .ok (.iaload, 1) := by decide +kernel
theorem dL_law_505 : decode code 505 = .ok (.invokevirtual 56, 3) := by decide +kernel
theorem dL_law_508 : decode code 508 = .ok (.aload_n 2, 1) := by decide +kernel
theorem dL_law_509 : decode code 509 = .ok (.aload_n 0, 1) := by decide +kernel
theorem dL_law_510 : decode code 510 = .ok (.iload 4, 2) := by decide +kernel
theorem dL_law_512 : decode code 512 = .ok (.iconst 1, 1) := by decide +kernel
theorem dL_law_513 : decode code 513 = .ok (.iadd, 1) := by decide +kernel
theorem dL_law_514 : decode code 514 = .ok (.iaload, 1) := by decide +kernel
theorem dL_law_515 : decode code 515 = .ok (.invokevirtual 59, 3) := by decide +kernel
theorem dL_law_518 : decode code 518 = .ok (.if_icmp .eq 1279, 3) := by decide +kernel
theorem dL_law_521 : decode code 521 = .ok (.iconst 0, 1) := by decide +kernel
theorem dL_law_522 : decode code 522 = .ok (.ireturn, 1) := by decide +kernel
theorem dL_law_523 : decode code 523 = .ok (.aload_n 1, 1) := by decide +kernel
theorem dL_law_524 : decode code 524 = .ok (.aload_n 0, 1) := by decide +kernel
theorem dL_law_525 : decode code 525 = .ok (.iload 4, 2) := by decide +kernel
theorem dL_law_527 : decode code 527 = .ok (.iconst 1, 1) := by decide +kernel
theorem dL_law_528 : decode code 528 = .ok (.iadd, 1) := by decide +kernel
theorem dL_law_529 : decode code 529 = .ok (.iaload, 1) := by decide +kernel
theorem dL_law_530 : decode code 530 = .ok (.invokevirtual 60, 3) := by decide +kernel
theorem dL_law_533 : decode code 533 = .ok (.aload_n 2, 1) := by decide +kernel
theorem dL_law_534 : decode code 534 = .ok (.aload_n 0, 1) := by decide +kernel
theorem dL_law_535 : decode code 535 = .ok (.iload 4, 2) := by decide +kernel
theorem dL_law_537 : decode code 537 = .ok (.iconst 1, 1) := by decide +kernel
theorem dL_law_538 : decode code 538 = .ok (.iadd, 1) := by decide +kernel
theorem dL_law_539 : decode code 539 = .ok (.iaload, 1) := by decide +kernel
theorem dL_law_540 : decode code 540 = .ok (.invokevirtual 63, 3) := by decide +kernel
theorem dL_law_543 : decode code 543 = .ok (.if_icmp .eq 1254, 3) := by decide +kernel
theorem dL_law_546 : decode code 546 = .ok (.iconst 0, 1) := by decide +kernel
theorem dL_law_547 : decode code 547 = .ok (.ireturn, 1) := by decide +kernel
theorem dL_law_548 : decode code 548 = .ok (.aload_n 1, 1) := by decide +kernel
theorem dL_law_549 : decode code 549 = .ok (.aload_n 0, 1) := by decide +kernel
theorem dL_law_550 : decode code 550 = .ok (.iload 4, 2) := by decide +kernel
theorem dL_law_552 : decode code 552 = .ok (.iconst 1, 1) := by decide +kernel
theorem dL_law_553 : decode code 553 = .ok (.iadd, 1) := by decide +kernel
theorem dL_law_554 : decode code 554 = .ok (.iaload, 1) := by decide +kernel
theorem dL_law_555 : decode code 555 = .ok (.aload_n 0, 1) := by decide +kernel
theorem dL_law_556 : decode code 556 = .ok (.iload 4, 2) := by decide +kernel
theorem dL_law_558 : decode code 558 = .ok (.iconst 2, 1) := by decide +kernel
theorem dL_law_559 : decode code 559 = .ok (.iadd, 1) := by decide +kernel
theorem dL_law_560 : decode code 560 = .ok (.iaload, 1) := by decide +kernel
theorem dL_law_561 : decode code 561 = .ok (.aload_n 0, 1) := by decide +kernel
theorem dL_law_562 : decode code 562 = .ok (.iload 4, 2) := by decide +kernel
theorem dL_law_564 : decode code 564 = .ok (.iconst 3, 1) := by decide +kernel
theorem dL_law_565 : decode code 565 = .ok (.iadd, 1) := by decide +kernel
theorem dL_law_566 : decode code 566 = .ok (.iaload, 1) := by decide +kernel
theorem dL_law_567 : decode code 567 = .ok (.invokevirtual 64, 3) := by decide +kernel
theorem dL_law_570 : decode code 570 = .ok (.aload_n 2, 1) := by decide +kernel
theorem dL_law_571 : decode code 571 = .ok (.aload_n 0, 1) := by decide +kernel
theorem dL_law_572 : decode code 572 = .ok (.iload 4, 2) := by decide +kernel
theorem dL_law_574 : decode code 574 = .ok (.iconst 1, 1) := by decide +kernel
theorem dL_law_575 : decode code 575 = .ok (.iadd, 1) := by decide +kernel
theorem dL_law_576 : decode code 576 = .ok (.iaload, 1) := by decide +kernel
theorem dL_law_577 : decode code 577 = .ok (.aload_n 0, 1) := by decide +kernel
theorem dL_law_578 : decode code 578 = .ok (.iload 4, 2) := by decide +kernel
theorem dL_law_580 : decode code 580 = .ok (.iconst 2, 1) := by decide +kernel
theorem dL_law_581 : decode code 581 = .ok (.iadd, 1) := by decide +kernel
theorem dL_law_582 : decode code 582 = .ok (.iaload, 1) := by decide +kernel
theorem dL_law_583 : decode code 583 = .ok (.aload_n 0, 1) := by decide +kernel
theorem dL_law_584 : decode code 584 = .ok (.iload 4, 2) := by decide +kernel
theorem dL_law_586 : decode code 586 = .ok (.iconst 3, 1) := by decide +kernel
theorem dL_law_587 : decode code 587 = .ok (.iadd, 1) := by decide +kernel
theorem dL_law_588 : decode code 588 = .ok (.iaload, 1) := by decide +kernel
theorem dL_law_589 : decode code 589 = .ok (.invokevirtual 68, 3) := by decide +kernel
theorem dL_law_592 : decode code 592 = .ok (.if_icmp .eq 1205, 3) := by decide +kernel
theorem dL_law_595 : decode code 595 = .ok (.iconst 0, 1) := by decide +kernel
theorem dL_law_596 : decode code 596 = .ok (.ireturn, 1) := by decide +kernel
theorem dL_law_597 : decode code 597 = .ok (.aload_n 1, 1) := by decide +kernel
theorem dL_law_598 : decode code 598 = .ok (.aload_n 0, 1) := by decide +kernel
theorem dL_law_599 : decode code 599 = .ok (.iload 4, 2) := by decide +kernel
theorem dL_law_601 : decode code 601 = .ok (.iconst 1, 1) := by decide +kernel
theorem dL_law_602 : decode code 602 = .ok (.iadd, 1) := by decide +kernel
theorem dL_law_603 : decode code 603 = .ok (.iaload, 1) := by decide +kernel
theorem dL_law_604 : decode code 604 = .ok (.aload_n 0, 1) := by decide +kernel
theorem dL_law_605 : decode code 605 = .ok (.iload 4, 2) := by decide +kernel
theorem dL_law_607 : decode code 607 = .ok (.iconst 2, 1) := by decide +kernel
theorem dL_law_608 : decode code 608 = .ok (.iadd, 1) := by decide +kernel
theorem dL_law_609 : decode code 609 = .ok (.iaload, 1) := by decide +kernel
theorem dL_law_610 : decode code 610 = .ok (.invokevirtual 69, 3) := by decide +kernel
theorem dL_law_613 : decode code 613 = .ok (.aload_n 2, 1) := by decide +kernel
theorem dL_law_614 : decode code 614 = .ok (.aload_n 0, 1) := by decide +kernel
theorem dL_law_615 : decode code 615 = .ok (.iload 4, 2) := by decide +kernel
theorem dL_law_617 : decode code 617 = .ok (.iconst 1, 1) := by decide +kernel
theorem dL_law_618 : decode code 618 = .ok (.iadd, 1) := by decide +kernel
theorem dL_law_619 : decode code 619 = .ok (.iaload, 1) := by decide +kernel
theorem dL_law_620 : decode code 620 = .ok (.aload_n 0, 1) := by decide +kernel
theorem dL_law_621 : decode code 621 = .ok (.iload 4, 2) := by decide +kernel
theorem dL_law_623 : decode code 623 = .ok (.iconst 2, 1) := by decide +kernel
theorem dL_law_624 : decode code 624 = .ok (.iadd, 1) := by decide +kernel
theorem dL_law_625 : decode code 625 = .ok (.iaload, 1) := by decide +kernel
theorem dL_law_626 : decode code 626 = .ok (.invokevirtual 72, 3) := by decide +kernel
theorem dL_law_629 : decode code 629 = .ok (.if_icmp .eq 1168, 3) := by decide +kernel
theorem dL_law_632 : decode code 632 = .ok (.iconst 0, 1) := by decide +kernel
theorem dL_law_633 : decode code 633 = .ok (.ireturn, 1) := by decide +kernel
theorem dL_law_634 : decode code 634 = .ok (.aload_n 1, 1) := by decide +kernel
theorem dL_law_635 : decode code 635 = .ok (.aload_n 0, 1) := by decide +kernel
theorem dL_law_636 : decode code 636 = .ok (.iload 4, 2) := by decide +kernel
theorem dL_law_638 : decode code 638 = .ok (.iconst 1, 1) := by decide +kernel
theorem dL_law_639 : decode code 639 = .ok (.iadd, 1) := by decide +kernel
theorem dL_law_640 : decode code 640 = .ok (.iaload, 1) := by decide +kernel
theorem dL_law_641 : decode code 641 = .ok (.invokevirtual 73, 3) := by decide +kernel
theorem dL_law_644 : decode code 644 = .ok (.aload_n 2, 1) := by decide +kernel
theorem dL_law_645 : decode code 645 = .ok (.aload_n 0, 1) := by decide +kernel
theorem dL_law_646 : decode code 646 = .ok (.iload 4, 2) := by decide +kernel
theorem dL_law_648 : decode code 648 = .ok (.iconst 1, 1) := by decide +kernel
theorem dL_law_649 : decode code 649 = .ok (.iadd, 1) := by decide +kernel
theorem dL_law_650 : decode code 650 = .ok (.iaload, 1) := by decide +kernel
theorem dL_law_651 : decode code 651 = .ok (.invokevirtual 76, 3) := by decide +kernel
theorem dL_law_654 : decode code 654 = .ok (.if_icmp .eq 1143, 3) := by decide +kernel
theorem dL_law_657 : decode code 657 = .ok (.iconst 0, 1) := by decide +kernel
theorem dL_law_658 : decode code 658 = .ok (.ireturn, 1) := by decide +kernel
theorem dL_law_659 : decode code 659 = .ok (.aload_n 1, 1) := by decide +kernel
theorem dL_law_660 : decode code 660 = .ok (.aload_n 0, 1) := by decide +kernel
theorem dL_law_661 : decode code 661 = .ok (.iload 4, 2) := by decide +kernel
theorem dL_law_663 : decode code 663 = .ok (.iconst 1, 1) := by decide +kernel
theorem dL_law_664 : decode code 664 = .ok (.iadd, 1) := by decide +kernel
theorem dL_law_665 : decode code 665 = .ok (.iaload, 1) := by decide +kernel
theorem dL_law_666 : decode code 666 = .ok (.invokevirtual 77, 3) := by decide +kernel
theorem dL_law_669 : decode code 669 = .ok (.aload_n 2, 1) := by decide +kernel
theorem dL_law_670 : decode code 670 = .ok (.aload_n 0, 1) := by decide +kernel
theorem dL_law_671 : decode code 671 = .ok (.iload 4, 2) := by decide +kernel
theorem dL_law_673 : decode code 673 = .ok (.iconst 1, 1) := by decide +kernel
theorem dL_law_674 : decode code 674 = .ok (.iadd, 1) := by decide +kernel
theorem dL_law_675 : decode code 675 = .ok (.iaload, 1) := by decide +kernel
theorem dL_law_676 : decode code 676 = .ok (.invokevirtual 80, 3) := by decide +kernel
theorem dL_law_679 : decode code 679 = .ok (.if_icmp .eq 1118, 3) := by decide +kernel
theorem dL_law_682 : decode code 682 = .ok (.iconst 0, 1) := by decide +kernel
theorem dL_law_683 : decode code 683 = .ok (.ireturn, 1) := by decide +kernel
theorem dL_law_684 : decode code 684 = .ok (.aload_n 1, 1) := by decide +kernel
theorem dL_law_685 : decode code 685 = .ok (.aload_n 0, 1) := by decide +kernel
theorem dL_law_686 : decode code 686 = .ok (.iload 4, 2) := by decide +kernel
theorem dL_law_688 : decode code 688 = .ok (.iconst 1, 1) := by decide +kernel
theorem dL_law_689 : decode code 689 = .ok (.iadd, 1) := by decide +kernel
theorem dL_law_690 : decode code 690 = .ok (.iaload, 1) := by decide +kernel
theorem dL_law_691 : decode code 691 = .ok (.invokevirtual 81, 3) := by decide +kernel
theorem dL_law_694 : decode code 694 = .ok (.aload_n 2, 1) := by decide +kernel
theorem dL_law_695 : decode code 695 = .ok (.aload_n 0, 1) := by decide +kernel
theorem dL_law_696 : decode code 696 = .ok (.iload 4, 2) := by decide +kernel
theorem dL_law_698 : decode code 698 = .ok (.iconst 1, 1) := by decide +kernel
theorem dL_law_699 : decode code 699 = .ok (.iadd, 1) := by decide +kernel
theorem dL_law_700 : decode code 700 = .ok (.iaload, 1) := by decide +kernel
theorem dL_law_701 : decode code 701 = .ok (.invokevirtual 84, 3) := by decide +kernel
theorem dL_law_704 : decode code 704 = .ok (.if_icmp .eq 1093, 3) := by decide +kernel
theorem dL_law_707 : decode code 707 = .ok (.iconst 0, 1) := by decide +kernel
theorem dL_law_708 : decode code 708 = .ok (.ireturn, 1) := by decide +kernel
theorem dL_law_709 : decode code 709 = .ok (.aload_n 1, 1) := by decide +kernel
theorem dL_law_710 : decode code 710 = .ok (.aload_n 0, 1) := by decide +kernel
theorem dL_law_711 : decode code 711 = .ok (.iload 4, 2) := by decide +kernel
theorem dL_law_713 : decode code 713 = .ok (.iconst 1, 1) := by decide +kernel
theorem dL_law_714 : decode code 714 = .ok (.iadd, 1) := by decide +kernel
theorem dL_law_715 : decode code 715 = .ok (.iaload, 1) := by decide +kernel
theorem dL_law_716 : decode code 716 = .ok (.aload_n 0, 1) := by decide +kernel
theorem dL_law_717 : decode code 717 = .ok (.iload 4, 2) := by decide +kernel
theorem dL_law_719 : decode code 719 = .ok (.iconst 2, 1) := by decide +kernel
theorem dL_law_720 : decode code 720 = .ok (.iadd, 1) := by decide +kernel
theorem dL_law_721 : decode code 721 = .ok (.iaload, 1) := by decide +kernel
theorem dL_law_722 : decode code 722 = .ok (.i2l, 1) := by decide +kernel
theorem dL_law_723 : decode code 723 = .ok (.bipush 32, 2) := by decide +kernel
theorem dL_law_725 : decode code 725 = .ok (.lshl, 1) := by decide +kernel
theorem dL_law_726 : decode code 726 = .ok (.aload_n 0, 1) := by decide +kernel
theorem dL_law_727 : decode code 727 = .ok (.iload 4, 2) := by decide +kernel
theorem dL_law_729 : decode code 729 = .ok (.iconst 3, 1) := by decide +kernel
theorem dL_law_730 : decode code 730 = .ok (.iadd, 1) := by decide +kernel
theorem dL_law_731 : decode code 731 = .ok (.iaload, 1) := by decide +kernel
theorem dL_law_732 : decode code 732 = .ok (.i2l, 1) := by decide +kernel
theorem dL_law_733 : decode code 733 = .ok (.ldc2_w 85, 3) := by decide +kernel
theorem dL_law_736 : decode code 736 = .ok (.land, 1) := by decide +kernel
theorem dL_law_737 : decode code 737 = .ok (.lor, 1) := by decide +kernel
theorem dL_law_738 : decode code 738 = .ok (.invokevirtual 87, 3) := by decide +kernel
theorem dL_law_741 : decode code 741 = .ok (.aload_n 2, 1) := by decide +kernel
theorem dL_law_742 : decode code 742 = .ok (.aload_n 0, 1) := by decide +kernel
theorem dL_law_743 : decode code 743 = .ok (.iload 4, 2) := by decide +kernel
theorem dL_law_745 : decode code 745 = .ok (.iconst 1, 1) := by decide +kernel
theorem dL_law_746 : decode code 746 = .ok (.iadd, 1) := by decide +kernel
theorem dL_law_747 : decode code 747 = .ok (.iaload, 1) := by decide +kernel
theorem dL_law_748 : decode code 748 = .ok (.aload_n 0, 1) := by decide +kernel
theorem dL_law_749 : decode code 749 = .ok (.iload 4, 2) := by decide +kernel
theorem dL_law_751 : decode code 751 = .ok (.iconst 2, 1) := by decide +kernel
theorem dL_law_752 : decode code 752 = .ok (.iadd, 1) := by decide +kernel
theorem dL_law_753 : decode code 753 = .ok (.iaload, 1) := by decide +kernel
theorem dL_law_754 : decode code 754 = .ok (.i2l, 1) := by decide +kernel
theorem dL_law_755 : decode code 755 = .ok (.bipush 32, 2) := by decide +kernel
theorem dL_law_757 : decode code 757 = .ok (.lshl, 1) := by decide +kernel
theorem dL_law_758 : decode code 758 = .ok (.aload_n 0, 1) := by decide +kernel
theorem dL_law_759 : decode code 759 = .ok (.iload 4, 2) := by decide +kernel
theorem dL_law_761 : decode code 761 = .ok (.iconst 3, 1) := by decide +kernel
theorem dL_law_762 : decode code 762 = .ok (.iadd, 1) := by decide +kernel
theorem dL_law_763 : decode code 763 = .ok (.iaload, 1) := by decide +kernel
theorem dL_law_764 : decode code 764 = .ok (.i2l, 1) := by decide +kernel
theorem dL_law_765 : decode code 765 = .ok (.ldc2_w 85, 3) := by decide +kernel
theorem dL_law_768 : decode code 768 = .ok (.land, 1) := by decide +kernel
theorem dL_law_769 : decode code 769 = .ok (.lor, 1) := by decide +kernel
theorem dL_law_770 : decode code 770 = .ok (.invokevirtual 91, 3) := by decide +kernel
theorem dL_law_773 : decode code 773 = .ok (.if_icmp .eq 1024, 3) := by decide +kernel
theorem dL_law_776 : decode code 776 = .ok (.iconst 0, 1) := by decide +kernel
theorem dL_law_777 : decode code 777 = .ok (.ireturn, 1) := by decide +kernel
theorem dL_law_778 : decode code 778 = .ok (.aload_n 1, 1) := by decide +kernel
theorem dL_law_779 : decode code 779 = .ok (.invokevirtual 92, 3) := by decide +kernel
theorem dL_law_782 : decode code 782 = .ok (.aload_n 2, 1) := by decide +kernel
theorem dL_law_783 : decode code 783 = .ok (.invokevirtual 95, 3) := by decide +kernel
theorem dL_law_786 : decode code 786 = .ok (.if_icmp .eq 1011, 3) := by decide +kernel
theorem dL_law_789 : decode code 789 = .ok (.iconst 0, 1) := by decide +kernel
theorem dL_law_790 : decode code 790 = .ok (.ireturn, 1) := by decide +kernel
theorem dL_law_791 : decode code 791 = .ok (.aload_n 1, 1) := by decide +kernel
theorem dL_law_792 : decode code 792 = .ok (.aload_n 0, 1) := by decide +kernel
theorem dL_law_793 : decode code 793 = .ok (.iload 4, 2) := by decide +kernel
theorem dL_law_795 : decode code 795 = .ok (.iconst 1, 1) := by decide +kernel
theorem dL_law_796 : decode code 796 = .ok (.iadd, 1) := by decide +kernel
theorem dL_law_797 : decode code 797 = .ok (.iaload, 1) := by decide +kernel
theorem dL_law_798 : decode code 798 = .ok (.aload_n 0, 1) := by decide +kernel
theorem dL_law_799 : decode code 799 = .ok (.iload 4, 2) := by decide +kernel
theorem dL_law_801 : decode code 801 = .ok (.iconst 2, 1) := by decide +kernel
theorem dL_law_802 : decode code 802 = .ok (.iadd, 1) := by decide +kernel
theorem dL_law_803 : decode code 803 = .ok (.iaload, 1) := by decide +kernel
theorem dL_law_804 : decode code 804 = .ok (.invokevirtual 96, 3) := by decide +kernel
theorem dL_law_807 : decode code 807 = .ok (.aload_n 2, 1) := by decide +kernel
theorem dL_law_808 : decode code 808 = .ok (.aload_n 0, 1) := by decide +kernel
theorem dL_law_809 : decode code 809 = .ok (.iload 4, 2) := by decide +kernel
theorem dL_law_811 : decode code 811 = .ok (.iconst 1, 1) := by decide +kernel
theorem dL_law_812 : decode code 812 = .ok (.iadd, 1) := by decide +kernel
theorem dL_law_813 : decode code 813 = .ok (.iaload, 1) := by decide +kernel
theorem dL_law_814 : decode code 814 = .ok (.aload_n 0, 1) := by decide +kernel
theorem dL_law_815 : decode code 815 = .ok (.iload 4, 2) := by decide +kernel
theorem dL_law_817 : decode code 817 = .ok (.iconst 2, 1) := by decide +kernel
theorem dL_law_818 : decode code 818 = .ok (.iadd, 1) := by decide +kernel
theorem dL_law_819 : decode code 819 = .ok (.iaload, 1) := by decide +kernel
theorem dL_law_820 : decode code 820 = .ok (.invokevirtual 99, 3) := by decide +kernel
theorem dL_law_823 : decode code 823 = .ok (.if_icmp .eq 974, 3) := by decide +kernel
theorem dL_law_826 : decode code 826 = .ok (.iconst 0, 1) := by decide +kernel
theorem dL_law_827 : decode code 827 = .ok (.ireturn, 1) := by decide +kernel
theorem dL_law_828 : decode code 828 = .ok (.aload_n 1, 1) := by decide +kernel
theorem dL_law_829 : decode code 829 = .ok (.aload_n 0, 1) := by decide +kernel
theorem dL_law_830 : decode code 830 = .ok (.iload 4, 2) := by decide +kernel
theorem dL_law_832 : decode code 832 = .ok (.iconst 1, 1) := by decide +kernel
theorem dL_law_833 : decode code 833 = .ok (.iadd, 1) := by decide +kernel
theorem dL_law_834 : decode code 834 = .ok (.iaload, 1) := by decide +kernel
theorem dL_law_835 : decode code 835 = .ok (.aload_n 0, 1) := by decide +kernel
theorem dL_law_836 : decode code 836 = .ok (.iload 4, 2) := by decide +kernel
theorem dL_law_838 : decode code 838 = .ok (.iconst 2, 1) := by decide +kernel
theorem dL_law_839 : decode code 839 = .ok (.iadd, 1) := by decide +kernel
theorem dL_law_840 : decode code 840 = .ok (.iaload, 1) := by decide +kernel
theorem dL_law_841 : decode code 841 = .ok (.aload_n 0, 1) := by decide +kernel
theorem dL_law_842 : decode code 842 = .ok (.iload 4, 2) := by decide +kernel
theorem dL_law_844 : decode code 844 = .ok (.iconst 3, 1) := by decide +kernel
theorem dL_law_845 : decode code 845 = .ok (.iadd, 1) := by decide +kernel
theorem dL_law_846 : decode code 846 = .ok (.iaload, 1) := by decide +kernel
theorem dL_law_847 : decode code 847 = .ok (.invokevirtual 100, 3) := by decide +kernel
theorem dL_law_850 : decode code 850 = .ok (.aload_n 2, 1) := by decide +kernel
theorem dL_law_851 : decode code 851 = .ok (.aload_n 0, 1) := by decide +kernel
theorem dL_law_852 : decode code 852 = .ok (.iload 4, 2) := by decide +kernel
theorem dL_law_854 : decode code 854 = .ok (.iconst 1, 1) := by decide +kernel
theorem dL_law_855 : decode code 855 = .ok (.iadd, 1) := by decide +kernel
theorem dL_law_856 : decode code 856 = .ok (.iaload, 1) := by decide +kernel
theorem dL_law_857 : decode code 857 = .ok (.aload_n 0, 1) := by decide +kernel
theorem dL_law_858 : decode code 858 = .ok (.iload 4, 2) := by decide +kernel
theorem dL_law_860 : decode code 860 = .ok (.iconst 2, 1) := by decide +kernel
theorem dL_law_861 : decode code 861 = .ok (.iadd, 1) := by decide +kernel
theorem dL_law_862 : decode code 862 = .ok (.iaload, 1) := by decide +kernel
theorem dL_law_863 : decode code 863 = .ok (.aload_n 0, 1) := by decide +kernel
theorem dL_law_864 : decode code 864 = .ok (.iload 4, 2) := by decide +kernel
theorem dL_law_866 : decode code 866 = .ok (.iconst 3, 1) := by decide +kernel
theorem dL_law_867 : decode code 867 = .ok (.iadd, 1) := by decide +kernel
theorem dL_law_868 : decode code 868 = .ok (.iaload, 1) := by decide +kernel
theorem dL_law_869 : decode code 869 = .ok (.invokevirtual 103, 3) := by decide +kernel
theorem dL_law_872 : decode code 872 = .ok (.if_icmp .eq 925, 3) := by decide +kernel
theorem dL_law_875 : decode code 875 = .ok (.iconst 0, 1) := by decide +kernel
theorem dL_law_876 : decode code 876 = .ok (.ireturn, 1) := by decide +kernel
theorem dL_law_877 : decode code 877 = .ok (.aload_n 1, 1) := by decide +kernel
theorem dL_law_878 : decode code 878 = .ok (.aload_n 0, 1) := by decide +kernel
theorem dL_law_879 : decode code 879 = .ok (.iload 4, 2) := by decide +kernel
theorem dL_law_881 : decode code 881 = .ok (.iconst 1, 1) := by decide +kernel
theorem dL_law_882 : decode code 882 = .ok (.iadd, 1) := by decide +kernel
theorem dL_law_883 : decode code 883 = .ok (.iaload, 1) := by decide +kernel
theorem dL_law_884 : decode code 884 = .ok (.aload_n 0, 1) := by decide +kernel
theorem dL_law_885 : decode code 885 = .ok (.iload 4, 2) := by decide +kernel
theorem dL_law_887 : decode code 887 = .ok (.iconst 2, 1) := by decide +kernel
theorem dL_law_888 : decode code 888 = .ok (.iadd, 1) := by decide +kernel
theorem dL_law_889 : decode code 889 = .ok (.iaload, 1) := by decide +kernel
theorem dL_law_890 : decode code 890 = .ok (.invokevirtual 104, 3) := by decide +kernel
theorem dL_law_893 : decode code 893 = .ok (.aload_n 2, 1) := by decide +kernel
theorem dL_law_894 : decode code 894 = .ok (.aload_n 0, 1) := by decide +kernel
theorem dL_law_895 : decode code 895 = .ok (.iload 4, 2) := by decide +kernel
theorem dL_law_897 : decode code 897 = .ok (.iconst 1, 1) := by decide +kernel
theorem dL_law_898 : decode code 898 = .ok (.iadd, 1) := by decide +kernel
theorem dL_law_899 : decode code 899 = .ok (.iaload, 1) := by decide +kernel
theorem dL_law_900 : decode code 900 = .ok (.aload_n 0, 1) := by decide +kernel
theorem dL_law_901 : decode code 901 = .ok (.iload 4, 2) := by decide +kernel
theorem dL_law_903 : decode code 903 = .ok (.iconst 2, 1) := by decide +kernel
theorem dL_law_904 : decode code 904 = .ok (.iadd, 1) := by decide +kernel
theorem dL_law_905 : decode code 905 = .ok (.iaload, 1) := by decide +kernel
theorem dL_law_906 : decode code 906 = .ok (.invokevirtual 107, 3) := by decide +kernel
theorem dL_law_909 : decode code 909 = .ok (.if_icmp .eq 888, 3) := by decide +kernel
theorem dL_law_912 : decode code 912 = .ok (.iconst 0, 1) := by decide +kernel
theorem dL_law_913 : decode code 913 = .ok (.ireturn, 1) := by decide +kernel
theorem dL_law_914 : decode code 914 = .ok (.aload_n 1, 1) := by decide +kernel
theorem dL_law_915 : decode code 915 = .ok (.aload_n 0, 1) := by decide +kernel
theorem dL_law_916 : decode code 916 = .ok (.iload 4, 2) := by decide +kernel
theorem dL_law_918 : decode code 918 = .ok (.iconst 1, 1) := by decide +kernel
theorem dL_law_919 : decode code 919 = .ok (.iadd, 1) := by decide +kernel
theorem dL_law_920 : decode code 920 = .ok (.iaload, 1) := by decide +kernel
theorem dL_law_921 : decode code 921 = .ok (.invokevirtual 108, 3) := by decide +kernel
theorem dL_law_924 : decode code 924 = .ok (.aload_n 2, 1) := by decide +kernel
theorem dL_law_925 : decode code 925 = .ok (.aload_n 0, 1) := by decide +kernel
theorem dL_law_926 : decode code 926 = .ok (.iload 4, 2) := by decide +kernel
theorem dL_law_928 : decode code 928 = .ok (.iconst 1, 1) := by decide +kernel
theorem dL_law_929 : decode code 929 = .ok (.iadd, 1) := by decide +kernel
theorem dL_law_930 : decode code 930 = .ok (.iaload, 1) := by decide +kernel
theorem dL_law_931 : decode code 931 = .ok (.invokevirtual 111, 3) := by decide +kernel
theorem dL_law_934 : decode code 934 = .ok (.if_icmp .eq 863, 3) := by decide +kernel
theorem dL_law_937 : decode code 937 = .ok (.iconst 0, 1) := by decide +kernel
theorem dL_law_938 : decode code 938 = .ok (.ireturn, 1) := by decide +kernel
theorem dL_law_939 : decode code 939 = .ok (.aload_n 1, 1) := by decide +kernel
theorem dL_law_940 : decode code 940 = .ok (.aload_n 0, 1) := by decide +kernel
theorem dL_law_941 : decode code 941 = .ok (.iload 4, 2) := by decide +kernel
theorem dL_law_943 : decode code 943 = .ok (.iconst 1, 1) := by decide +kernel
theorem dL_law_944 : decode code 944 = .ok (.iadd, 1) := by decide +kernel
theorem dL_law_945 : decode code 945 = .ok (.iaload, 1) := by decide +kernel
theorem dL_law_946 : decode code 946 = .ok (.aload_n 0, 1) := by decide +kernel
theorem dL_law_947 : decode code 947 = .ok (.iload 4, 2) := by decide +kernel
theorem dL_law_949 : decode code 949 = .ok (.iconst 2, 1) := by decide +kernel
theorem dL_law_950 : decode code 950 = .ok (.iadd, 1) := by decide +kernel
theorem dL_law_951 : decode code 951 = .ok (.iaload, 1) := by decide +kernel
theorem dL_law_952 : decode code 952 = .ok (.invokevirtual 112, 3) := by decide +kernel
theorem dL_law_955 : decode code 955 = .ok (.aload_n 2, 1) := by decide +kernel
theorem dL_law_956 : decode code 956 = .ok (.aload_n 0, 1) := by decide +kernel
theorem dL_law_957 : decode code 957 = .ok (.iload 4, 2) := by decide +kernel
theorem dL_law_959 : decode code 959 = .ok (.iconst 1, 1) := by decide +kernel
theorem dL_law_960 : decode code 960 = .ok (.iadd, 1) := by decide +kernel
theorem dL_law_961 : decode code 961 = .ok (.iaload, 1) := by decide +kernel
theorem dL_law_962 : decode code 962 = .ok (.aload_n 0, 1) := by decide +kernel
theorem dL_law_963 : decode code 963 = .ok (.iload 4, 2) := by decide +kernel
theorem dL_law_965 : decode code 965 = .ok (.iconst 2, 1) := by decide +kernel
theorem dL_law_966 : decode code 966 = .ok (.iadd, 1) := by decide +kernel
theorem dL_law_967 : decode code 967 = .ok (.iaload, 1) := by decide +kernel
theorem dL_law_968 : decode code 968 = .ok (.invokevirtual 115, 3) := by decide +kernel
theorem dL_law_971 : decode code 971 = .ok (.if_icmp .eq 826, 3) := by decide +kernel
theorem dL_law_974 : decode code 974 = .ok (.iconst 0, 1) := by decide +kernel
theorem dL_law_975 : decode code 975 = .ok (.ireturn, 1) := by decide +kernel
theorem dL_law_976 : decode code 976 = .ok (.aload_n 1, 1) := by decide +kernel
theorem dL_law_977 : decode code 977 = .ok (.aload_n 0, 1) := by decide +kernel
theorem dL_law_978 : decode code 978 = .ok (.iload 4, 2) := by decide +kernel
theorem dL_law_980 : decode code 980 = .ok (.iconst 1, 1) := by decide +kernel
theorem dL_law_981 : decode code 981 = .ok (.iadd, 1) := by decide +kernel
theorem dL_law_982 : decode code 982 = .ok (.iaload, 1) := by decide +kernel
theorem dL_law_983 : decode code 983 = .ok (.invokevirtual 116, 3) := by decide +kernel
theorem dL_law_986 : decode code 986 = .ok (.aload_n 2, 1) := by decide +kernel
theorem dL_law_987 : decode code 987 = .ok (.aload_n 0, 1) := by decide +kernel
theorem dL_law_988 : decode code 988 = .ok (.iload 4, 2) := by decide +kernel
theorem dL_law_990 : decode code 990 = .ok (.iconst 1, 1) := by decide +kernel
theorem dL_law_991 : decode code 991 = .ok (.iadd, 1) := by decide +kernel
theorem dL_law_992 : decode code 992 = .ok (.iaload, 1) := by decide +kernel
theorem dL_law_993 : decode code 993 = .ok (.invokevirtual 119, 3) := by decide +kernel
theorem dL_law_996 : decode code 996 = .ok (.if_icmp .eq 801, 3) := by decide +kernel
theorem dL_law_999 : decode code 999 = .ok (.iconst 0, 1) := by decide +kernel
theorem dL_law_1000 : decode code 1000 = .ok (.ireturn, 1) := by decide +kernel
theorem dL_law_1001 : decode code 1001 = .ok (.aload_n 1, 1) := by decide +kernel
theorem dL_law_1002 : decode code 1002 = .ok (.invokevirtual 120, 3) := by decide +kernel
theorem dL_law_1005 : decode code 1005 = .ok (.aload_n 2, 1) := by decide +kernel
theorem dL_law_1006 : decode code 1006 = .ok (.invokevirtual 123, 3) := by decide +kernel
theorem dL_law_1009 : decode code 1009 = .ok (.if_icmp .eq 788, 3) := by decide +kernel
theorem dL_law_1012 : decode code 1012 = .ok (.iconst 0, 1) := by decide +kernel
theorem dL_law_1013 : decode code 1013 = .ok (.ireturn, 1) := by decide +kernel
theorem dL_law_1014 : decode code 1014 = .ok (.aload_n 1, 1) := by decide +kernel
theorem dL_law_1015 : decode code 1015 = .ok (.aload_n 0, 1) := by decide +kernel
theorem dL_law_1016 : decode code 1016 = .ok (.iload 4, 2) := by decide +kernel
theorem dL_law_1018 : decode code 1018 = .ok (.iconst 1, 1) := by decide +kernel
theorem dL_law_1019 : decode code 1019 = .ok (.iadd, 1) := by decide +kernel
theorem dL_law_1020 : decode code 1020 = .ok (.iaload, 1) := by decide +kernel
theorem dL_law_1021 : decode code 1021 = .ok (.aload_n 0, 1) := by decide +kernel
theorem dL_law_1022 : decode code 1022 = .ok (.iload 4, 2) := by decide +kernel
theorem dL_law_1024 : decode code 1024 = .ok (.iconst 2, 1) := by decide +kernel
theorem dL_law_1025 : decode code 1025 = .ok (.iadd, 1) := by decide +kernel
theorem dL_law_1026 : decode code 1026 = .ok (.iaload, 1) := by decide +kernel
theorem dL_law_1027 : decode code 1027 = .ok (.invokevirtual 124, 3) := by decide +kernel
theorem dL_law_1030 : decode code 1030 = .ok (.aload_n 2, 1) := by decide +kernel
theorem dL_law_1031 : decode code 1031 = .ok (.aload_n 0, 1) := by decide +kernel
theorem dL_law_1032 : decode code 1032 = .ok (.iload 4, 2) := by decide +kernel
theorem dL_law_1034 : decode code 1034 = .ok (.iconst 1, 1) := by decide +kernel
theorem dL_law_1035 : decode code 1035 = .ok (.iadd, 1) := by decide +kernel
theorem dL_law_1036 : decode code 1036 = .ok (.iaload, 1) := by decide +kernel
theorem dL_law_1037 : decode code 1037 = .ok (.aload_n 0, 1) := by decide +kernel
theorem dL_law_1038 : decode code 1038 = .ok (.iload 4, 2) := by decide +kernel
theorem dL_law_1040 : decode code 1040 = .ok (.iconst 2, 1) := by decide +kernel
theorem dL_law_1041 : decode code 1041 = .ok (.iadd, 1) := by decide +kernel
theorem dL_law_1042 : decode code 1042 = .ok (.iaload, 1) := by decide +kernel
theorem dL_law_1043 : decode code 1043 = .ok (.invokevirtual 127, 3) := by decide +kernel
theorem dL_law_1046 : decode code 1046 = .ok (.if_icmp .eq 751, 3) := by decide +kernel
theorem dL_law_1049 : decode code 1049 = .ok (.iconst 0, 1) := by decide +kernel
theorem dL_law_1050 : decode code 1050 = .ok (.ireturn, 1) := by decide +kernel
theorem dL_law_1051 : decode code 1051 = .ok (.aload_n 1, 1) := by decide +kernel
theorem dL_law_1052 : decode code 1052 = .ok (.aload_n 0, 1) := by decide +kernel
theorem dL_law_1053 : decode code 1053 = .ok (.iload 4, 2) := by decide +kernel
theorem dL_law_1055 : decode code 1055 = .ok (.iconst 1, 1) := by decide +kernel
theorem dL_law_1056 : decode code 1056 = .ok (.iadd, 1) := by decide +kernel
theorem dL_law_1057 : decode code 1057 = .ok (.iaload, 1) := by decide +kernel
theorem dL_law_1058 : decode code 1058 = .ok (.aload_n 0, 1) := by decide +kernel
theorem dL_law_1059 : decode code 1059 = .ok (.iload 4, 2) := by decide +kernel
theorem dL_law_1061 : decode code 1061 = .ok (.iconst 2, 1) := by decide +kernel
theorem dL_law_1062 : decode code 1062 = .ok (.iadd, 1) := by decide +kernel
theorem dL_law_1063 : decode code 1063 = .ok (.iaload, 1) := by decide +kernel
theorem dL_law_1064 : decode code 1064 = .ok (.invokevirtual 128, 3) := by decide +kernel
theorem dL_law_1067 : decode code 1067 = .ok (.aload_n 2, 1) := by decide +kernel
theorem dL_law_1068 : decode code 1068 = .ok (.aload_n 0, 1) := by decide +kernel
theorem dL_law_1069 : decode code 1069 = .ok (.iload 4, 2) := by decide +kernel
theorem dL_law_1071 : decode code 1071 = .ok (.iconst 1, 1) := by decide +kernel
theorem dL_law_1072 : decode code 1072 = .ok (.iadd, 1) := by decide +kernel
theorem dL_law_1073 : decode code 1073 = .ok (.iaload, 1) := by decide +kernel
theorem dL_law_1074 : decode code 1074 = .ok (.aload_n 0, 1) := by decide +kernel
theorem dL_law_1075 : decode code 1075 = .ok (.iload 4, 2) := by decide +kernel
theorem dL_law_1077 : decode code 1077 = .ok (.iconst 2, 1) := by decide +kernel
theorem dL_law_1078 : decode code 1078 = .ok (.iadd, 1) := by decide +kernel
theorem dL_law_1079 : decode code 1079 = .ok (.iaload, 1) := by decide +kernel
theorem dL_law_1080 : decode code 1080 = .ok (.invokevirtual 131, 3) := by decide +kernel
theorem dL_law_1083 : decode code 1083 = .ok (.if_icmp .eq 714, 3) := by decide +kernel
theorem dL_law_1086 : decode code 1086 = .ok (.iconst 0, 1) := by decide +kernel
theorem dL_law_1087 : decode code 1087 = .ok (.ireturn, 1) := by decide +kernel
theorem dL_law_1088 : decode code 1088 = .ok (.aload_n 1, 1) := by decide +kernel
theorem dL_law_1089 : decode code 1089 = .ok (.aload_n 0, 1) := by decide +kernel
theorem dL_law_1090 : decode code 1090 = .ok (.iload 4, 2) := by decide +kernel
theorem dL_law_1092 : decode code 1092 = .ok (.iconst 1, 1) := by decide +kernel
theorem dL_law_1093 : decode code 1093 = .ok (.iadd, 1) := by decide +kernel
theorem dL_law_1094 : decode code 1094 = .ok (.iaload, 1) := by decide +kernel
theorem dL_law_1095 : decode code 1095 = .ok (.aload_n 0, 1) := by decide +kernel
theorem dL_law_1096 : decode code 1096 = .ok (.iload 4, 2) := by decide +kernel
theorem dL_law_1098 : decode code 1098 = .ok (.iconst 2, 1) := by decide +kernel
theorem dL_law_1099 : decode code 1099 = .ok (.iadd, 1) := by decide +kernel
theorem dL_law_1100 : decode code 1100 = .ok (.iaload, 1) := by decide +kernel
theorem dL_law_1101 : decode code 1101 = .ok (.invokevirtual 132, 3) := by decide +kernel
theorem dL_law_1104 : decode code 1104 = .ok (.aload_n 2, 1) := by decide +kernel
theorem dL_law_1105 : decode code 1105 = .ok (.aload_n 0, 1) := by decide +kernel
theorem dL_law_1106 : decode code 1106 = .ok (.iload 4, 2) := by decide +kernel
theorem dL_law_1108 : decode code 1108 = .ok (.iconst 1, 1) := by decide +kernel
theorem dL_law_1109 : decode code 1109 = .ok (.iadd, 1) := by decide +kernel
theorem dL_law_1110 : decode code 1110 = .ok (.iaload, 1) := by decide +kernel
theorem dL_law_1111 : decode code 1111 = .ok (.aload_n 0, 1) := by decide +kernel
theorem dL_law_1112 : decode code 1112 = .ok (.iload 4, 2) := by decide +kernel
theorem dL_law_1114 : decode code 1114 = .ok (.iconst 2, 1) := by decide +kernel
theorem dL_law_1115 : decode code 1115 = .ok (.iadd, 1) := by decide +kernel
theorem dL_law_1116 : decode code 1116 = .ok (.iaload, 1) := by decide +kernel
theorem dL_law_1117 : decode code 1117 = .ok (.invokevirtual 135, 3) := by decide +kernel
theorem dL_law_1120 : decode code 1120 = .ok (.if_icmp .eq 677, 3) := by decide +kernel
theorem dL_law_1123 : decode code 1123 = .ok (.iconst 0, 1) := by decide +kernel
theorem dL_law_1124 : decode code 1124 = .ok (.ireturn, 1) := by decide +kernel
theorem dL_law_1125 : decode code 1125 = .ok (.aload_n 1, 1) := by decide +kernel
theorem dL_law_1126 : decode code 1126 = .ok (.aload_n 0, 1) := by decide +kernel
theorem dL_law_1127 : decode code 1127 = .ok (.iload 4, 2) := by decide +kernel
theorem dL_law_1129 : decode code 1129 = .ok (.iconst 1, 1) := by decide +kernel
theorem dL_law_1130 : decode code 1130 = .ok (.iadd, 1) := by decide +kernel
theorem dL_law_1131 : decode code 1131 = .ok (.iaload, 1) := by decide +kernel
theorem dL_law_1132 : decode code 1132 = .ok (.aload_n 0, 1) := by decide +kernel
theorem dL_law_1133 : decode code 1133 = .ok (.iload 4, 2) := by decide +kernel
theorem dL_law_1135 : decode code 1135 = .ok (.iconst 2, 1) := by decide +kernel
theorem dL_law_1136 : decode code 1136 = .ok (.iadd, 1) := by decide +kernel
theorem dL_law_1137 : decode code 1137 = .ok (.iaload, 1) := by decide +kernel
theorem dL_law_1138 : decode code 1138 = .ok (.aload_n 0, 1) := by decide +kernel
theorem dL_law_1139 : decode code 1139 = .ok (.iload 4, 2) := by decide +kernel
theorem dL_law_1141 : decode code 1141 = .ok (.iconst 3, 1) := by decide +kernel
theorem dL_law_1142 : decode code 1142 = .ok (.iadd, 1) := by decide +kernel
theorem dL_law_1143 : decode code 1143 = .ok (.iaload, 1) := by decide +kernel
theorem dL_law_1144 : decode code 1144 = .ok (.aload_n 0, 1) := by decide +kernel
theorem dL_law_1145 : decode code 1145 = .ok (.iload 4, 2) := by decide +kernel
theorem dL_law_1147 : decode code 1147 = .ok (.iconst 4, 1) := by decide +kernel
theorem dL_law_1148 : decode code 1148 = .ok (.iadd, 1) := by decide +kernel
theorem dL_law_1149 : decode code 1149 = .ok (.iaload, 1) := by decide +kernel
theorem dL_law_1150 : decode code 1150 = .ok (.ifCond .eq 7, 3) := by decide +kernel
theorem dL_law_1153 : decode code 1153 = .ok (.iconst 1, 1) := by decide +kernel
theorem dL_law_1154 : decode code 1154 = .ok (.goto 4, 3) := by decide +kernel
theorem dL_law_1157 : decode code 1157 = .ok (.iconst 0, 1) := by decide +kernel
theorem dL_law_1158 : decode code 1158 = .ok (.invokevirtual 136, 3) := by decide +kernel
theorem dL_law_1161 : decode code 1161 = .ok (.aload_n 2, 1) := by decide +kernel
theorem dL_law_1162 : decode code 1162 = .ok (.aload_n 0, 1) := by decide +kernel
theorem dL_law_1163 : decode code 1163 = .ok (.iload 4, 2) := by decide +kernel
theorem dL_law_1165 : decode code 1165 = .ok (.iconst 1, 1) := by decide +kernel
theorem dL_law_1166 : decode code 1166 = .ok (.iadd, 1) := by decide +kernel
theorem dL_law_1167 : decode code 1167 = .ok (.iaload, 1) := by decide +kernel
theorem dL_law_1168 : decode code 1168 = .ok (.aload_n 0, 1) := by decide +kernel
theorem dL_law_1169 : decode code 1169 = .ok (.iload 4, 2) := by decide +kernel
theorem dL_law_1171 : decode code 1171 = .ok (.iconst 2, 1) := by decide +kernel
theorem dL_law_1172 : decode code 1172 = .ok (.iadd, 1) := by decide +kernel
theorem dL_law_1173 : decode code 1173 = .ok (.iaload, 1) := by decide +kernel
theorem dL_law_1174 : decode code 1174 = .ok (.aload_n 0, 1) := by decide +kernel
theorem dL_law_1175 : decode code 1175 = .ok (.iload 4, 2) := by decide +kernel
theorem dL_law_1177 : decode code 1177 = .ok (.iconst 3, 1) := by decide +kernel
theorem dL_law_1178 : decode code 1178 = .ok (.iadd, 1) := by decide +kernel
theorem dL_law_1179 : decode code 1179 = .ok (.iaload, 1) := by decide +kernel
theorem dL_law_1180 : decode code 1180 = .ok (.aload_n 0, 1) := by decide +kernel
theorem dL_law_1181 : decode code 1181 = .ok (.iload 4, 2) := by decide +kernel
theorem dL_law_1183 : decode code 1183 = .ok (.iconst 4, 1) := by decide +kernel
theorem dL_law_1184 : decode code 1184 = .ok (.iadd, 1) := by decide +kernel
theorem dL_law_1185 : decode code 1185 = .ok (.iaload, 1) := by decide +kernel
theorem dL_law_1186 : decode code 1186 = .ok (.ifCond .eq 7, 3) := by decide +kernel
theorem dL_law_1189 : decode code 1189 = .ok (.iconst 1, 1) := by decide +kernel
theorem dL_law_1190 : decode code 1190 = .ok (.goto 4, 3) := by decide +kernel
theorem dL_law_1193 : decode code 1193 = .ok (.iconst 0, 1) := by decide +kernel
theorem dL_law_1194 : decode code 1194 = .ok (.invokevirtual 140, 3) := by decide +kernel
theorem dL_law_1197 : decode code 1197 = .ok (.if_icmp .eq 600, 3) := by decide +kernel
theorem dL_law_1200 : decode code 1200 = .ok (.iconst 0, 1) := by decide +kernel
theorem dL_law_1201 : decode code 1201 = .ok (.ireturn, 1) := by decide +kernel
theorem dL_law_1202 : decode code 1202 = .ok (.aload_n 1, 1) := by decide +kernel
theorem dL_law_1203 : decode code 1203 = .ok (.aload_n 0, 1) := by decide +kernel
theorem dL_law_1204 : decode code 1204 = .ok (.iload 4, 2) := by decide +kernel
theorem dL_law_1206 : decode code 1206 = .ok (.iconst 1, 1) := by decide +kernel
theorem dL_law_1207 : decode code 1207 = .ok (.iadd, 1) := by decide +kernel
theorem dL_law_1208 : decode code 1208 = .ok (.iaload, 1) := by decide +kernel
theorem dL_law_1209 : decode code 1209 = .ok (.aload_n 0, 1) := by decide +kernel
theorem dL_law_1210 : decode code 1210 = .ok (.iload 4, 2) := by decide +kernel
theorem dL_law_1212 : decode code 1212 = .ok (.iconst 2, 1) := by decide +kernel
theorem dL_law_1213 : decode code 1213 = .ok (.iadd, 1) := by decide +kernel
theorem dL_law_1214 : decode code 1214 = .ok (.iaload, 1) := by decide +kernel
theorem dL_law_1215 : decode code 1215 = .ok (.invokevirtual 141, 3) := by decide +kernel
theorem dL_law_1218 : decode code 1218 = .ok (.aload_n 2, 1) := by decide +kernel
theorem dL_law_1219 : decode code 1219 = .ok (.aload_n 0, 1) := by decide +kernel
theorem dL_law_1220 : decode code 1220 = .ok (.iload 4, 2) := by decide +kernel
theorem dL_law_1222 : decode code 1222 = .ok (.iconst 1, 1) := by decide +kernel
theorem dL_law_1223 : decode code 1223 = .ok (.iadd, 1) := by decide +kernel
theorem dL_law_1224 : decode code 1224 = .ok (.iaload, 1) := by decide +kernel
theorem dL_law_1225 : decode code 1225 = .ok (.aload_n 0, 1) := by decide +kernel
theorem dL_law_1226 : decode code 1226 = .ok (.iload 4, 2) := by decide +kernel
theorem dL_law_1228 : decode code 1228 = .ok (.iconst 2, 1) := by decide +kernel
theorem dL_law_1229 : decode code 1229 = .ok (.iadd, 1) := by decide +kernel
theorem dL_law_1230 : decode code 1230 = .ok (.iaload, 1) := by decide +kernel
theorem dL_law_1231 : decode code 1231 = .ok (.invokevirtual 144, 3) := by decide +kernel
theorem dL_law_1234 : decode code 1234 = .ok (.if_icmp .eq 563, 3) := by decide +kernel
theorem dL_law_1237 : decode code 1237 = .ok (.iconst 0, 1) := by decide +kernel
theorem dL_law_1238 : decode code 1238 = .ok (.ireturn, 1) := by decide +kernel
theorem dL_law_1239 : decode code 1239 = .ok (.aload_n 1, 1) := by decide +kernel
theorem dL_law_1240 : decode code 1240 = .ok (.aload_n 0, 1) := by decide +kernel
theorem dL_law_1241 : decode code 1241 = .ok (.iload 4, 2) := by decide +kernel
theorem dL_law_1243 : decode code 1243 = .ok (.iconst 1, 1) := by decide +kernel
theorem dL_law_1244 : decode code 1244 = .ok (.iadd, 1) := by decide +kernel
theorem dL_law_1245 : decode code 1245 = .ok (.iaload, 1) := by decide +kernel
theorem dL_law_1246 : decode code 1246 = .ok (.aload_n 0, 1) := by decide +kernel
theorem dL_law_1247 : decode code 1247 = .ok (.iload 4, 2) := by decide +kernel
theorem dL_law_1249 : decode code 1249 = .ok (.iconst 2, 1) := by decide +kernel
theorem dL_law_1250 : decode code 1250 = .ok (.iadd, 1) := by decide +kernel
theorem dL_law_1251 : decode code 1251 = .ok (.iaload, 1) := by decide +kernel
theorem dL_law_1252 : decode code 1252 = .ok (.invokevirtual 145, 3) := by decide +kernel
theorem dL_law_1255 : decode code 1255 = .ok (.aload_n 2, 1) := by decide +kernel
theorem dL_law_1256 : decode code 1256 = .ok (.aload_n 0, 1) := by decide +kernel
theorem dL_law_1257 : decode code 1257 = .ok (.iload 4, 2) := by decide +kernel
theorem dL_law_1259 : decode code 1259 = .ok (.iconst 1, 1) := by decide +kernel
theorem dL_law_1260 : decode code 1260 = .ok (.iadd, 1) := by decide +kernel
theorem dL_law_1261 : decode code 1261 = .ok (.iaload, 1) := by decide +kernel
theorem dL_law_1262 : decode code 1262 = .ok (.aload_n 0, 1) := by decide +kernel
theorem dL_law_1263 : decode code 1263 = .ok (.iload 4, 2) := by decide +kernel
theorem dL_law_1265 : decode code 1265 = .ok (.iconst 2, 1) := by decide +kernel
theorem dL_law_1266 : decode code 1266 = .ok (.iadd, 1) := by decide +kernel
theorem dL_law_1267 : decode code 1267 = .ok (.iaload, 1) := by decide +kernel
theorem dL_law_1268 : decode code 1268 = .ok (.invokevirtual 148, 3) := by decide +kernel
theorem dL_law_1271 : decode code 1271 = .ok (.if_icmp .eq 526, 3) := by decide +kernel
theorem dL_law_1274 : decode code 1274 = .ok (.iconst 0, 1) := by decide +kernel
theorem dL_law_1275 : decode code 1275 = .ok (.ireturn, 1) := by decide +kernel
theorem dL_law_1276 : decode code 1276 = .ok (.aload_n 1, 1) := by decide +kernel
theorem dL_law_1277 : decode code 1277 = .ok (.aload_n 0, 1) := by decide +kernel
theorem dL_law_1278 : decode code 1278 = .ok (.iload 4, 2) := by decide +kernel
theorem dL_law_1280 : decode code 1280 = .ok (.iconst 1, 1) := by decide +kernel
theorem dL_law_1281 : decode code 1281 = .ok (.iadd, 1) := by decide +kernel
theorem dL_law_1282 : decode code 1282 = .ok (.iaload, 1) := by decide +kernel
theorem dL_law_1283 : decode code 1283 = .ok (.aload_n 0, 1) := by decide +kernel
theorem dL_law_1284 : decode code 1284 = .ok (.iload 4, 2) := by decide +kernel
theorem dL_law_1286 : decode code 1286 = .ok (.iconst 2, 1) := by decide +kernel
theorem dL_law_1287 : decode code 1287 = .ok (.iadd, 1) := by decide +kernel
theorem dL_law_1288 : decode code 1288 = .ok (.iaload, 1) := by decide +kernel
theorem dL_law_1289 : decode code 1289 = .ok (.aload_n 0, 1) := by decide +kernel
theorem dL_law_1290 : decode code 1290 = .ok (.iload 4, 2) := by decide +kernel
theorem dL_law_1292 : decode code 1292 = .ok (.iconst 3, 1) := by decide +kernel
theorem dL_law_1293 : decode code 1293 = .ok (.iadd, 1) := by decide +kernel
theorem dL_law_1294 : decode code 1294 = .ok (.iaload, 1) := by decide +kernel
theorem dL_law_1295 : decode code 1295 = .ok (.aload_n 0, 1) := by decide +kernel
theorem dL_law_1296 : decode code 1296 = .ok (.iload 4, 2) := by decide +kernel
theorem dL_law_1298 : decode code 1298 = .ok (.iconst 4, 1) := by decide +kernel
theorem dL_law_1299 : decode code 1299 = .ok (.iadd, 1) := by decide +kernel
theorem dL_law_1300 : decode code 1300 = .ok (.iaload, 1) := by decide +kernel
theorem dL_law_1301 : decode code 1301 = .ok (.aload_n 0, 1) := by decide +kernel
theorem dL_law_1302 : decode code 1302 = .ok (.iload 4, 2) := by decide +kernel
theorem dL_law_1304 : decode code 1304 = .ok (.iconst 5, 1) := by decide +kernel
theorem dL_law_1305 : decode code 1305 = .ok (.iadd, 1) := by decide +kernel
theorem dL_law_1306 : decode code 1306 = .ok (.iaload, 1) := by decide +kernel
theorem dL_law_1307 : decode code 1307 = .ok (.aload_n 0, 1) := by decide +kernel
theorem dL_law_1308 : decode code 1308 = .ok (.iload 4, 2) := by decide +kernel
theorem dL_law_1310 : decode code 1310 = .ok (.bipush 6, 2) := by decide +kernel
theorem dL_law_1312 : decode code 1312 = .ok (.iadd, 1) := by decide +kernel
theorem dL_law_1313 : decode code 1313 = .ok (.iaload, 1) := by decide +kernel
theorem dL_law_1314 : decode code 1314 = .ok (.invokevirtual 149, 3) := by decide +kernel
theorem dL_law_1317 : decode code 1317 = .ok (.aload_n 2, 1) := by decide +kernel
theorem dL_law_1318 : decode code 1318 = .ok (.aload_n 0, 1) := by decide +kernel
theorem dL_law_1319 : decode code 1319 = .ok (.iload 4, 2) := by decide +kernel
theorem dL_law_1321 : decode code 1321 = .ok (.iconst 1, 1) := by decide +kernel
theorem dL_law_1322 : decode code 1322 = .ok (.iadd, 1) := by decide +kernel
theorem dL_law_1323 : decode code 1323 = .ok (.iaload, 1) := by decide +kernel
theorem dL_law_1324 : decode code 1324 = .ok (.aload_n 0, 1) := by decide +kernel
theorem dL_law_1325 : decode code 1325 = .ok (.iload 4, 2) := by decide +kernel
theorem dL_law_1327 : decode code 1327 = .ok (.iconst 2, 1) := by decide +kernel
theorem dL_law_1328 : decode code 1328 = .ok (.iadd, 1) := by decide +kernel
theorem dL_law_1329 : decode code 1329 = .ok (.iaload, 1) := by decide +kernel
theorem dL_law_1330 : decode code 1330 = .ok (.aload_n 0, 1) := by decide +kernel
theorem dL_law_1331 : decode code 1331 = .ok (.iload 4, 2) := by decide +kernel
theorem dL_law_1333 : decode code 1333 = .ok (.iconst 3, 1) := by decide +kernel
theorem dL_law_1334 : decode code 1334 = .ok (.iadd, 1) := by decide +kernel
theorem dL_law_1335 : decode code 1335 = .ok (.iaload, 1) := by decide +kernel
theorem dL_law_1336 : decode code 1336 = .ok (.aload_n 0, 1) := by decide +kernel
theorem dL_law_1337 : decode code 1337 = .ok (.iload 4, 2) := by decide +kernel
theorem dL_law_1339 : decode code 1339 = .ok (.iconst 4, 1) := by decide +kernel
theorem dL_law_1340 : decode code 1340 = .ok (.iadd, 1) := by decide +kernel
theorem dL_law_1341 : decode code 1341 = .ok (.iaload, 1) := by decide +kernel
theorem dL_law_1342 : decode code 1342 = .ok (.aload_n 0, 1) := by decide +kernel
theorem dL_law_1343 : decode code 1343 = .ok (.iload 4, 2) := by decide +kernel
theorem dL_law_1345 : decode code 1345 = .ok (.iconst 5, 1) := by decide +kernel
theorem dL_law_1346 : decode code 1346 = .ok (.iadd, 1) := by decide +kernel
theorem dL_law_1347 : decode code 1347 = .ok (.iaload, 1) := by decide +kernel
theorem dL_law_1348 : decode code 1348 = .ok (.aload_n 0, 1) := by decide +kernel
theorem dL_law_1349 : decode code 1349 = .ok (.iload 4, 2) := by decide +kernel
theorem dL_law_1351 : decode code 1351 = .ok (.bipush 6, 2) := by decide +kernel
theorem dL_law_1353 : decode code 1353 = .ok (.iadd, 1) := by decide +kernel
theorem dL_law_1354 : decode code 1354 = .ok (.iaload, 1) := by decide +kernel
theorem dL_law_1355 : decode code 1355 = .ok (.invokevirtual 153, 3) := by decide +kernel
theorem dL_law_1358 : decode code 1358 = .ok (.if_icmp .eq 439, 3) := by decide +kernel
theorem dL_law_1361 : decode code 1361 = .ok (.iconst 0, 1) := by decide +kernel
theorem dL_law_1362 : decode code 1362 = .ok (.ireturn, 1) := by decide +kernel
theorem dL_law_1363 : decode code 1363 = .ok (.aload_n 1, 1) := by decide +kernel
theorem dL_law_1364 : decode code 1364 = .ok (.aload_n 0, 1) := by decide +kernel
theorem dL_law_1365 : decode code 1365 = .ok (.iload 4, 2) := by decide +kernel
theorem dL_law_1367 : decode code 1367 = .ok (.iconst 1, 1) := by decide +kernel
theorem dL_law_1368 : decode code 1368 = .ok (.iadd, 1) := by decide +kernel
theorem dL_law_1369 : decode code 1369 = .ok (.iaload, 1) := by decide +kernel
theorem dL_law_1370 : decode code 1370 = .ok (.aload_n 0, 1) := by decide +kernel
theorem dL_law_1371 : decode code 1371 = .ok (.iload 4, 2) := by decide +kernel
theorem dL_law_1373 : decode code 1373 = .ok (.iconst 2, 1) := by decide +kernel
theorem dL_law_1374 : decode code 1374 = .ok (.iadd, 1) := by decide +kernel
theorem dL_law_1375 : decode code 1375 = .ok (.iaload, 1) := by decide +kernel
theorem dL_law_1376 : decode code 1376 = .ok (.aload_n 0, 1) := by decide +kernel
theorem dL_law_1377 : decode code 1377 = .ok (.iload 4, 2) := by decide +kernel
theorem dL_law_1379 : decode code 1379 = .ok (.iconst 3, 1) := by decide +kernel
theorem dL_law_1380 : decode code 1380 = .ok (.iadd, 1) := by decide +kernel
theorem dL_law_1381 : decode code 1381 = .ok (.iaload, 1) := by decide +kernel
theorem dL_law_1382 : decode code 1382 = .ok (.aload_n 0, 1) := by decide +kernel
theorem dL_law_1383 : decode code 1383 = .ok (.iload 4, 2) := by decide +kernel
theorem dL_law_1385 : decode code 1385 = .ok (.iconst 4, 1) := by decide +kernel
theorem dL_law_1386 : decode code 1386 = .ok (.iadd, 1) := by decide +kernel
theorem dL_law_1387 : decode code 1387 = .ok (.iaload, 1) := by decide +kernel
theorem dL_law_1388 : decode code 1388 = .ok (.invokevirtual 154, 3) := by decide +kernel
theorem dL_law_1391 : decode code 1391 = .ok (.aload_n 2, 1) := by decide +kernel
theorem dL_law_1392 : decode code 1392 = .ok (.aload_n 0, 1) := by decide +kernel
theorem dL_law_1393 : decode code 1393 = .ok (.iload 4, 2) := by decide +kernel
theorem dL_law_1395 : decode code 1395 = .ok (.iconst 1, 1) := by decide +kernel
theorem dL_law_1396 : decode code 1396 = .ok (.iadd, 1) := by decide +kernel
theorem dL_law_1397 : decode code 1397 = .ok (.iaload, 1) := by decide +kernel
theorem dL_law_1398 : decode code 1398 = .ok (.aload_n 0, 1) := by decide +kernel
theorem dL_law_1399 : decode code 1399 = .ok (.iload 4, 2) := by decide +kernel
theorem dL_law_1401 : decode code 1401 = .ok (.iconst 2, 1) := by decide +kernel
theorem dL_law_1402 : decode code 1402 = .ok (.iadd, 1) := by decide +kernel
theorem dL_law_1403 : decode code 1403 = .ok (.iaload, 1) := by decide +kernel
theorem dL_law_1404 : decode code 1404 = .ok (.aload_n 0, 1) := by decide +kernel
theorem dL_law_1405 : decode code 1405 = .ok (.iload 4, 2) := by decide +kernel
theorem dL_law_1407 : decode code 1407 = .ok (.iconst 3, 1) := by decide +kernel
theorem dL_law_1408 : decode code 1408 = .ok (.iadd, 1) := by decide +kernel
theorem dL_law_1409 : decode code 1409 = .ok (.iaload, 1) := by decide +kernel
theorem dL_law_1410 : decode code 1410 = .ok (.aload_n 0, 1) := by decide +kernel
theorem dL_law_1411 : decode code 1411 = .ok (.iload 4, 2) := by decide +kernel
theorem dL_law_1413 : decode code 1413 = .ok (.iconst 4, 1) := by decide +kernel
theorem dL_law_1414 : decode code 1414 = .ok (.iadd, 1) := by decide +kernel
theorem dL_law_1415 : decode code 1415 = .ok (.iaload, 1) := by decide +kernel
theorem dL_law_1416 : decode code 1416 = .ok (.invokevirtual 158, 3) := by decide +kernel
theorem dL_law_1419 : decode code 1419 = .ok (.if_icmp .eq 378, 3) := by decide +kernel
theorem dL_law_1422 : decode code 1422 = .ok (.iconst 0, 1) := by decide +kernel
theorem dL_law_1423 : decode code 1423 = .ok (.ireturn, 1) := by decide +kernel
theorem dL_law_1424 : decode code 1424 = .ok (.aload_n 1, 1) := by decide +kernel
theorem dL_law_1425 : decode code 1425 = .ok (.aload_n 0, 1) := by decide +kernel
theorem dL_law_1426 : decode code 1426 = .ok (.iload 4, 2) := by decide +kernel
theorem dL_law_1428 : decode code 1428 = .ok (.iconst 1, 1) := by decide +kernel
theorem dL_law_1429 : decode code 1429 = .ok (.iadd, 1) := by decide +kernel
theorem dL_law_1430 : decode code 1430 = .ok (.iaload, 1) := by decide +kernel
theorem dL_law_1431 : decode code 1431 = .ok (.aload_n 0, 1) := by decide +kernel
theorem dL_law_1432 : decode code 1432 = .ok (.iload 4, 2) := by decide +kernel
theorem dL_law_1434 : decode code 1434 = .ok (.iconst 2, 1) := by decide +kernel
theorem dL_law_1435 : decode code 1435 = .ok (.iadd, 1) := by decide +kernel
theorem dL_law_1436 : decode code 1436 = .ok (.iaload, 1) := by decide +kernel
theorem dL_law_1437 : decode code 1437 = .ok (.aload_n 0, 1) := by decide +kernel
theorem dL_law_1438 : decode code 1438 = .ok (.iload 4, 2) := by decide +kernel
theorem dL_law_1440 : decode code 1440 = .ok (.iconst 3, 1) := by decide +kernel
theorem dL_law_1441 : decode code 1441 = .ok (.iadd, 1) := by decide +kernel
theorem dL_law_1442 : decode code 1442 = .ok (.iaload, 1) := by decide +kernel
theorem dL_law_1443 : decode code 1443 = .ok (.invokevirtual 159, 3) := by decide +kernel
theorem dL_law_1446 : decode code 1446 = .ok (.aload_n 2, 1) := by decide +kernel
theorem dL_law_1447 : decode code 1447 = .ok (.aload_n 0, 1) := by decide +kernel
theorem dL_law_1448 : decode code 1448 = .ok (.iload 4, 2) := by decide +kernel
theorem dL_law_1450 : decode code 1450 = .ok (.iconst 1, 1) := by decide +kernel
theorem dL_law_1451 : decode code 1451 = .ok (.iadd, 1) := by decide +kernel
theorem dL_law_1452 : decode code 1452 = .ok (.iaload, 1) := by decide +kernel
theorem dL_law_1453 : decode code 1453 = .ok (.aload_n 0, 1) := by decide +kernel
theorem dL_law_1454 : decode code 1454 = .ok (.iload 4, 2) := by decide +kernel
theorem dL_law_1456 : decode code 1456 = .ok (.iconst 2, 1) := by decide +kernel
theorem dL_law_1457 : decode code 1457 = .ok (.iadd, 1) := by decide +kernel
theorem dL_law_1458 : decode code 1458 = .ok (.iaload, 1) := by decide +kernel
theorem dL_law_1459 : decode code 1459 = .ok (.aload_n 0, 1) := by decide +kernel
theorem dL_law_1460 : decode code 1460 = .ok (.iload 4, 2) := by decide +kernel
theorem dL_law_1462 : decode code 1462 = .ok (.iconst 3, 1) := by decide +kernel
theorem dL_law_1463 : decode code 1463 = .ok (.iadd, 1) := by decide +kernel
theorem dL_law_1464 : decode code 1464 = .ok (.iaload, 1) := by decide +kernel
theorem dL_law_1465 : decode code 1465 = .ok (.invokevirtual 162, 3) := by decide +kernel
theorem dL_law_1468 : decode code 1468 = .ok (.if_icmp .eq 329, 3) := by decide +kernel
theorem dL_law_1471 : decode code 1471 = .ok (.iconst 0, 1) := by decide +kernel
theorem dL_law_1472 : decode code 1472 = .ok (.ireturn, 1) := by decide +kernel
theorem dL_law_1473 : decode code 1473 = .ok (.aload_n 1, 1) := by decide +kernel
theorem dL_law_1474 : decode code 1474 = .ok (.aload_n 0, 1) := by decide +kernel
theorem dL_law_1475 : decode code 1475 = .ok (.iload 4, 2) := by decide +kernel
theorem dL_law_1477 : decode code 1477 = .ok (.iconst 1, 1) := by decide +kernel
theorem dL_law_1478 : decode code 1478 = .ok (.iadd, 1) := by decide +kernel
theorem dL_law_1479 : decode code 1479 = .ok (.iaload, 1) := by decide +kernel
theorem dL_law_1480 : decode code 1480 = .ok (.invokevirtual 163, 3) := by decide +kernel
theorem dL_law_1483 : decode code 1483 = .ok (.aload_n 2, 1) := by decide +kernel
theorem dL_law_1484 : decode code 1484 = .ok (.aload_n 0, 1) := by decide +kernel
theorem dL_law_1485 : decode code 1485 = .ok (.iload 4, 2) := by decide +kernel
theorem dL_law_1487 : decode code 1487 = .ok (.iconst 1, 1) := by decide +kernel
theorem dL_law_1488 : decode code 1488 = .ok (.iadd, 1) := by decide +kernel
theorem dL_law_1489 : decode code 1489 = .ok (.iaload, 1) := by decide +kernel
theorem dL_law_1490 : decode code 1490 = .ok (.invokevirtual 166, 3) := by decide +kernel
theorem dL_law_1493 : decode code 1493 = .ok (.if_icmp .eq 304, 3) := by decide +kernel
theorem dL_law_1496 : decode code 1496 = .ok (.iconst 0, 1) := by decide +kernel
theorem dL_law_1497 : decode code 1497 = .ok (.ireturn, 1) := by decide +kernel
theorem dL_law_1498 : decode code 1498 = .ok (.aload_n 1, 1) := by decide +kernel
theorem dL_law_1499 : decode code 1499 = .ok (.aload_n 0, 1) := by decide +kernel
theorem dL_law_1500 : decode code 1500 = .ok (.iload 4, 2) := by decide +kernel
theorem dL_law_1502 : decode code 1502 = .ok (.iconst 1, 1) := by decide +kernel
theorem dL_law_1503 : decode code 1503 = .ok (.iadd, 1) := by decide +kernel
theorem dL_law_1504 : decode code 1504 = .ok (.iaload, 1) := by decide +kernel
theorem dL_law_1505 : decode code 1505 = .ok (.aload_n 0, 1) := by decide +kernel
theorem dL_law_1506 : decode code 1506 = .ok (.iload 4, 2) := by decide +kernel
theorem dL_law_1508 : decode code 1508 = .ok (.iconst 2, 1) := by decide +kernel
theorem dL_law_1509 : decode code 1509 = .ok (.iadd, 1) := by decide +kernel
theorem dL_law_1510 : decode code 1510 = .ok (.iaload, 1) := by decide +kernel
theorem dL_law_1511 : decode code 1511 = .ok (.aload_n 0, 1) := by decide +kernel
theorem dL_law_1512 : decode code 1512 = .ok (.iload 4, 2) := by decide +kernel
theorem dL_law_1514 : decode code 1514 = .ok (.iconst 3, 1) := by decide +kernel
theorem dL_law_1515 : decode code 1515 = .ok (.iadd, 1) := by decide +kernel
theorem dL_law_1516 : decode code 1516 = .ok (.iaload, 1) := by decide +kernel
theorem dL_law_1517 : decode code 1517 = .ok (.invokevirtual 167, 3) := by decide +kernel
theorem dL_law_1520 : decode code 1520 = .ok (.aload_n 2, 1) := by decide +kernel
theorem dL_law_1521 : decode code 1521 = .ok (.aload_n 0, 1) := by decide +kernel
theorem dL_law_1522 : decode code 1522 = .ok (.iload 4, 2) := by decide +kernel
theorem dL_law_1524 : decode code 1524 = .ok (.iconst 1, 1) := by decide +kernel
theorem dL_law_1525 : decode code 1525 = .ok (.iadd, 1) := by decide +kernel
theorem dL_law_1526 : decode code 1526 = .ok (.iaload, 1) := by decide +kernel
theorem dL_law_1527 : decode code 1527 = .ok (.aload_n 0, 1) := by decide +kernel
theorem dL_law_1528 : decode code 1528 = .ok (.iload 4, 2) := by decide +kernel
theorem dL_law_1530 : decode code 1530 = .ok (.iconst 2, 1) := by decide +kernel
theorem dL_law_1531 : decode code 1531 = .ok (.iadd, 1) := by decide +kernel
theorem dL_law_1532 : decode code 1532 = .ok (.iaload, 1) := by decide +kernel
theorem dL_law_1533 : decode code 1533 = .ok (.aload_n 0, 1) := by decide +kernel
theorem dL_law_1534 : decode code 1534 = .ok (.iload 4, 2) := by decide +kernel
theorem dL_law_1536 : decode code 1536 = .ok (.iconst 3, 1) := by decide +kernel
theorem dL_law_1537 : decode code 1537 = .ok (.iadd, 1) := by decide +kernel
theorem dL_law_1538 : decode code 1538 = .ok (.iaload, 1) := by decide +kernel
theorem dL_law_1539 : decode code 1539 = .ok (.invokevirtual 170, 3) := by decide +kernel
theorem dL_law_1542 : decode code 1542 = .ok (.if_icmp .eq 255, 3) := by decide +kernel
theorem dL_law_1545 : decode code 1545 = .ok (.iconst 0, 1) := by decide +kernel
theorem dL_law_1546 : decode code 1546 = .ok (.ireturn, 1) := by decide +kernel
theorem dL_law_1547 : decode code 1547 = .ok (.aload_n 1, 1) := by decide +kernel
theorem dL_law_1548 : decode code 1548 = .ok (.aload_n 0, 1) := by decide +kernel
theorem dL_law_1549 : decode code 1549 = .ok (.iload 4, 2) := by decide +kernel
theorem dL_law_1551 : decode code 1551 = .ok (.iconst 1, 1) := by decide +kernel
theorem dL_law_1552 : decode code 1552 = .ok (.iadd, 1) := by decide +kernel
theorem dL_law_1553 : decode code 1553 = .ok (.iaload, 1) := by decide +kernel
theorem dL_law_1554 : decode code 1554 = .ok (.aload_n 0, 1) := by decide +kernel
theorem dL_law_1555 : decode code 1555 = .ok (.iload 4, 2) := by decide +kernel
theorem dL_law_1557 : decode code 1557 = .ok (.iconst 2, 1) := by decide +kernel
theorem dL_law_1558 : decode code 1558 = .ok (.iadd, 1) := by decide +kernel
theorem dL_law_1559 : decode code 1559 = .ok (.iaload, 1) := by decide +kernel
theorem dL_law_1560 : decode code 1560 = .ok (.invokevirtual 171, 3) := by decide +kernel
theorem dL_law_1563 : decode code 1563 = .ok (.aload_n 2, 1) := by decide +kernel
theorem dL_law_1564 : decode code 1564 = .ok (.aload_n 0, 1) := by decide +kernel
theorem dL_law_1565 : decode code 1565 = .ok (.iload 4, 2) := by decide +kernel
theorem dL_law_1567 : decode code 1567 = .ok (.iconst 1, 1) := by decide +kernel
theorem dL_law_1568 : decode code 1568 = .ok (.iadd, 1) := by decide +kernel
theorem dL_law_1569 : decode code 1569 = .ok (.iaload, 1) := by decide +kernel
theorem dL_law_1570 : decode code 1570 = .ok (.aload_n 0, 1) := by decide +kernel
theorem dL_law_1571 : decode code 1571 = .ok (.iload 4, 2) := by decide +kernel
theorem dL_law_1573 : decode code 1573 = .ok (.iconst 2, 1) := by decide +kernel
theorem dL_law_1574 : decode code 1574 = .ok (.iadd, 1) := by decide +kernel
theorem dL_law_1575 : decode code 1575 = .ok (.iaload, 1) := by decide +kernel
theorem dL_law_1576 : decode code 1576 = .ok (.invokevirtual 174, 3) := by decide +kernel
theorem dL_law_1579 : decode code 1579 = .ok (.if_icmp .eq 218, 3) := by decide +kernel
theorem dL_law_1582 : decode code 1582 = .ok (.iconst 0, 1) := by decide +kernel
theorem dL_law_1583 : decode code 1583 = .ok (.ireturn, 1) := by decide +kernel
theorem dL_law_1584 : decode code 1584 = .ok (.aload_n 1, 1) := by decide +kernel
theorem dL_law_1585 : decode code 1585 = .ok (.aload_n 0, 1) := by decide +kernel
theorem dL_law_1586 : decode code 1586 = .ok (.iload 4, 2) := by decide +kernel
theorem dL_law_1588 : decode code 1588 = .ok (.iconst 1, 1) := by decide +kernel
theorem dL_law_1589 : decode code 1589 = .ok (.iadd, 1) := by decide +kernel
theorem dL_law_1590 : decode code 1590 = .ok (.iaload, 1) := by decide +kernel
theorem dL_law_1591 : decode code 1591 = .ok (.invokevirtual 175, 3) := by decide +kernel
theorem dL_law_1594 : decode code 1594 = .ok (.aload_n 2, 1) := by decide +kernel
theorem dL_law_1595 : decode code 1595 = .ok (.aload_n 0, 1) := by decide +kernel
theorem dL_law_1596 : decode code 1596 = .ok (.iload 4, 2) := by decide +kernel
theorem dL_law_1598 : decode code 1598 = .ok (.iconst 1, 1) := by decide +kernel
theorem dL_law_1599 : decode code 1599 = .ok (.iadd, 1) := by decide +kernel
theorem dL_law_1600 : decode code 1600 = .ok (.iaload, 1) := by decide +kernel
theorem dL_law_1601 : decode code 1601 = .ok (.invokevirtual 178, 3) := by decide +kernel
theorem dL_law_1604 : decode code 1604 = .ok (.if_icmp .eq 193, 3) := by decide +kernel
theorem dL_law_1607 : decode code 1607 = .ok (.iconst 0, 1) := by decide +kernel
theorem dL_law_1608 : decode code 1608 = .ok (.ireturn, 1) := by decide +kernel
theorem dL_law_1609 : decode code 1609 = .ok (.aload_n 1, 1) := by decide +kernel
theorem dL_law_1610 : decode code 1610 = .ok (.aload_n 0, 1) := by decide +kernel
theorem dL_law_1611 : decode code 1611 = .ok (.iload 4, 2) := by decide +kernel
theorem dL_law_1613 : decode code 1613 = .ok (.iconst 1, 1) := by decide +kernel
theorem dL_law_1614 : decode code 1614 = .ok (.iadd, 1) := by decide +kernel
theorem dL_law_1615 : decode code 1615 = .ok (.iaload, 1) := by decide +kernel
theorem dL_law_1616 : decode code 1616 = .ok (.invokevirtual 179, 3) := by decide +kernel
theorem dL_law_1619 : decode code 1619 = .ok (.aload_n 2, 1) := by decide +kernel
theorem dL_law_1620 : decode code 1620 = .ok (.aload_n 0, 1) := by decide +kernel
theorem dL_law_1621 : decode code 1621 = .ok (.iload 4, 2) := by decide +kernel
theorem dL_law_1623 : decode code 1623 = .ok (.iconst 1, 1) := by decide +kernel
theorem dL_law_1624 : decode code 1624 = .ok (.iadd, 1) := by decide +kernel
theorem dL_law_1625 : decode code 1625 = .ok (.iaload, 1) := by decide +kernel
theorem dL_law_1626 : decode code 1626 = .ok (.invokevirtual 182, 3) := by decide +kernel
theorem dL_law_1629 : decode code 1629 = .ok (.if_icmp .eq 168, 3) := by decide +kernel
theorem dL_law_1632 : decode code 1632 = .ok (.iconst 0, 1) := by decide +kernel
theorem dL_law_1633 : decode code 1633 = .ok (.ireturn, 1) := by decide +kernel
theorem dL_law_1634 : decode code 1634 = .ok (.aload_n 1, 1) := by decide +kernel
theorem dL_law_1635 : decode code 1635 = .ok (.aload_n 0, 1) := by decide +kernel
theorem dL_law_1636 : decode code 1636 = .ok (.iload 4, 2) := by decide +kernel
theorem dL_law_1638 : decode code 1638 = .ok (.iconst 1, 1) := by decide +kernel
theorem dL_law_1639 : decode code 1639 = .ok (.iadd, 1) := by decide +kernel
theorem dL_law_1640 : decode code 1640 = .ok (.iaload, 1) := by decide +kernel
theorem dL_law_1641 : decode code 1641 = .ok (.aload_n 0, 1) := by decide +kernel
theorem dL_law_1642 : decode code 1642 = .ok (.iload 4, 2) := by decide +kernel
theorem dL_law_1644 : decode code 1644 = .ok (.iconst 2, 1) := by decide +kernel
theorem dL_law_1645 : decode code 1645 = .ok (.iadd, 1) := by decide +kernel
theorem dL_law_1646 : decode code 1646 = .ok (.iaload, 1) := by decide +kernel
theorem dL_law_1647 : decode code 1647 = .ok (.invokevirtual 183, 3) := by decide +kernel
theorem dL_law_1650 : decode code 1650 = .ok (.aload_n 2, 1) := by decide +kernel
theorem dL_law_1651 : decode code 1651 = .ok (.aload_n 0, 1) := by decide +kernel
theorem dL_law_1652 : decode code 1652 = .ok (.iload 4, 2) := by decide +kernel
theorem dL_law_1654 : decode code 1654 = .ok (.iconst 1, 1) := by decide +kernel
theorem dL_law_1655 : decode code 1655 = .ok (.iadd, 1) := by decide +kernel
theorem dL_law_1656 : decode code 1656 = .ok (.iaload, 1) := by decide +kernel
theorem dL_law_1657 : decode code 1657 = .ok (.aload_n 0, 1) := by decide +kernel
theorem dL_law_1658 : decode code 1658 = .ok (.iload 4, 2) := by decide +kernel
theorem dL_law_1660 : decode code 1660 = .ok (.iconst 2, 1) := by decide +kernel
theorem dL_law_1661 : decode code 1661 = .ok (.iadd, 1) := by decide +kernel
theorem dL_law_1662 : decode code 1662 = .ok (.iaload, 1) := by decide +kernel
theorem dL_law_1663 : decode code 1663 = .ok (.invokevirtual 186, 3) := by decide +kernel
theorem dL_law_1666 : decode code 1666 = .ok (.if_icmp .eq 131, 3) := by decide +kernel
theorem dL_law_1669 : decode code 1669 = .ok (.iconst 0, 1) := by decide +kernel
theorem dL_law_1670 : decode code 1670 = .ok (.ireturn, 1) := by decide +kernel
theorem dL_law_1671 : decode code 1671 = .ok (.aload_n 1, 1) := by decide +kernel
theorem dL_law_1672 : decode code 1672 = .ok (.aload_n 0, 1) := by decide +kernel
theorem dL_law_1673 : decode code 1673 = .ok (.iload 4, 2) := by decide +kernel
theorem dL_law_1675 : decode code 1675 = .ok (.iconst 1, 1) := by decide +kernel
theorem dL_law_1676 : decode code 1676 = .ok (.iadd, 1) := by decide +kernel
theorem dL_law_1677 : decode code 1677 = .ok (.iaload, 1) := by decide +kernel
theorem dL_law_1678 : decode code 1678 = .ok (.invokevirtual 187, 3) := by decide +kernel
theorem dL_law_1681 : decode code 1681 = .ok (.aload_n 2, 1) := by decide +kernel
theorem dL_law_1682 : decode code 1682 = .ok (.aload_n 0, 1) := by decide +kernel
theorem dL_law_1683 : decode code 1683 = .ok (.iload 4, 2) := by decide +kernel
theorem dL_law_1685 : decode code 1685 = .ok (.iconst 1, 1) := by decide +kernel
theorem dL_law_1686 : decode code 1686 = .ok (.iadd, 1) := by decide +kernel
theorem dL_law_1687 : decode code 1687 = .ok (.iaload, 1) := by decide +kernel
theorem dL_law_1688 : decode code 1688 = .ok (.invokevirtual 190, 3) := by decide +kernel
theorem dL_law_1691 : decode code 1691 = .ok (.if_icmp .eq 106, 3) := by decide +kernel
theorem dL_law_1694 : decode code 1694 = .ok (.iconst 0, 1) := by decide +kernel
theorem dL_law_1695 : decode code 1695 = .ok (.ireturn, 1) := by decide +kernel
theorem dL_law_1696 : decode code 1696 = .ok (.aload_n 1, 1) := by decide +kernel
theorem dL_law_1697 : decode code 1697 = .ok (.aload_n 0, 1) := by decide +kernel
theorem dL_law_1698 : decode code 1698 = .ok (.iload 4, 2) := by decide +kernel
theorem dL_law_1700 : decode code 1700 = .ok (.iconst 1, 1) := by decide +kernel
theorem dL_law_1701 : decode code 1701 = .ok (.iadd, 1) := by decide +kernel
theorem dL_law_1702 : decode code 1702 = .ok (.iaload, 1) := by decide +kernel
theorem dL_law_1703 : decode code 1703 = .ok (.invokevirtual 191, 3) := by decide +kernel
theorem dL_law_1706 : decode code 1706 = .ok (.aload_n 2, 1) := by decide +kernel
theorem dL_law_1707 : decode code 1707 = .ok (.aload_n 0, 1) := by decide +kernel
theorem dL_law_1708 : decode code 1708 = .ok (.iload 4, 2) := by decide +kernel
theorem dL_law_1710 : decode code 1710 = .ok (.iconst 1, 1) := by decide +kernel
theorem dL_law_1711 : decode code 1711 = .ok (.iadd, 1) := by decide +kernel
theorem dL_law_1712 : decode code 1712 = .ok (.iaload, 1) := by decide +kernel
theorem dL_law_1713 : decode code 1713 = .ok (.invokevirtual 194, 3) := by decide +kernel
theorem dL_law_1716 : decode code 1716 = .ok (.if_icmp .eq 81, 3) := by decide +kernel
theorem dL_law_1719 : decode code 1719 = .ok (.iconst 0, 1) := by decide +kernel
theorem dL_law_1720 : decode code 1720 = .ok (.ireturn, 1) := by decide +kernel
theorem dL_law_1721 : decode code 1721 = .ok (.aload_n 1, 1) := by decide +kernel
theorem dL_law_1722 : decode code 1722 = .ok (.aload_n 0, 1) := by decide +kernel
theorem dL_law_1723 : decode code 1723 = .ok (.iload 4, 2) := by decide +kernel
theorem dL_law_1725 : decode code 1725 = .ok (.iconst 1, 1) := by decide +kernel
theorem dL_law_1726 : decode code 1726 = .ok (.iadd, 1) := by decide +kernel
theorem dL_law_1727 : decode code 1727 = .ok (.iaload, 1) := by decide +kernel
theorem dL_law_1728 : decode code 1728 = .ok (.invokevirtual 195, 3) := by decide +kernel
theorem dL_law_1731 : decode code 1731 = .ok (.aload_n 2, 1) := by decide +kernel
theorem dL_law_1732 : decode code 1732 = .ok (.aload_n 0, 1) := by decide +kernel
theorem dL_law_1733 : decode code 1733 = .ok (.iload 4, 2) := by decide +kernel
theorem dL_law_1735 : decode code 1735 = .ok (.iconst 1, 1) := by decide +kernel
theorem dL_law_1736 : decode code 1736 = .ok (.iadd, 1) := by decide +kernel
theorem dL_law_1737 : decode code 1737 = .ok (.iaload, 1) := by decide +kernel
theorem dL_law_1738 : decode code 1738 = .ok (.invokevirtual 198, 3) := by decide +kernel
theorem dL_law_1741 : decode code 1741 = .ok (.if_icmp .eq 56, 3) := by decide +kernel
theorem dL_law_1744 : decode code 1744 = .ok (.iconst 0, 1) := by decide +kernel
theorem dL_law_1745 : decode code 1745 = .ok (.ireturn, 1) := by decide +kernel
theorem dL_law_1746 : decode code 1746 = .ok (.aload_n 1, 1) := by decide +kernel
theorem dL_law_1747 : decode code 1747 = .ok (.invokevirtual 199, 3) := by decide +kernel
theorem dL_law_1750 : decode code 1750 = .ok (.aload_n 2, 1) := by decide +kernel
theorem dL_law_1751 : decode code 1751 = .ok (.invokevirtual 202, 3) := by decide +kernel
theorem dL_law_1754 : decode code 1754 = .ok (.if_icmp .eq 43, 3) := by decide +kernel
theorem dL_law_1757 : decode code 1757 = .ok (.iconst 0, 1) := by decide +kernel
theorem dL_law_1758 : decode code 1758 = .ok (.ireturn, 1) := by decide +kernel
theorem dL_law_1759 : decode code 1759 = .ok (.aload_n 1, 1) := by decide +kernel
theorem dL_law_1760 : decode code 1760 = .ok (.invokevirtual 203, 3) := by decide +kernel
theorem dL_law_1763 : decode code 1763 = .ok (.aload_n 2, 1) := by decide +kernel
theorem dL_law_1764 : decode code 1764 = .ok (.invokevirtual 206, 3) := by decide +kernel
theorem dL_law_1767 : decode code 1767 = .ok (.if_icmp .eq 30, 3) := by decide +kernel
theorem dL_law_1770 : decode code 1770 = .ok (.iconst 0, 1) := by decide +kernel
theorem dL_law_1771 : decode code 1771 = .ok (.ireturn, 1) := by decide +kernel
theorem dL_law_1772 : decode code 1772 = .ok (.aload_n 1, 1) := by decide +kernel
theorem dL_law_1773 : decode code 1773 = .ok (.aload_n 0, 1) := by decide +kernel
theorem dL_law_1774 : decode code 1774 = .ok (.iload 4, 2) := by decide +kernel
theorem dL_law_1776 : decode code 1776 = .ok (.iconst 1, 1) := by decide +kernel
theorem dL_law_1777 : decode code 1777 = .ok (.iadd, 1) := by decide +kernel
theorem dL_law_1778 : decode code 1778 = .ok (.iaload, 1) := by decide +kernel
theorem dL_law_1779 : decode code 1779 = .ok (.invokevirtual 207, 3) := by decide +kernel
theorem dL_law_1782 : decode code 1782 = .ok (.aload_n 2, 1) := by decide +kernel
theorem dL_law_1783 : decode code 1783 = .ok (.aload_n 0, 1) := by decide +kernel
theorem dL_law_1784 : decode code 1784 = .ok (.iload 4, 2) := by decide +kernel
theorem dL_law_1786 : decode code 1786 = .ok (.iconst 1, 1) := by decide +kernel
theorem dL_law_1787 : decode code 1787 = .ok (.iadd, 1) := by decide +kernel
theorem dL_law_1788 : decode code 1788 = .ok (.iaload, 1) := by decide +kernel
theorem dL_law_1789 : decode code 1789 = .ok (.invokevirtual 210, 3) := by decide +kernel
theorem dL_law_1792 : decode code 1792 = .ok (.if_icmp .eq 5, 3) := by decide +kernel
theorem dL_law_1795 : decode code 1795 = .ok (.iconst 0, 1) := by decide +kernel
theorem dL_law_1796 : decode code 1796 = .ok (.ireturn, 1) := by decide +kernel
theorem dL_law_1797 : decode code 1797 = .ok (.iinc 4 7, 3) := by decide +kernel
theorem dL_law_1800 : decode code 1800 = .ok (.goto (-1777), 3) := by decide +kernel
theorem dL_law_1803 : decode code 1803 = .ok (.iconst 1, 1) := by decide +kernel
theorem dL_law_1804 : decode code 1804 = .ok (.ireturn, 1) := by decide +kernel
