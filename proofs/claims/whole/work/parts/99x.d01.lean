/-! What stands in the law's body, part 1. (printed by law_x.py) -/
theorem dL_335 : decode cL_law 335 = .ok (.invokevirtual 46, 3) := by decide +kernel
theorem dL_338 : decode cL_law 338 = .ok (.istore 6, 2) := by decide +kernel
theorem dL_340 : decode cL_law 340 = .ok (.aload_n 2, 1) := by decide +kernel
theorem dL_341 : decode cL_law 341 = .ok (.invokevirtual 47, 3) := by decide +kernel
theorem dL_344 : decode cL_law 344 = .ok (.iload 5, 2) := by decide +kernel
theorem dL_346 : decode cL_law 346 = .ok (.if_icmp .eq 5, 3) := by decide +kernel
theorem dL_349 : decode cL_law 349 = .ok (.iconst 0, 1) := by decide +kernel
theorem dL_350 : decode cL_law 350 = .ok (.ireturn, 1) := by decide +kernel
theorem dL_351 : decode cL_law 351 = .ok (.iload 5, 2) := by decide +kernel
theorem dL_353 : decode cL_law 353 = .ok (.ifCond .ne 15, 3) := by decide +kernel
theorem dL_356 : decode cL_law 356 = .ok (.aload_n 3, 1) := by decide +kernel
theorem dL_357 : decode cL_law 357 = .ok (.iconst 0, 1) := by decide +kernel
theorem dL_358 : decode cL_law 358 = .ok (.laload, 1) := by decide +kernel
theorem dL_359 : decode cL_law 359 = .ok (.iload 6, 2) := by decide +kernel
theorem dL_361 : decode cL_law 361 = .ok (.i2l, 1) := by decide +kernel
theorem dL_362 : decode cL_law 362 = .ok (.lcmp, 1) := by decide +kernel
theorem dL_363 : decode cL_law 363 = .ok (.ifCond .eq 5, 3) := by decide +kernel
theorem dL_366 : decode cL_law 366 = .ok (.iconst 0, 1) := by decide +kernel
theorem dL_367 : decode cL_law 367 = .ok (.ireturn, 1) := by decide +kernel
theorem dL_368 : decode cL_law 368 = .ok (.goto 1201, 3) := by decide +kernel
theorem dL_371 : decode cL_law 371 = .ok (.aload_n 1, 1) := by decide +kernel
theorem dL_372 : decode cL_law 372 = .ok (.aload_n 0, 1) := by decide +kernel
theorem dL_373 : decode cL_law 373 = .ok (.iload 4, 2) := by decide +kernel
theorem dL_375 : decode cL_law 375 = .ok (.iconst 1, 1) := by decide +kernel
theorem dL_376 : decode cL_law 376 = .ok (.iadd, 1) := by decide +kernel
theorem dL_377 : decode cL_law 377 = .ok (.iaload, 1) := by decide +kernel
theorem dL_378 : decode cL_law 378 = .ok (.aload_n 0, 1) := by decide +kernel
theorem dL_379 : decode cL_law 379 = .ok (.iload 4, 2) := by decide +kernel
theorem dL_381 : decode cL_law 381 = .ok (.iconst 2, 1) := by decide +kernel
theorem dL_382 : decode cL_law 382 = .ok (.iadd, 1) := by decide +kernel
theorem dL_383 : decode cL_law 383 = .ok (.iaload, 1) := by decide +kernel
theorem dL_384 : decode cL_law 384 = .ok (.aload_n 0, 1) := by decide +kernel
theorem dL_385 : decode cL_law 385 = .ok (.iload 4, 2) := by decide +kernel
theorem dL_387 : decode cL_law 387 = .ok (.iconst 3, 1) := by decide +kernel
theorem dL_388 : decode cL_law 388 = .ok (.iadd, 1) := by decide +kernel
theorem dL_389 : decode cL_law 389 = .ok (.iaload, 1) := by decide +kernel
theorem dL_390 : decode cL_law 390 = .ok (.invokevirtual 50, 3) := by decide +kernel
theorem dL_393 : decode cL_law 393 = .ok (.aload_n 2, 1) := by decide +kernel
theorem dL_394 : decode cL_law 394 = .ok (.aload_n 0, 1) := by decide +kernel
theorem dL_395 : decode cL_law 395 = .ok (.iload 4, 2) := by decide +kernel
theorem dL_397 : decode cL_law 397 = .ok (.iconst 1, 1) := by decide +kernel
theorem dL_398 : decode cL_law 398 = .ok (.iadd, 1) := by decide +kernel
theorem dL_399 : decode cL_law 399 = .ok (.iaload, 1) := by decide +kernel
theorem dL_400 : decode cL_law 400 = .ok (.aload_n 0, 1) := by decide +kernel
theorem dL_401 : decode cL_law 401 = .ok (.iload 4, 2) := by decide +kernel
theorem dL_403 : decode cL_law 403 = .ok (.iconst 2, 1) := by decide +kernel
theorem dL_404 : decode cL_law 404 = .ok (.iadd, 1) := by decide +kernel
theorem dL_405 : decode cL_law 405 = .ok (.iaload, 1) := by decide +kernel
theorem dL_406 : decode cL_law 406 = .ok (.aload_n 0, 1) := by decide +kernel
theorem dL_407 : decode cL_law 407 = .ok (.iload 4, 2) := by decide +kernel
theorem dL_409 : decode cL_law 409 = .ok (.iconst 3, 1) := by decide +kernel
theorem dL_410 : decode cL_law 410 = .ok (.iadd, 1) := by decide +kernel
theorem dL_411 : decode cL_law 411 = .ok (.iaload, 1) := by decide +kernel
theorem dL_412 : decode cL_law 412 = .ok (.invokevirtual 54, 3) := by decide +kernel
theorem dL_415 : decode cL_law 415 = .ok (.if_icmp .eq 1154, 3) := by decide +kernel
theorem dL_418 : decode cL_law 418 = .ok (.iconst 0, 1) := by decide +kernel
theorem dL_419 : decode cL_law 419 = .ok (.ireturn, 1) := by decide +kernel
theorem dL_420 : decode cL_law 420 = .ok (.aload_n 1, 1) := by decide +kernel
theorem dL_421 : decode cL_law 421 = .ok (.aload_n 0, 1) := by decide +kernel
theorem dL_422 : decode cL_law 422 = .ok (.iload 4, 2) := by decide +kernel
theorem dL_424 : decode cL_law 424 = .ok (.iconst 1, 1) := by decide +kernel
theorem dL_425 : decode cL_law 425 = .ok (.iadd, 1) := by decide +kernel
theorem dL_426 : decode cL_law 426 = .ok (.iaload, 1) := by decide +kernel
theorem dL_427 : decode cL_law 427 = .ok (.aload_n 0, 1) := by decide +kernel
theorem dL_428 : decode cL_law 428 = .ok (.iload 4, 2) := by decide +kernel
theorem dL_430 : decode cL_law 430 = .ok (.iconst 2, 1) := by decide +kernel
theorem dL_431 : decode cL_law 431 = .ok (.iadd, 1) := by decide +kernel
theorem dL_432 : decode cL_law 432 = .ok (.iaload, 1) := by decide +kernel
theorem dL_433 : decode cL_law 433 = .ok (.invokevirtual 55, 3) := by decide +kernel
theorem dL_436 : decode cL_law 436 = .ok (.aload_n 2, 1) := by decide +kernel
theorem dL_437 : decode cL_law 437 = .ok (.aload_n 0, 1) := by decide +kernel
theorem dL_438 : decode cL_law 438 = .ok (.iload 4, 2) := by decide +kernel
theorem dL_440 : decode cL_law 440 = .ok (.iconst 1, 1) := by decide +kernel
theorem dL_441 : decode cL_law 441 = .ok (.iadd, 1) := by decide +kernel
theorem dL_442 : decode cL_law 442 = .ok (.iaload, 1) := by decide +kernel
theorem dL_443 : decode cL_law 443 = .ok (.aload_n 0, 1) := by decide +kernel
theorem dL_444 : decode cL_law 444 = .ok (.iload 4, 2) := by decide +kernel
theorem dL_446 : decode cL_law 446 = .ok (.iconst 2, 1) := by decide +kernel
theorem dL_447 : decode cL_law 447 = .ok (.iadd, 1) := by decide +kernel
theorem dL_448 : decode cL_law 448 = .ok (.iaload, 1) := by decide +kernel
