/-! What stands in the law's body, part 2. (printed by law_x.py) -/
theorem dL_449 : decode cL_law 449 = .ok (.invokevirtual 58, 3) := by decide +kernel
theorem dL_452 : decode cL_law 452 = .ok (.if_icmp .eq 1117, 3) := by decide +kernel
theorem dL_455 : decode cL_law 455 = .ok (.iconst 0, 1) := by decide +kernel
theorem dL_456 : decode cL_law 456 = .ok (.ireturn, 1) := by decide +kernel
theorem dL_457 : decode cL_law 457 = .ok (.aload_n 1, 1) := by decide +kernel
theorem dL_458 : decode cL_law 458 = .ok (.aload_n 0, 1) := by decide +kernel
theorem dL_459 : decode cL_law 459 = .ok (.iload 4, 2) := by decide +kernel
theorem dL_461 : decode cL_law 461 = .ok (.iconst 1, 1) := by decide +kernel
theorem dL_462 : decode cL_law 462 = .ok (.iadd, 1) := by decide +kernel
theorem dL_463 : decode cL_law 463 = .ok (.iaload, 1) := by decide +kernel
theorem dL_464 : decode cL_law 464 = .ok (.aload_n 0, 1) := by decide +kernel
theorem dL_465 : decode cL_law 465 = .ok (.iload 4, 2) := by decide +kernel
theorem dL_467 : decode cL_law 467 = .ok (.iconst 2, 1) := by decide +kernel
theorem dL_468 : decode cL_law 468 = .ok (.iadd, 1) := by decide +kernel
theorem dL_469 : decode cL_law 469 = .ok (.iaload, 1) := by decide +kernel
theorem dL_470 : decode cL_law 470 = .ok (.aload_n 0, 1) := by decide +kernel
theorem dL_471 : decode cL_law 471 = .ok (.iload 4, 2) := by decide +kernel
theorem dL_473 : decode cL_law 473 = .ok (.iconst 3, 1) := by decide +kernel
theorem dL_474 : decode cL_law 474 = .ok (.iadd, 1) := by decide +kernel
theorem dL_475 : decode cL_law 475 = .ok (.iaload, 1) := by decide +kernel
theorem dL_476 : decode cL_law 476 = .ok (.aload_n 0, 1) := by decide +kernel
theorem dL_477 : decode cL_law 477 = .ok (.iload 4, 2) := by decide +kernel
theorem dL_479 : decode cL_law 479 = .ok (.iconst 4, 1) := by decide +kernel
theorem dL_480 : decode cL_law 480 = .ok (.iadd, 1) := by decide +kernel
theorem dL_481 : decode cL_law 481 = .ok (.iaload, 1) := by decide +kernel
theorem dL_482 : decode cL_law 482 = .ok (.invokevirtual 59, 3) := by decide +kernel
theorem dL_485 : decode cL_law 485 = .ok (.aload_n 2, 1) := by decide +kernel
theorem dL_486 : decode cL_law 486 = .ok (.aload_n 0, 1) := by decide +kernel
theorem dL_487 : decode cL_law 487 = .ok (.iload 4, 2) := by decide +kernel
theorem dL_489 : decode cL_law 489 = .ok (.iconst 1, 1) := by decide +kernel
theorem dL_490 : decode cL_law 490 = .ok (.iadd, 1) := by decide +kernel
theorem dL_491 : decode cL_law 491 = .ok (.iaload, 1) := by decide +kernel
theorem dL_492 : decode cL_law 492 = .ok (.aload_n 0, 1) := by decide +kernel
theorem dL_493 : decode cL_law 493 = .ok (.iload 4, 2) := by decide +kernel
theorem dL_495 : decode cL_law 495 = .ok (.iconst 2, 1) := by decide +kernel
theorem dL_496 : decode cL_law 496 = .ok (.iadd, 1) := by decide +kernel
theorem dL_497 : decode cL_law 497 = .ok (.iaload, 1) := by decide +kernel
theorem dL_498 : decode cL_law 498 = .ok (.aload_n 0, 1) := by decide +kernel
theorem dL_499 : decode cL_law 499 = .ok (.iload 4, 2) := by decide +kernel
theorem dL_501 : decode cL_law 501 = .ok (.iconst 3, 1) := by decide +kernel
theorem dL_502 : decode cL_law 502 = .ok (.iadd, 1) := by decide +kernel
theorem dL_503 : decode cL_law 503 = .ok (.iaload, 1) := by decide +kernel
theorem dL_504 : decode cL_law 504 = .ok (.aload_n 0, 1) := by decide +kernel
theorem dL_505 : decode cL_law 505 = .ok (.iload 4, 2) := by decide +kernel
theorem dL_507 : decode cL_law 507 = .ok (.iconst 4, 1) := by decide +kernel
theorem dL_508 : decode cL_law 508 = .ok (.iadd, 1) := by decide +kernel
theorem dL_509 : decode cL_law 509 = .ok (.iaload, 1) := by decide +kernel
theorem dL_510 : decode cL_law 510 = .ok (.invokevirtual 63, 3) := by decide +kernel
theorem dL_513 : decode cL_law 513 = .ok (.if_icmp .eq 1056, 3) := by decide +kernel
theorem dL_516 : decode cL_law 516 = .ok (.iconst 0, 1) := by decide +kernel
theorem dL_517 : decode cL_law 517 = .ok (.ireturn, 1) := by decide +kernel
theorem dL_518 : decode cL_law 518 = .ok (.aload_n 1, 1) := by decide +kernel
theorem dL_519 : decode cL_law 519 = .ok (.invokevirtual 64, 3) := by decide +kernel
theorem dL_522 : decode cL_law 522 = .ok (.aload_n 2, 1) := by decide +kernel
theorem dL_523 : decode cL_law 523 = .ok (.invokevirtual 67, 3) := by decide +kernel
theorem dL_526 : decode cL_law 526 = .ok (.if_icmp .eq 1043, 3) := by decide +kernel
theorem dL_529 : decode cL_law 529 = .ok (.iconst 0, 1) := by decide +kernel
theorem dL_530 : decode cL_law 530 = .ok (.ireturn, 1) := by decide +kernel
theorem dL_531 : decode cL_law 531 = .ok (.aload_n 1, 1) := by decide +kernel
theorem dL_532 : decode cL_law 532 = .ok (.aload_n 0, 1) := by decide +kernel
theorem dL_533 : decode cL_law 533 = .ok (.iload 4, 2) := by decide +kernel
theorem dL_535 : decode cL_law 535 = .ok (.iconst 1, 1) := by decide +kernel
theorem dL_536 : decode cL_law 536 = .ok (.iadd, 1) := by decide +kernel
theorem dL_537 : decode cL_law 537 = .ok (.iaload, 1) := by decide +kernel
theorem dL_538 : decode cL_law 538 = .ok (.invokevirtual 68, 3) := by decide +kernel
theorem dL_541 : decode cL_law 541 = .ok (.aload_n 2, 1) := by decide +kernel
theorem dL_542 : decode cL_law 542 = .ok (.aload_n 0, 1) := by decide +kernel
theorem dL_543 : decode cL_law 543 = .ok (.iload 4, 2) := by decide +kernel
theorem dL_545 : decode cL_law 545 = .ok (.iconst 1, 1) := by decide +kernel
theorem dL_546 : decode cL_law 546 = .ok (.iadd, 1) := by decide +kernel
theorem dL_547 : decode cL_law 547 = .ok (.iaload, 1) := by decide +kernel
theorem dL_548 : decode cL_law 548 = .ok (.invokevirtual 71, 3) := by decide +kernel
theorem dL_551 : decode cL_law 551 = .ok (.if_icmp .eq 1018, 3) := by decide +kernel
theorem dL_554 : decode cL_law 554 = .ok (.iconst 0, 1) := by decide +kernel
theorem dL_555 : decode cL_law 555 = .ok (.ireturn, 1) := by decide +kernel
theorem dL_556 : decode cL_law 556 = .ok (.aload_n 1, 1) := by decide +kernel
theorem dL_557 : decode cL_law 557 = .ok (.aload_n 0, 1) := by decide +kernel
theorem dL_558 : decode cL_law 558 = .ok (.iload 4, 2) := by decide +kernel
theorem dL_560 : decode cL_law 560 = .ok (.iconst 1, 1) := by decide +kernel
theorem dL_561 : decode cL_law 561 = .ok (.iadd, 1) := by decide +kernel
