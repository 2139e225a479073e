/-! What stands in the law's body, part 11. (printed by law_x.py) -/
theorem dL_1506 : decode cL_law 1506 = .ok (.invokevirtual 219, 3) := by decide +kernel
theorem dL_1509 : decode cL_law 1509 = .ok (.if_icmp .eq 60, 3) := by decide +kernel
theorem dL_1512 : decode cL_law 1512 = .ok (.iconst 0, 1) := by decide +kernel
theorem dL_1513 : decode cL_law 1513 = .ok (.ireturn, 1) := by decide +kernel
theorem dL_1514 : decode cL_law 1514 = .ok (.aload_n 1, 1) := by decide +kernel
theorem dL_1515 : decode cL_law 1515 = .ok (.aload_n 0, 1) := by decide +kernel
theorem dL_1516 : decode cL_law 1516 = .ok (.iload 4, 2) := by decide +kernel
theorem dL_1518 : decode cL_law 1518 = .ok (.iconst 1, 1) := by decide +kernel
theorem dL_1519 : decode cL_law 1519 = .ok (.iadd, 1) := by decide +kernel
theorem dL_1520 : decode cL_law 1520 = .ok (.iaload, 1) := by decide +kernel
theorem dL_1521 : decode cL_law 1521 = .ok (.aload_n 3, 1) := by decide +kernel
theorem dL_1522 : decode cL_law 1522 = .ok (.invokestatic 220, 3) := by decide +kernel
theorem dL_1525 : decode cL_law 1525 = .ok (.istore 5, 2) := by decide +kernel
theorem dL_1527 : decode cL_law 1527 = .ok (.aload_n 2, 1) := by decide +kernel
theorem dL_1528 : decode cL_law 1528 = .ok (.aload_n 0, 1) := by decide +kernel
theorem dL_1529 : decode cL_law 1529 = .ok (.iload 4, 2) := by decide +kernel
theorem dL_1531 : decode cL_law 1531 = .ok (.iconst 1, 1) := by decide +kernel
theorem dL_1532 : decode cL_law 1532 = .ok (.iadd, 1) := by decide +kernel
theorem dL_1533 : decode cL_law 1533 = .ok (.iaload, 1) := by decide +kernel
theorem dL_1534 : decode cL_law 1534 = .ok (.invokevirtual 223, 3) := by decide +kernel
theorem dL_1537 : decode cL_law 1537 = .ok (.lstore 6, 2) := by decide +kernel
theorem dL_1539 : decode cL_law 1539 = .ok (.aload_n 2, 1) := by decide +kernel
theorem dL_1540 : decode cL_law 1540 = .ok (.invokevirtual 47, 3) := by decide +kernel
theorem dL_1543 : decode cL_law 1543 = .ok (.iload 5, 2) := by decide +kernel
theorem dL_1545 : decode cL_law 1545 = .ok (.if_icmp .eq 5, 3) := by decide +kernel
theorem dL_1548 : decode cL_law 1548 = .ok (.iconst 0, 1) := by decide +kernel
theorem dL_1549 : decode cL_law 1549 = .ok (.ireturn, 1) := by decide +kernel
theorem dL_1550 : decode cL_law 1550 = .ok (.iload 5, 2) := by decide +kernel
theorem dL_1552 : decode cL_law 1552 = .ok (.ifCond .ne 14, 3) := by decide +kernel
theorem dL_1555 : decode cL_law 1555 = .ok (.aload_n 3, 1) := by decide +kernel
theorem dL_1556 : decode cL_law 1556 = .ok (.iconst 0, 1) := by decide +kernel
theorem dL_1557 : decode cL_law 1557 = .ok (.laload, 1) := by decide +kernel
theorem dL_1558 : decode cL_law 1558 = .ok (.lload 6, 2) := by decide +kernel
theorem dL_1560 : decode cL_law 1560 = .ok (.lcmp, 1) := by decide +kernel
theorem dL_1561 : decode cL_law 1561 = .ok (.ifCond .eq 5, 3) := by decide +kernel
theorem dL_1564 : decode cL_law 1564 = .ok (.iconst 0, 1) := by decide +kernel
theorem dL_1565 : decode cL_law 1565 = .ok (.ireturn, 1) := by decide +kernel
theorem dL_1566 : decode cL_law 1566 = .ok (.goto 3, 3) := by decide +kernel
theorem dL_1569 : decode cL_law 1569 = .ok (.iinc 4 5, 3) := by decide +kernel
theorem dL_1572 : decode cL_law 1572 = .ok (.goto (-1549), 3) := by decide +kernel
theorem dL_1575 : decode cL_law 1575 = .ok (.iconst 1, 1) := by decide +kernel
theorem dL_1576 : decode cL_law 1576 = .ok (.ireturn, 1) := by decide +kernel
