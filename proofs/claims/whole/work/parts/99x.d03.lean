/-! What stands in the law's body, part 3. (printed by law_x.py) -/
theorem dL_562 : decode cL_law 562 = .ok (.iaload, 1) := by decide +kernel
theorem dL_563 : decode cL_law 563 = .ok (.invokevirtual 72, 3) := by decide +kernel
theorem dL_566 : decode cL_law 566 = .ok (.aload_n 2, 1) := by decide +kernel
theorem dL_567 : decode cL_law 567 = .ok (.aload_n 0, 1) := by decide +kernel
theorem dL_568 : decode cL_law 568 = .ok (.iload 4, 2) := by decide +kernel
theorem dL_570 : decode cL_law 570 = .ok (.iconst 1, 1) := by decide +kernel
theorem dL_571 : decode cL_law 571 = .ok (.iadd, 1) := by decide +kernel
theorem dL_572 : decode cL_law 572 = .ok (.iaload, 1) := by decide +kernel
theorem dL_573 : decode cL_law 573 = .ok (.invokevirtual 75, 3) := by decide +kernel
theorem dL_576 : decode cL_law 576 = .ok (.if_icmp .eq 993, 3) := by decide +kernel
theorem dL_579 : decode cL_law 579 = .ok (.iconst 0, 1) := by decide +kernel
theorem dL_580 : decode cL_law 580 = .ok (.ireturn, 1) := by decide +kernel
theorem dL_581 : decode cL_law 581 = .ok (.aload_n 1, 1) := by decide +kernel
theorem dL_582 : decode cL_law 582 = .ok (.aload_n 0, 1) := by decide +kernel
theorem dL_583 : decode cL_law 583 = .ok (.iload 4, 2) := by decide +kernel
theorem dL_585 : decode cL_law 585 = .ok (.iconst 1, 1) := by decide +kernel
theorem dL_586 : decode cL_law 586 = .ok (.iadd, 1) := by decide +kernel
theorem dL_587 : decode cL_law 587 = .ok (.iaload, 1) := by decide +kernel
theorem dL_588 : decode cL_law 588 = .ok (.invokevirtual 76, 3) := by decide +kernel
theorem dL_591 : decode cL_law 591 = .ok (.aload_n 2, 1) := by decide +kernel
theorem dL_592 : decode cL_law 592 = .ok (.aload_n 0, 1) := by decide +kernel
theorem dL_593 : decode cL_law 593 = .ok (.iload 4, 2) := by decide +kernel
theorem dL_595 : decode cL_law 595 = .ok (.iconst 1, 1) := by decide +kernel
theorem dL_596 : decode cL_law 596 = .ok (.iadd, 1) := by decide +kernel
theorem dL_597 : decode cL_law 597 = .ok (.iaload, 1) := by decide +kernel
theorem dL_598 : decode cL_law 598 = .ok (.invokevirtual 79, 3) := by decide +kernel
theorem dL_601 : decode cL_law 601 = .ok (.if_icmp .eq 968, 3) := by decide +kernel
theorem dL_604 : decode cL_law 604 = .ok (.iconst 0, 1) := by decide +kernel
theorem dL_605 : decode cL_law 605 = .ok (.ireturn, 1) := by decide +kernel
theorem dL_606 : decode cL_law 606 = .ok (.aload_n 1, 1) := by decide +kernel
theorem dL_607 : decode cL_law 607 = .ok (.aload_n 0, 1) := by decide +kernel
theorem dL_608 : decode cL_law 608 = .ok (.iload 4, 2) := by decide +kernel
theorem dL_610 : decode cL_law 610 = .ok (.iconst 1, 1) := by decide +kernel
theorem dL_611 : decode cL_law 611 = .ok (.iadd, 1) := by decide +kernel
theorem dL_612 : decode cL_law 612 = .ok (.iaload, 1) := by decide +kernel
theorem dL_613 : decode cL_law 613 = .ok (.invokevirtual 80, 3) := by decide +kernel
theorem dL_616 : decode cL_law 616 = .ok (.aload_n 2, 1) := by decide +kernel
theorem dL_617 : decode cL_law 617 = .ok (.aload_n 0, 1) := by decide +kernel
theorem dL_618 : decode cL_law 618 = .ok (.iload 4, 2) := by decide +kernel
theorem dL_620 : decode cL_law 620 = .ok (.iconst 1, 1) := by decide +kernel
theorem dL_621 : decode cL_law 621 = .ok (.iadd, 1) := by decide +kernel
theorem dL_622 : decode cL_law 622 = .ok (.iaload, 1) := by decide +kernel
theorem dL_623 : decode cL_law 623 = .ok (.invokevirtual 83, 3) := by decide +kernel
theorem dL_626 : decode cL_law 626 = .ok (.if_icmp .eq 943, 3) := by decide +kernel
theorem dL_629 : decode cL_law 629 = .ok (.iconst 0, 1) := by decide +kernel
theorem dL_630 : decode cL_law 630 = .ok (.ireturn, 1) := by decide +kernel
theorem dL_631 : decode cL_law 631 = .ok (.aload_n 1, 1) := by decide +kernel
theorem dL_632 : decode cL_law 632 = .ok (.invokevirtual 84, 3) := by decide +kernel
theorem dL_635 : decode cL_law 635 = .ok (.aload_n 2, 1) := by decide +kernel
theorem dL_636 : decode cL_law 636 = .ok (.invokevirtual 87, 3) := by decide +kernel
theorem dL_639 : decode cL_law 639 = .ok (.if_icmp .eq 930, 3) := by decide +kernel
theorem dL_642 : decode cL_law 642 = .ok (.iconst 0, 1) := by decide +kernel
theorem dL_643 : decode cL_law 643 = .ok (.ireturn, 1) := by decide +kernel
theorem dL_644 : decode cL_law 644 = .ok (.aload_n 1, 1) := by decide +kernel
theorem dL_645 : decode cL_law 645 = .ok (.aload_n 0, 1) := by decide +kernel
theorem dL_646 : decode cL_law 646 = .ok (.iload 4, 2) := by decide +kernel
theorem dL_648 : decode cL_law 648 = .ok (.iconst 1, 1) := by decide +kernel
theorem dL_649 : decode cL_law 649 = .ok (.iadd, 1) := by decide +kernel
theorem dL_650 : decode cL_law 650 = .ok (.iaload, 1) := by decide +kernel
theorem dL_651 : decode cL_law 651 = .ok (.invokevirtual 88, 3) := by decide +kernel
theorem dL_654 : decode cL_law 654 = .ok (.aload_n 2, 1) := by decide +kernel
theorem dL_655 : decode cL_law 655 = .ok (.aload_n 0, 1) := by decide +kernel
theorem dL_656 : decode cL_law 656 = .ok (.iload 4, 2) := by decide +kernel
theorem dL_658 : decode cL_law 658 = .ok (.iconst 1, 1) := by decide +kernel
theorem dL_659 : decode cL_law 659 = .ok (.iadd, 1) := by decide +kernel
theorem dL_660 : decode cL_law 660 = .ok (.iaload, 1) := by decide +kernel
theorem dL_661 : decode cL_law 661 = .ok (.invokevirtual 91, 3) := by decide +kernel
theorem dL_664 : decode cL_law 664 = .ok (.lcmp, 1) := by decide +kernel
theorem dL_665 : decode cL_law 665 = .ok (.ifCond .eq 904, 3) := by decide +kernel
theorem dL_668 : decode cL_law 668 = .ok (.iconst 0, 1) := by decide +kernel
theorem dL_669 : decode cL_law 669 = .ok (.ireturn, 1) := by decide +kernel
theorem dL_670 : decode cL_law 670 = .ok (.aload_n 1, 1) := by decide +kernel
theorem dL_671 : decode cL_law 671 = .ok (.invokevirtual 92, 3) := by decide +kernel
theorem dL_674 : decode cL_law 674 = .ok (.aload_n 2, 1) := by decide +kernel
theorem dL_675 : decode cL_law 675 = .ok (.invokevirtual 96, 3) := by decide +kernel
theorem dL_678 : decode cL_law 678 = .ok (.lcmp, 1) := by decide +kernel
theorem dL_679 : decode cL_law 679 = .ok (.ifCond .eq 890, 3) := by decide +kernel
theorem dL_682 : decode cL_law 682 = .ok (.iconst 0, 1) := by decide +kernel
theorem dL_683 : decode cL_law 683 = .ok (.ireturn, 1) := by decide +kernel
theorem dL_684 : decode cL_law 684 = .ok (.aload_n 1, 1) := by decide +kernel
