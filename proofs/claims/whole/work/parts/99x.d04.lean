/-! What stands in the law's body, part 4. (printed by law_x.py) -/
theorem dL_685 : decode cL_law 685 = .ok (.invokevirtual 97, 3) := by decide +kernel
theorem dL_688 : decode cL_law 688 = .ok (.aload_n 2, 1) := by decide +kernel
theorem dL_689 : decode cL_law 689 = .ok (.invokevirtual 100, 3) := by decide +kernel
theorem dL_692 : decode cL_law 692 = .ok (.if_icmp .eq 877, 3) := by decide +kernel
theorem dL_695 : decode cL_law 695 = .ok (.iconst 0, 1) := by decide +kernel
theorem dL_696 : decode cL_law 696 = .ok (.ireturn, 1) := by decide +kernel
theorem dL_697 : decode cL_law 697 = .ok (.aload_n 1, 1) := by decide +kernel
theorem dL_698 : decode cL_law 698 = .ok (.aload_n 0, 1) := by decide +kernel
theorem dL_699 : decode cL_law 699 = .ok (.iload 4, 2) := by decide +kernel
theorem dL_701 : decode cL_law 701 = .ok (.iconst 1, 1) := by decide +kernel
theorem dL_702 : decode cL_law 702 = .ok (.iadd, 1) := by decide +kernel
theorem dL_703 : decode cL_law 703 = .ok (.iaload, 1) := by decide +kernel
theorem dL_704 : decode cL_law 704 = .ok (.aload_n 0, 1) := by decide +kernel
theorem dL_705 : decode cL_law 705 = .ok (.iload 4, 2) := by decide +kernel
theorem dL_707 : decode cL_law 707 = .ok (.iconst 2, 1) := by decide +kernel
theorem dL_708 : decode cL_law 708 = .ok (.iadd, 1) := by decide +kernel
theorem dL_709 : decode cL_law 709 = .ok (.iaload, 1) := by decide +kernel
theorem dL_710 : decode cL_law 710 = .ok (.invokevirtual 101, 3) := by decide +kernel
theorem dL_713 : decode cL_law 713 = .ok (.aload_n 2, 1) := by decide +kernel
theorem dL_714 : decode cL_law 714 = .ok (.aload_n 0, 1) := by decide +kernel
theorem dL_715 : decode cL_law 715 = .ok (.iload 4, 2) := by decide +kernel
theorem dL_717 : decode cL_law 717 = .ok (.iconst 1, 1) := by decide +kernel
theorem dL_718 : decode cL_law 718 = .ok (.iadd, 1) := by decide +kernel
theorem dL_719 : decode cL_law 719 = .ok (.iaload, 1) := by decide +kernel
theorem dL_720 : decode cL_law 720 = .ok (.aload_n 0, 1) := by decide +kernel
theorem dL_721 : decode cL_law 721 = .ok (.iload 4, 2) := by decide +kernel
theorem dL_723 : decode cL_law 723 = .ok (.iconst 2, 1) := by decide +kernel
theorem dL_724 : decode cL_law 724 = .ok (.iadd, 1) := by decide +kernel
theorem dL_725 : decode cL_law 725 = .ok (.iaload, 1) := by decide +kernel
theorem dL_726 : decode cL_law 726 = .ok (.invokevirtual 104, 3) := by decide +kernel
theorem dL_729 : decode cL_law 729 = .ok (.if_icmp .eq 840, 3) := by decide +kernel
theorem dL_732 : decode cL_law 732 = .ok (.iconst 0, 1) := by decide +kernel
theorem dL_733 : decode cL_law 733 = .ok (.ireturn, 1) := by decide +kernel
theorem dL_734 : decode cL_law 734 = .ok (.aload_n 1, 1) := by decide +kernel
theorem dL_735 : decode cL_law 735 = .ok (.invokevirtual 105, 3) := by decide +kernel
theorem dL_738 : decode cL_law 738 = .ok (.aload_n 2, 1) := by decide +kernel
theorem dL_739 : decode cL_law 739 = .ok (.invokevirtual 108, 3) := by decide +kernel
theorem dL_742 : decode cL_law 742 = .ok (.if_icmp .eq 827, 3) := by decide +kernel
theorem dL_745 : decode cL_law 745 = .ok (.iconst 0, 1) := by decide +kernel
theorem dL_746 : decode cL_law 746 = .ok (.ireturn, 1) := by decide +kernel
theorem dL_747 : decode cL_law 747 = .ok (.aload_n 1, 1) := by decide +kernel
theorem dL_748 : decode cL_law 748 = .ok (.aload_n 0, 1) := by decide +kernel
theorem dL_749 : decode cL_law 749 = .ok (.iload 4, 2) := by decide +kernel
theorem dL_751 : decode cL_law 751 = .ok (.iconst 1, 1) := by decide +kernel
theorem dL_752 : decode cL_law 752 = .ok (.iadd, 1) := by decide +kernel
theorem dL_753 : decode cL_law 753 = .ok (.iaload, 1) := by decide +kernel
theorem dL_754 : decode cL_law 754 = .ok (.invokevirtual 109, 3) := by decide +kernel
theorem dL_757 : decode cL_law 757 = .ok (.aload_n 2, 1) := by decide +kernel
theorem dL_758 : decode cL_law 758 = .ok (.aload_n 0, 1) := by decide +kernel
theorem dL_759 : decode cL_law 759 = .ok (.iload 4, 2) := by decide +kernel
theorem dL_761 : decode cL_law 761 = .ok (.iconst 1, 1) := by decide +kernel
theorem dL_762 : decode cL_law 762 = .ok (.iadd, 1) := by decide +kernel
theorem dL_763 : decode cL_law 763 = .ok (.iaload, 1) := by decide +kernel
theorem dL_764 : decode cL_law 764 = .ok (.invokevirtual 112, 3) := by decide +kernel
theorem dL_767 : decode cL_law 767 = .ok (.if_icmp .eq 802, 3) := by decide +kernel
theorem dL_770 : decode cL_law 770 = .ok (.iconst 0, 1) := by decide +kernel
theorem dL_771 : decode cL_law 771 = .ok (.ireturn, 1) := by decide +kernel
theorem dL_772 : decode cL_law 772 = .ok (.aload_n 1, 1) := by decide +kernel
theorem dL_773 : decode cL_law 773 = .ok (.aload_n 0, 1) := by decide +kernel
theorem dL_774 : decode cL_law 774 = .ok (.iload 4, 2) := by decide +kernel
theorem dL_776 : decode cL_law 776 = .ok (.iconst 1, 1) := by decide +kernel
theorem dL_777 : decode cL_law 777 = .ok (.iadd, 1) := by decide +kernel
theorem dL_778 : decode cL_law 778 = .ok (.iaload, 1) := by decide +kernel
theorem dL_779 : decode cL_law 779 = .ok (.aload_n 0, 1) := by decide +kernel
theorem dL_780 : decode cL_law 780 = .ok (.iload 4, 2) := by decide +kernel
theorem dL_782 : decode cL_law 782 = .ok (.iconst 2, 1) := by decide +kernel
theorem dL_783 : decode cL_law 783 = .ok (.iadd, 1) := by decide +kernel
theorem dL_784 : decode cL_law 784 = .ok (.iaload, 1) := by decide +kernel
theorem dL_785 : decode cL_law 785 = .ok (.invokevirtual 113, 3) := by decide +kernel
theorem dL_788 : decode cL_law 788 = .ok (.aload_n 2, 1) := by decide +kernel
theorem dL_789 : decode cL_law 789 = .ok (.aload_n 0, 1) := by decide +kernel
theorem dL_790 : decode cL_law 790 = .ok (.iload 4, 2) := by decide +kernel
theorem dL_792 : decode cL_law 792 = .ok (.iconst 1, 1) := by decide +kernel
theorem dL_793 : decode cL_law 793 = .ok (.iadd, 1) := by decide +kernel
theorem dL_794 : decode cL_law 794 = .ok (.iaload, 1) := by decide +kernel
theorem dL_795 : decode cL_law 795 = .ok (.aload_n 0, 1) := by decide +kernel
theorem dL_796 : decode cL_law 796 = .ok (.iload 4, 2) := by decide +kernel
theorem dL_798 : decode cL_law 798 = .ok (.iconst 2, 1) := by decide +kernel
theorem dL_799 : decode cL_law 799 = .ok (.iadd, 1) := by decide +kernel
theorem dL_800 : decode cL_law 800 = .ok (.iaload, 1) := by decide +kernel
