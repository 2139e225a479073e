/-! What stands in the law's body, part 5. (printed by law_x.py) -/
theorem dL_801 : decode cL_law 801 = .ok (.invokevirtual 116, 3) := by decide +kernel
theorem dL_804 : decode cL_law 804 = .ok (.if_icmp .eq 765, 3) := by decide +kernel
theorem dL_807 : decode cL_law 807 = .ok (.iconst 0, 1) := by decide +kernel
theorem dL_808 : decode cL_law 808 = .ok (.ireturn, 1) := by decide +kernel
theorem dL_809 : decode cL_law 809 = .ok (.aload_n 1, 1) := by decide +kernel
theorem dL_810 : decode cL_law 810 = .ok (.aload_n 0, 1) := by decide +kernel
theorem dL_811 : decode cL_law 811 = .ok (.iload 4, 2) := by decide +kernel
theorem dL_813 : decode cL_law 813 = .ok (.iconst 1, 1) := by decide +kernel
theorem dL_814 : decode cL_law 814 = .ok (.iadd, 1) := by decide +kernel
theorem dL_815 : decode cL_law 815 = .ok (.iaload, 1) := by decide +kernel
theorem dL_816 : decode cL_law 816 = .ok (.invokevirtual 117, 3) := by decide +kernel
theorem dL_819 : decode cL_law 819 = .ok (.aload_n 2, 1) := by decide +kernel
theorem dL_820 : decode cL_law 820 = .ok (.aload_n 0, 1) := by decide +kernel
theorem dL_821 : decode cL_law 821 = .ok (.iload 4, 2) := by decide +kernel
theorem dL_823 : decode cL_law 823 = .ok (.iconst 1, 1) := by decide +kernel
theorem dL_824 : decode cL_law 824 = .ok (.iadd, 1) := by decide +kernel
theorem dL_825 : decode cL_law 825 = .ok (.iaload, 1) := by decide +kernel
theorem dL_826 : decode cL_law 826 = .ok (.invokevirtual 120, 3) := by decide +kernel
theorem dL_829 : decode cL_law 829 = .ok (.if_icmp .eq 740, 3) := by decide +kernel
theorem dL_832 : decode cL_law 832 = .ok (.iconst 0, 1) := by decide +kernel
theorem dL_833 : decode cL_law 833 = .ok (.ireturn, 1) := by decide +kernel
theorem dL_834 : decode cL_law 834 = .ok (.aload_n 1, 1) := by decide +kernel
theorem dL_835 : decode cL_law 835 = .ok (.aload_n 0, 1) := by decide +kernel
theorem dL_836 : decode cL_law 836 = .ok (.iload 4, 2) := by decide +kernel
theorem dL_838 : decode cL_law 838 = .ok (.iconst 1, 1) := by decide +kernel
theorem dL_839 : decode cL_law 839 = .ok (.iadd, 1) := by decide +kernel
theorem dL_840 : decode cL_law 840 = .ok (.iaload, 1) := by decide +kernel
theorem dL_841 : decode cL_law 841 = .ok (.invokevirtual 121, 3) := by decide +kernel
theorem dL_844 : decode cL_law 844 = .ok (.aload_n 2, 1) := by decide +kernel
theorem dL_845 : decode cL_law 845 = .ok (.aload_n 0, 1) := by decide +kernel
theorem dL_846 : decode cL_law 846 = .ok (.iload 4, 2) := by decide +kernel
theorem dL_848 : decode cL_law 848 = .ok (.iconst 1, 1) := by decide +kernel
theorem dL_849 : decode cL_law 849 = .ok (.iadd, 1) := by decide +kernel
theorem dL_850 : decode cL_law 850 = .ok (.iaload, 1) := by decide +kernel
theorem dL_851 : decode cL_law 851 = .ok (.invokevirtual 124, 3) := by decide +kernel
theorem dL_854 : decode cL_law 854 = .ok (.if_icmp .eq 715, 3) := by decide +kernel
theorem dL_857 : decode cL_law 857 = .ok (.iconst 0, 1) := by decide +kernel
theorem dL_858 : decode cL_law 858 = .ok (.ireturn, 1) := by decide +kernel
theorem dL_859 : decode cL_law 859 = .ok (.aload_n 1, 1) := by decide +kernel
theorem dL_860 : decode cL_law 860 = .ok (.aload_n 0, 1) := by decide +kernel
theorem dL_861 : decode cL_law 861 = .ok (.iload 4, 2) := by decide +kernel
theorem dL_863 : decode cL_law 863 = .ok (.iconst 1, 1) := by decide +kernel
theorem dL_864 : decode cL_law 864 = .ok (.iadd, 1) := by decide +kernel
theorem dL_865 : decode cL_law 865 = .ok (.iaload, 1) := by decide +kernel
theorem dL_866 : decode cL_law 866 = .ok (.invokevirtual 125, 3) := by decide +kernel
theorem dL_869 : decode cL_law 869 = .ok (.aload_n 2, 1) := by decide +kernel
theorem dL_870 : decode cL_law 870 = .ok (.aload_n 0, 1) := by decide +kernel
theorem dL_871 : decode cL_law 871 = .ok (.iload 4, 2) := by decide +kernel
theorem dL_873 : decode cL_law 873 = .ok (.iconst 1, 1) := by decide +kernel
theorem dL_874 : decode cL_law 874 = .ok (.iadd, 1) := by decide +kernel
theorem dL_875 : decode cL_law 875 = .ok (.iaload, 1) := by decide +kernel
theorem dL_876 : decode cL_law 876 = .ok (.invokevirtual 128, 3) := by decide +kernel
theorem dL_879 : decode cL_law 879 = .ok (.if_icmp .eq 690, 3) := by decide +kernel
theorem dL_882 : decode cL_law 882 = .ok (.iconst 0, 1) := by decide +kernel
theorem dL_883 : decode cL_law 883 = .ok (.ireturn, 1) := by decide +kernel
theorem dL_884 : decode cL_law 884 = .ok (.aload_n 1, 1) := by decide +kernel
theorem dL_885 : decode cL_law 885 = .ok (.invokevirtual 129, 3) := by decide +kernel
theorem dL_888 : decode cL_law 888 = .ok (.aload_n 2, 1) := by decide +kernel
theorem dL_889 : decode cL_law 889 = .ok (.invokevirtual 132, 3) := by decide +kernel
theorem dL_892 : decode cL_law 892 = .ok (.if_icmp .eq 677, 3) := by decide +kernel
theorem dL_895 : decode cL_law 895 = .ok (.iconst 0, 1) := by decide +kernel
theorem dL_896 : decode cL_law 896 = .ok (.ireturn, 1) := by decide +kernel
theorem dL_897 : decode cL_law 897 = .ok (.aload_n 1, 1) := by decide +kernel
theorem dL_898 : decode cL_law 898 = .ok (.invokevirtual 133, 3) := by decide +kernel
theorem dL_901 : decode cL_law 901 = .ok (.aload_n 2, 1) := by decide +kernel
theorem dL_902 : decode cL_law 902 = .ok (.invokevirtual 136, 3) := by decide +kernel
theorem dL_905 : decode cL_law 905 = .ok (.if_icmp .eq 664, 3) := by decide +kernel
theorem dL_908 : decode cL_law 908 = .ok (.iconst 0, 1) := by decide +kernel
theorem dL_909 : decode cL_law 909 = .ok (.ireturn, 1) := by decide +kernel
theorem dL_910 : decode cL_law 910 = .ok (.aload_n 1, 1) := by decide +kernel
theorem dL_911 : decode cL_law 911 = .ok (.invokevirtual 137, 3) := by decide +kernel
theorem dL_914 : decode cL_law 914 = .ok (.aload_n 2, 1) := by decide +kernel
theorem dL_915 : decode cL_law 915 = .ok (.invokevirtual 140, 3) := by decide +kernel
theorem dL_918 : decode cL_law 918 = .ok (.if_icmp .eq 651, 3) := by decide +kernel
theorem dL_921 : decode cL_law 921 = .ok (.iconst 0, 1) := by decide +kernel
theorem dL_922 : decode cL_law 922 = .ok (.ireturn, 1) := by decide +kernel
theorem dL_923 : decode cL_law 923 = .ok (.aload_n 1, 1) := by decide +kernel
theorem dL_924 : decode cL_law 924 = .ok (.aload_n 0, 1) := by decide +kernel
theorem dL_925 : decode cL_law 925 = .ok (.iload 4, 2) := by decide +kernel
theorem dL_927 : decode cL_law 927 = .ok (.iconst 1, 1) := by decide +kernel
