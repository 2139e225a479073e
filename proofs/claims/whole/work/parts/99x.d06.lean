/-! What stands in the law's body, part 6. (printed by law_x.py) -/
theorem dL_928 : decode cL_law 928 = .ok (.iadd, 1) := by decide +kernel
theorem dL_929 : decode cL_law 929 = .ok (.iaload, 1) := by decide +kernel
theorem dL_930 : decode cL_law 930 = .ok (.aload_n 0, 1) := by decide +kernel
theorem dL_931 : decode cL_law 931 = .ok (.iload 4, 2) := by decide +kernel
theorem dL_933 : decode cL_law 933 = .ok (.iconst 2, 1) := by decide +kernel
theorem dL_934 : decode cL_law 934 = .ok (.iadd, 1) := by decide +kernel
theorem dL_935 : decode cL_law 935 = .ok (.iaload, 1) := by decide +kernel
theorem dL_936 : decode cL_law 936 = .ok (.invokevirtual 141, 3) := by decide +kernel
theorem dL_939 : decode cL_law 939 = .ok (.aload_n 2, 1) := by decide +kernel
theorem dL_940 : decode cL_law 940 = .ok (.aload_n 0, 1) := by decide +kernel
theorem dL_941 : decode cL_law 941 = .ok (.iload 4, 2) := by decide +kernel
theorem dL_943 : decode cL_law 943 = .ok (.iconst 1, 1) := by decide +kernel
theorem dL_944 : decode cL_law 944 = .ok (.iadd, 1) := by decide +kernel
theorem dL_945 : decode cL_law 945 = .ok (.iaload, 1) := by decide +kernel
theorem dL_946 : decode cL_law 946 = .ok (.aload_n 0, 1) := by decide +kernel
theorem dL_947 : decode cL_law 947 = .ok (.iload 4, 2) := by decide +kernel
theorem dL_949 : decode cL_law 949 = .ok (.iconst 2, 1) := by decide +kernel
theorem dL_950 : decode cL_law 950 = .ok (.iadd, 1) := by decide +kernel
theorem dL_951 : decode cL_law 951 = .ok (.iaload, 1) := by decide +kernel
theorem dL_952 : decode cL_law 952 = .ok (.invokevirtual 144, 3) := by decide +kernel
theorem dL_955 : decode cL_law 955 = .ok (.if_icmp .eq 614, 3) := by decide +kernel
theorem dL_958 : decode cL_law 958 = .ok (.iconst 0, 1) := by decide +kernel
theorem dL_959 : decode cL_law 959 = .ok (.ireturn, 1) := by decide +kernel
theorem dL_960 : decode cL_law 960 = .ok (.aload_n 1, 1) := by decide +kernel
theorem dL_961 : decode cL_law 961 = .ok (.aload_n 0, 1) := by decide +kernel
theorem dL_962 : decode cL_law 962 = .ok (.iload 4, 2) := by decide +kernel
theorem dL_964 : decode cL_law 964 = .ok (.iconst 1, 1) := by decide +kernel
theorem dL_965 : decode cL_law 965 = .ok (.iadd, 1) := by decide +kernel
theorem dL_966 : decode cL_law 966 = .ok (.iaload, 1) := by decide +kernel
theorem dL_967 : decode cL_law 967 = .ok (.aload_n 0, 1) := by decide +kernel
theorem dL_968 : decode cL_law 968 = .ok (.iload 4, 2) := by decide +kernel
theorem dL_970 : decode cL_law 970 = .ok (.iconst 2, 1) := by decide +kernel
theorem dL_971 : decode cL_law 971 = .ok (.iadd, 1) := by decide +kernel
theorem dL_972 : decode cL_law 972 = .ok (.iaload, 1) := by decide +kernel
theorem dL_973 : decode cL_law 973 = .ok (.invokevirtual 145, 3) := by decide +kernel
theorem dL_976 : decode cL_law 976 = .ok (.aload_n 2, 1) := by decide +kernel
theorem dL_977 : decode cL_law 977 = .ok (.aload_n 0, 1) := by decide +kernel
theorem dL_978 : decode cL_law 978 = .ok (.iload 4, 2) := by decide +kernel
theorem dL_980 : decode cL_law 980 = .ok (.iconst 1, 1) := by decide +kernel
theorem dL_981 : decode cL_law 981 = .ok (.iadd, 1) := by decide +kernel
theorem dL_982 : decode cL_law 982 = .ok (.iaload, 1) := by decide +kernel
theorem dL_983 : decode cL_law 983 = .ok (.aload_n 0, 1) := by decide +kernel
theorem dL_984 : decode cL_law 984 = .ok (.iload 4, 2) := by decide +kernel
theorem dL_986 : decode cL_law 986 = .ok (.iconst 2, 1) := by decide +kernel
theorem dL_987 : decode cL_law 987 = .ok (.iadd, 1) := by decide +kernel
theorem dL_988 : decode cL_law 988 = .ok (.iaload, 1) := by decide +kernel
theorem dL_989 : decode cL_law 989 = .ok (.invokevirtual 148, 3) := by decide +kernel
theorem dL_992 : decode cL_law 992 = .ok (.if_icmp .eq 577, 3) := by decide +kernel
theorem dL_995 : decode cL_law 995 = .ok (.iconst 0, 1) := by decide +kernel
theorem dL_996 : decode cL_law 996 = .ok (.ireturn, 1) := by decide +kernel
theorem dL_997 : decode cL_law 997 = .ok (.aload_n 1, 1) := by decide +kernel
theorem dL_998 : decode cL_law 998 = .ok (.aload_n 0, 1) := by decide +kernel
theorem dL_999 : decode cL_law 999 = .ok (.iload 4, 2) := by decide +kernel
theorem dL_1001 : decode cL_law 1001 = .ok (.iconst 1, 1) := by decide +kernel
theorem dL_1002 : decode cL_law 1002 = .ok (.iadd, 1) := by decide +kernel
theorem dL_1003 : decode cL_law 1003 = .ok (.iaload, 1) := by decide +kernel
theorem dL_1004 : decode cL_law 1004 = .ok (.aload_n 0, 1) := by decide +kernel
theorem dL_1005 : decode cL_law 1005 = .ok (.iload 4, 2) := by decide +kernel
theorem dL_1007 : decode cL_law 1007 = .ok (.iconst 2, 1) := by decide +kernel
theorem dL_1008 : decode cL_law 1008 = .ok (.iadd, 1) := by decide +kernel
theorem dL_1009 : decode cL_law 1009 = .ok (.iaload, 1) := by decide +kernel
theorem dL_1010 : decode cL_law 1010 = .ok (.invokevirtual 149, 3) := by decide +kernel
theorem dL_1013 : decode cL_law 1013 = .ok (.aload_n 2, 1) := by decide +kernel
theorem dL_1014 : decode cL_law 1014 = .ok (.aload_n 0, 1) := by decide +kernel
theorem dL_1015 : decode cL_law 1015 = .ok (.iload 4, 2) := by decide +kernel
theorem dL_1017 : decode cL_law 1017 = .ok (.iconst 1, 1) := by decide +kernel
theorem dL_1018 : decode cL_law 1018 = .ok (.iadd, 1) := by decide +kernel
theorem dL_1019 : decode cL_law 1019 = .ok (.iaload, 1) := by decide +kernel
theorem dL_1020 : decode cL_law 1020 = .ok (.aload_n 0, 1) := by decide +kernel
theorem dL_1021 : decode cL_law 1021 = .ok (.iload 4, 2) := by decide +kernel
theorem dL_1023 : decode cL_law 1023 = .ok (.iconst 2, 1) := by decide +kernel
theorem dL_1024 : decode cL_law 1024 = .ok (.iadd, 1) := by decide +kernel
theorem dL_1025 : decode cL_law 1025 = .ok (.iaload, 1) := by decide +kernel
theorem dL_1026 : decode cL_law 1026 = .ok (.invokevirtual 152, 3) := by decide +kernel
theorem dL_1029 : decode cL_law 1029 = .ok (.if_icmp .eq 540, 3) := by decide +kernel
theorem dL_1032 : decode cL_law 1032 = .ok (.iconst 0, 1) := by decide +kernel
theorem dL_1033 : decode cL_law 1033 = .ok (.ireturn, 1) := by decide +kernel
theorem dL_1034 : decode cL_law 1034 = .ok (.aload_n 1, 1) := by decide +kernel
theorem dL_1035 : decode cL_law 1035 = .ok (.aload_n 0, 1) := by decide +kernel
theorem dL_1036 : decode cL_law 1036 = .ok (.iload 4, 2) := by decide +kernel
