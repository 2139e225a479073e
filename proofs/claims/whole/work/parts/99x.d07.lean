/-! What stands in the law's body, part 7. (printed by law_x.py) -/
theorem dL_1038 : decode cL_law 1038 = .ok (.iconst 1, 1) := by decide +kernel
theorem dL_1039 : decode cL_law 1039 = .ok (.iadd, 1) := by decide +kernel
theorem dL_1040 : decode cL_law 1040 = .ok (.iaload, 1) := by decide +kernel
theorem dL_1041 : decode cL_law 1041 = .ok (.aload_n 0, 1) := by decide +kernel
theorem dL_1042 : decode cL_law 1042 = .ok (.iload 4, 2) := by decide +kernel
theorem dL_1044 : decode cL_law 1044 = .ok (.iconst 2, 1) := by decide +kernel
theorem dL_1045 : decode cL_law 1045 = .ok (.iadd, 1) := by decide +kernel
theorem dL_1046 : decode cL_law 1046 = .ok (.iaload, 1) := by decide +kernel
theorem dL_1047 : decode cL_law 1047 = .ok (.invokevirtual 153, 3) := by decide +kernel
theorem dL_1050 : decode cL_law 1050 = .ok (.aload_n 2, 1) := by decide +kernel
theorem dL_1051 : decode cL_law 1051 = .ok (.aload_n 0, 1) := by decide +kernel
theorem dL_1052 : decode cL_law 1052 = .ok (.iload 4, 2) := by decide +kernel
theorem dL_1054 : decode cL_law 1054 = .ok (.iconst 1, 1) := by decide +kernel
theorem dL_1055 : decode cL_law 1055 = .ok (.iadd, 1) := by decide +kernel
theorem dL_1056 : decode cL_law 1056 = .ok (.iaload, 1) := by decide +kernel
theorem dL_1057 : decode cL_law 1057 = .ok (.aload_n 0, 1) := by decide +kernel
theorem dL_1058 : decode cL_law 1058 = .ok (.iload 4, 2) := by decide +kernel
theorem dL_1060 : decode cL_law 1060 = .ok (.iconst 2, 1) := by decide +kernel
theorem dL_1061 : decode cL_law 1061 = .ok (.iadd, 1) := by decide +kernel
theorem dL_1062 : decode cL_law 1062 = .ok (.iaload, 1) := by decide +kernel
theorem dL_1063 : decode cL_law 1063 = .ok (.invokevirtual 156, 3) := by decide +kernel
theorem dL_1066 : decode cL_law 1066 = .ok (.if_icmp .eq 503, 3) := by decide +kernel
theorem dL_1069 : decode cL_law 1069 = .ok (.iconst 0, 1) := by decide +kernel
theorem dL_1070 : decode cL_law 1070 = .ok (.ireturn, 1) := by decide +kernel
theorem dL_1071 : decode cL_law 1071 = .ok (.aload_n 1, 1) := by decide +kernel
theorem dL_1072 : decode cL_law 1072 = .ok (.aload_n 0, 1) := by decide +kernel
theorem dL_1073 : decode cL_law 1073 = .ok (.iload 4, 2) := by decide +kernel
theorem dL_1075 : decode cL_law 1075 = .ok (.iconst 1, 1) := by decide +kernel
theorem dL_1076 : decode cL_law 1076 = .ok (.iadd, 1) := by decide +kernel
theorem dL_1077 : decode cL_law 1077 = .ok (.iaload, 1) := by decide +kernel
theorem dL_1078 : decode cL_law 1078 = .ok (.invokevirtual 157, 3) := by decide +kernel
theorem dL_1081 : decode cL_law 1081 = .ok (.aload_n 2, 1) := by decide +kernel
theorem dL_1082 : decode cL_law 1082 = .ok (.aload_n 0, 1) := by decide +kernel
theorem dL_1083 : decode cL_law 1083 = .ok (.iload 4, 2) := by decide +kernel
theorem dL_1085 : decode cL_law 1085 = .ok (.iconst 1, 1) := by decide +kernel
theorem dL_1086 : decode cL_law 1086 = .ok (.iadd, 1) := by decide +kernel
theorem dL_1087 : decode cL_law 1087 = .ok (.iaload, 1) := by decide +kernel
theorem dL_1088 : decode cL_law 1088 = .ok (.invokevirtual 160, 3) := by decide +kernel
theorem dL_1091 : decode cL_law 1091 = .ok (.if_icmp .eq 478, 3) := by decide +kernel
theorem dL_1094 : decode cL_law 1094 = .ok (.iconst 0, 1) := by decide +kernel
theorem dL_1095 : decode cL_law 1095 = .ok (.ireturn, 1) := by decide +kernel
theorem dL_1096 : decode cL_law 1096 = .ok (.aload_n 1, 1) := by decide +kernel
theorem dL_1097 : decode cL_law 1097 = .ok (.invokevirtual 161, 3) := by decide +kernel
theorem dL_1100 : decode cL_law 1100 = .ok (.aload_n 2, 1) := by decide +kernel
theorem dL_1101 : decode cL_law 1101 = .ok (.invokevirtual 164, 3) := by decide +kernel
theorem dL_1104 : decode cL_law 1104 = .ok (.if_icmp .eq 465, 3) := by decide +kernel
theorem dL_1107 : decode cL_law 1107 = .ok (.iconst 0, 1) := by decide +kernel
theorem dL_1108 : decode cL_law 1108 = .ok (.ireturn, 1) := by decide +kernel
theorem dL_1109 : decode cL_law 1109 = .ok (.aload_n 1, 1) := by decide +kernel
theorem dL_1110 : decode cL_law 1110 = .ok (.aload_n 0, 1) := by decide +kernel
theorem dL_1111 : decode cL_law 1111 = .ok (.iload 4, 2) := by decide +kernel
theorem dL_1113 : decode cL_law 1113 = .ok (.iconst 1, 1) := by decide +kernel
theorem dL_1114 : decode cL_law 1114 = .ok (.iadd, 1) := by decide +kernel
theorem dL_1115 : decode cL_law 1115 = .ok (.iaload, 1) := by decide +kernel
theorem dL_1116 : decode cL_law 1116 = .ok (.invokevirtual 165, 3) := by decide +kernel
theorem dL_1119 : decode cL_law 1119 = .ok (.aload_n 2, 1) := by decide +kernel
theorem dL_1120 : decode cL_law 1120 = .ok (.aload_n 0, 1) := by decide +kernel
theorem dL_1121 : decode cL_law 1121 = .ok (.iload 4, 2) := by decide +kernel
theorem dL_1123 : decode cL_law 1123 = .ok (.iconst 1, 1) := by decide +kernel
theorem dL_1124 : decode cL_law 1124 = .ok (.iadd, 1) := by decide +kernel
theorem dL_1125 : decode cL_law 1125 = .ok (.iaload, 1) := by decide +kernel
theorem dL_1126 : decode cL_law 1126 = .ok (.invokevirtual 168, 3) := by decide +kernel
theorem dL_1129 : decode cL_law 1129 = .ok (.if_icmp .eq 440, 3) := by decide +kernel
theorem dL_1132 : decode cL_law 1132 = .ok (.iconst 0, 1) := by decide +kernel
theorem dL_1133 : decode cL_law 1133 = .ok (.ireturn, 1) := by decide +kernel
theorem dL_1134 : decode cL_law 1134 = .ok (.aload_n 1, 1) := by decide +kernel
theorem dL_1135 : decode cL_law 1135 = .ok (.invokevirtual 169, 3) := by decide +kernel
theorem dL_1138 : decode cL_law 1138 = .ok (.aload_n 2, 1) := by decide +kernel
theorem dL_1139 : decode cL_law 1139 = .ok (.invokevirtual 172, 3) := by decide +kernel
theorem dL_1142 : decode cL_law 1142 = .ok (.if_icmp .eq 427, 3) := by decide +kernel
theorem dL_1145 : decode cL_law 1145 = .ok (.iconst 0, 1) := by decide +kernel
theorem dL_1146 : decode cL_law 1146 = .ok (.ireturn, 1) := by decide +kernel
theorem dL_1147 : decode cL_law 1147 = .ok (.aload_n 1, 1) := by decide +kernel
theorem dL_1148 : decode cL_law 1148 = .ok (.aload_n 0, 1) := by decide +kernel
theorem dL_1149 : decode cL_law 1149 = .ok (.iload 4, 2) := by decide +kernel
theorem dL_1151 : decode cL_law 1151 = .ok (.iconst 1, 1) := by decide +kernel
theorem dL_1152 : decode cL_law 1152 = .ok (.iadd, 1) := by decide +kernel
theorem dL_1153 : decode cL_law 1153 = .ok (.iaload, 1) := by decide +kernel
theorem dL_1154 : decode cL_law 1154 = .ok (.invokevirtual 173, 3) := by decide +kernel
theorem dL_1157 : decode cL_law 1157 = .ok (.aload_n 2, 1) := by decide +kernel
