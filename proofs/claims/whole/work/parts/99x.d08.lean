/-! What stands in the law's body, part 8. (printed by law_x.py) -/
theorem dL_1158 : decode cL_law 1158 = .ok (.aload_n 0, 1) := by decide +kernel
theorem dL_1159 : decode cL_law 1159 = .ok (.iload 4, 2) := by decide +kernel
theorem dL_1161 : decode cL_law 1161 = .ok (.iconst 1, 1) := by decide +kernel
theorem dL_1162 : decode cL_law 1162 = .ok (.iadd, 1) := by decide +kernel
theorem dL_1163 : decode cL_law 1163 = .ok (.iaload, 1) := by decide +kernel
theorem dL_1164 : decode cL_law 1164 = .ok (.invokevirtual 176, 3) := by decide +kernel
theorem dL_1167 : decode cL_law 1167 = .ok (.if_icmp .eq 402, 3) := by decide +kernel
theorem dL_1170 : decode cL_law 1170 = .ok (.iconst 0, 1) := by decide +kernel
theorem dL_1171 : decode cL_law 1171 = .ok (.ireturn, 1) := by decide +kernel
theorem dL_1172 : decode cL_law 1172 = .ok (.aload_n 1, 1) := by decide +kernel
theorem dL_1173 : decode cL_law 1173 = .ok (.aload_n 0, 1) := by decide +kernel
theorem dL_1174 : decode cL_law 1174 = .ok (.iload 4, 2) := by decide +kernel
theorem dL_1176 : decode cL_law 1176 = .ok (.iconst 1, 1) := by decide +kernel
theorem dL_1177 : decode cL_law 1177 = .ok (.iadd, 1) := by decide +kernel
theorem dL_1178 : decode cL_law 1178 = .ok (.iaload, 1) := by decide +kernel
theorem dL_1179 : decode cL_law 1179 = .ok (.aload_n 0, 1) := by decide +kernel
theorem dL_1180 : decode cL_law 1180 = .ok (.iload 4, 2) := by decide +kernel
theorem dL_1182 : decode cL_law 1182 = .ok (.iconst 2, 1) := by decide +kernel
theorem dL_1183 : decode cL_law 1183 = .ok (.iadd, 1) := by decide +kernel
theorem dL_1184 : decode cL_law 1184 = .ok (.iaload, 1) := by decide +kernel
theorem dL_1185 : decode cL_law 1185 = .ok (.aload_n 3, 1) := by decide +kernel
theorem dL_1186 : decode cL_law 1186 = .ok (.invokestatic 177, 3) := by decide +kernel
theorem dL_1189 : decode cL_law 1189 = .ok (.istore 5, 2) := by decide +kernel
theorem dL_1191 : decode cL_law 1191 = .ok (.aload_n 2, 1) := by decide +kernel
theorem dL_1192 : decode cL_law 1192 = .ok (.aload_n 0, 1) := by decide +kernel
theorem dL_1193 : decode cL_law 1193 = .ok (.iload 4, 2) := by decide +kernel
theorem dL_1195 : decode cL_law 1195 = .ok (.iconst 1, 1) := by decide +kernel
theorem dL_1196 : decode cL_law 1196 = .ok (.iadd, 1) := by decide +kernel
theorem dL_1197 : decode cL_law 1197 = .ok (.iaload, 1) := by decide +kernel
theorem dL_1198 : decode cL_law 1198 = .ok (.aload_n 0, 1) := by decide +kernel
theorem dL_1199 : decode cL_law 1199 = .ok (.iload 4, 2) := by decide +kernel
theorem dL_1201 : decode cL_law 1201 = .ok (.iconst 2, 1) := by decide +kernel
theorem dL_1202 : decode cL_law 1202 = .ok (.iadd, 1) := by decide +kernel
theorem dL_1203 : decode cL_law 1203 = .ok (.iaload, 1) := by decide +kernel
theorem dL_1204 : decode cL_law 1204 = .ok (.invokevirtual 179, 3) := by decide +kernel
theorem dL_1207 : decode cL_law 1207 = .ok (.istore 6, 2) := by decide +kernel
theorem dL_1209 : decode cL_law 1209 = .ok (.aload_n 2, 1) := by decide +kernel
theorem dL_1210 : decode cL_law 1210 = .ok (.invokevirtual 47, 3) := by decide +kernel
theorem dL_1213 : decode cL_law 1213 = .ok (.iload 5, 2) := by decide +kernel
theorem dL_1215 : decode cL_law 1215 = .ok (.if_icmp .eq 5, 3) := by decide +kernel
theorem dL_1218 : decode cL_law 1218 = .ok (.iconst 0, 1) := by decide +kernel
theorem dL_1219 : decode cL_law 1219 = .ok (.ireturn, 1) := by decide +kernel
theorem dL_1220 : decode cL_law 1220 = .ok (.iload 5, 2) := by decide +kernel
theorem dL_1222 : decode cL_law 1222 = .ok (.ifCond .ne 15, 3) := by decide +kernel
theorem dL_1225 : decode cL_law 1225 = .ok (.aload_n 3, 1) := by decide +kernel
theorem dL_1226 : decode cL_law 1226 = .ok (.iconst 0, 1) := by decide +kernel
theorem dL_1227 : decode cL_law 1227 = .ok (.laload, 1) := by decide +kernel
theorem dL_1228 : decode cL_law 1228 = .ok (.iload 6, 2) := by decide +kernel
theorem dL_1230 : decode cL_law 1230 = .ok (.i2l, 1) := by decide +kernel
theorem dL_1231 : decode cL_law 1231 = .ok (.lcmp, 1) := by decide +kernel
theorem dL_1232 : decode cL_law 1232 = .ok (.ifCond .eq 5, 3) := by decide +kernel
theorem dL_1235 : decode cL_law 1235 = .ok (.iconst 0, 1) := by decide +kernel
theorem dL_1236 : decode cL_law 1236 = .ok (.ireturn, 1) := by decide +kernel
theorem dL_1237 : decode cL_law 1237 = .ok (.goto 332, 3) := by decide +kernel
theorem dL_1240 : decode cL_law 1240 = .ok (.aload_n 1, 1) := by decide +kernel
theorem dL_1241 : decode cL_law 1241 = .ok (.aload_n 0, 1) := by decide +kernel
theorem dL_1242 : decode cL_law 1242 = .ok (.iload 4, 2) := by decide +kernel
theorem dL_1244 : decode cL_law 1244 = .ok (.iconst 1, 1) := by decide +kernel
theorem dL_1245 : decode cL_law 1245 = .ok (.iadd, 1) := by decide +kernel
theorem dL_1246 : decode cL_law 1246 = .ok (.iaload, 1) := by decide +kernel
theorem dL_1247 : decode cL_law 1247 = .ok (.invokevirtual 180, 3) := by decide +kernel
theorem dL_1250 : decode cL_law 1250 = .ok (.aload_n 2, 1) := by decide +kernel
theorem dL_1251 : decode cL_law 1251 = .ok (.aload_n 0, 1) := by decide +kernel
theorem dL_1252 : decode cL_law 1252 = .ok (.iload 4, 2) := by decide +kernel
theorem dL_1254 : decode cL_law 1254 = .ok (.iconst 1, 1) := by decide +kernel
theorem dL_1255 : decode cL_law 1255 = .ok (.iadd, 1) := by decide +kernel
theorem dL_1256 : decode cL_law 1256 = .ok (.iaload, 1) := by decide +kernel
theorem dL_1257 : decode cL_law 1257 = .ok (.invokevirtual 183, 3) := by decide +kernel
theorem dL_1260 : decode cL_law 1260 = .ok (.if_icmp .eq 309, 3) := by decide +kernel
theorem dL_1263 : decode cL_law 1263 = .ok (.iconst 0, 1) := by decide +kernel
theorem dL_1264 : decode cL_law 1264 = .ok (.ireturn, 1) := by decide +kernel
theorem dL_1265 : decode cL_law 1265 = .ok (.aload_n 1, 1) := by decide +kernel
theorem dL_1266 : decode cL_law 1266 = .ok (.aload_n 0, 1) := by decide +kernel
theorem dL_1267 : decode cL_law 1267 = .ok (.iload 4, 2) := by decide +kernel
theorem dL_1269 : decode cL_law 1269 = .ok (.iconst 1, 1) := by decide +kernel
theorem dL_1270 : decode cL_law 1270 = .ok (.iadd, 1) := by decide +kernel
theorem dL_1271 : decode cL_law 1271 = .ok (.iaload, 1) := by decide +kernel
theorem dL_1272 : decode cL_law 1272 = .ok (.invokevirtual 184, 3) := by decide +kernel
theorem dL_1275 : decode cL_law 1275 = .ok (.aload_n 2, 1) := by decide +kernel
theorem dL_1276 : decode cL_law 1276 = .ok (.aload_n 0, 1) := by decide +kernel
