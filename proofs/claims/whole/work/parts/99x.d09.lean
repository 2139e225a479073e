/-! What stands in the law's body, part 9. (printed by law_x.py) -/
theorem dL_1277 : decode cL_law 1277 = .ok (.iload 4, 2) := by decide +kernel
theorem dL_1279 : decode cL_law 1279 = .ok (.iconst 1, 1) := by decide +kernel
theorem dL_1280 : decode cL_law 1280 = .ok (.iadd, 1) := by decide +kernel
theorem dL_1281 : decode cL_law 1281 = .ok (.iaload, 1) := by decide +kernel
theorem dL_1282 : decode cL_law 1282 = .ok (.invokevirtual 187, 3) := by decide +kernel
theorem dL_1285 : decode cL_law 1285 = .ok (.if_icmp .eq 284, 3) := by decide +kernel
theorem dL_1288 : decode cL_law 1288 = .ok (.iconst 0, 1) := by decide +kernel
theorem dL_1289 : decode cL_law 1289 = .ok (.ireturn, 1) := by decide +kernel
theorem dL_1290 : decode cL_law 1290 = .ok (.aload_n 1, 1) := by decide +kernel
theorem dL_1291 : decode cL_law 1291 = .ok (.aload_n 0, 1) := by decide +kernel
theorem dL_1292 : decode cL_law 1292 = .ok (.iload 4, 2) := by decide +kernel
theorem dL_1294 : decode cL_law 1294 = .ok (.iconst 1, 1) := by decide +kernel
theorem dL_1295 : decode cL_law 1295 = .ok (.iadd, 1) := by decide +kernel
theorem dL_1296 : decode cL_law 1296 = .ok (.iaload, 1) := by decide +kernel
theorem dL_1297 : decode cL_law 1297 = .ok (.invokevirtual 188, 3) := by decide +kernel
theorem dL_1300 : decode cL_law 1300 = .ok (.aload_n 2, 1) := by decide +kernel
theorem dL_1301 : decode cL_law 1301 = .ok (.aload_n 0, 1) := by decide +kernel
theorem dL_1302 : decode cL_law 1302 = .ok (.iload 4, 2) := by decide +kernel
theorem dL_1304 : decode cL_law 1304 = .ok (.iconst 1, 1) := by decide +kernel
theorem dL_1305 : decode cL_law 1305 = .ok (.iadd, 1) := by decide +kernel
theorem dL_1306 : decode cL_law 1306 = .ok (.iaload, 1) := by decide +kernel
theorem dL_1307 : decode cL_law 1307 = .ok (.invokevirtual 191, 3) := by decide +kernel
theorem dL_1310 : decode cL_law 1310 = .ok (.if_icmp .eq 259, 3) := by decide +kernel
theorem dL_1313 : decode cL_law 1313 = .ok (.iconst 0, 1) := by decide +kernel
theorem dL_1314 : decode cL_law 1314 = .ok (.ireturn, 1) := by decide +kernel
theorem dL_1315 : decode cL_law 1315 = .ok (.aload_n 1, 1) := by decide +kernel
theorem dL_1316 : decode cL_law 1316 = .ok (.aload_n 0, 1) := by decide +kernel
theorem dL_1317 : decode cL_law 1317 = .ok (.iload 4, 2) := by decide +kernel
theorem dL_1319 : decode cL_law 1319 = .ok (.iconst 1, 1) := by decide +kernel
theorem dL_1320 : decode cL_law 1320 = .ok (.iadd, 1) := by decide +kernel
theorem dL_1321 : decode cL_law 1321 = .ok (.iaload, 1) := by decide +kernel
theorem dL_1322 : decode cL_law 1322 = .ok (.invokevirtual 192, 3) := by decide +kernel
theorem dL_1325 : decode cL_law 1325 = .ok (.aload_n 2, 1) := by decide +kernel
theorem dL_1326 : decode cL_law 1326 = .ok (.aload_n 0, 1) := by decide +kernel
theorem dL_1327 : decode cL_law 1327 = .ok (.iload 4, 2) := by decide +kernel
theorem dL_1329 : decode cL_law 1329 = .ok (.iconst 1, 1) := by decide +kernel
theorem dL_1330 : decode cL_law 1330 = .ok (.iadd, 1) := by decide +kernel
theorem dL_1331 : decode cL_law 1331 = .ok (.iaload, 1) := by decide +kernel
theorem dL_1332 : decode cL_law 1332 = .ok (.invokevirtual 195, 3) := by decide +kernel
theorem dL_1335 : decode cL_law 1335 = .ok (.if_icmp .eq 234, 3) := by decide +kernel
theorem dL_1338 : decode cL_law 1338 = .ok (.iconst 0, 1) := by decide +kernel
theorem dL_1339 : decode cL_law 1339 = .ok (.ireturn, 1) := by decide +kernel
theorem dL_1340 : decode cL_law 1340 = .ok (.aload_n 1, 1) := by decide +kernel
theorem dL_1341 : decode cL_law 1341 = .ok (.aload_n 0, 1) := by decide +kernel
theorem dL_1342 : decode cL_law 1342 = .ok (.iload 4, 2) := by decide +kernel
theorem dL_1344 : decode cL_law 1344 = .ok (.iconst 1, 1) := by decide +kernel
theorem dL_1345 : decode cL_law 1345 = .ok (.iadd, 1) := by decide +kernel
theorem dL_1346 : decode cL_law 1346 = .ok (.iaload, 1) := by decide +kernel
theorem dL_1347 : decode cL_law 1347 = .ok (.invokevirtual 196, 3) := by decide +kernel
theorem dL_1350 : decode cL_law 1350 = .ok (.aload_n 2, 1) := by decide +kernel
theorem dL_1351 : decode cL_law 1351 = .ok (.aload_n 0, 1) := by decide +kernel
theorem dL_1352 : decode cL_law 1352 = .ok (.iload 4, 2) := by decide +kernel
theorem dL_1354 : decode cL_law 1354 = .ok (.iconst 1, 1) := by decide +kernel
theorem dL_1355 : decode cL_law 1355 = .ok (.iadd, 1) := by decide +kernel
theorem dL_1356 : decode cL_law 1356 = .ok (.iaload, 1) := by decide +kernel
theorem dL_1357 : decode cL_law 1357 = .ok (.invokevirtual 199, 3) := by decide +kernel
theorem dL_1360 : decode cL_law 1360 = .ok (.if_icmp .eq 209, 3) := by decide +kernel
theorem dL_1363 : decode cL_law 1363 = .ok (.iconst 0, 1) := by decide +kernel
theorem dL_1364 : decode cL_law 1364 = .ok (.ireturn, 1) := by decide +kernel
theorem dL_1365 : decode cL_law 1365 = .ok (.aload_n 1, 1) := by decide +kernel
theorem dL_1366 : decode cL_law 1366 = .ok (.aload_n 0, 1) := by decide +kernel
theorem dL_1367 : decode cL_law 1367 = .ok (.iload 4, 2) := by decide +kernel
theorem dL_1369 : decode cL_law 1369 = .ok (.iconst 1, 1) := by decide +kernel
theorem dL_1370 : decode cL_law 1370 = .ok (.iadd, 1) := by decide +kernel
theorem dL_1371 : decode cL_law 1371 = .ok (.iaload, 1) := by decide +kernel
theorem dL_1372 : decode cL_law 1372 = .ok (.invokevirtual 200, 3) := by decide +kernel
theorem dL_1375 : decode cL_law 1375 = .ok (.aload_n 2, 1) := by decide +kernel
theorem dL_1376 : decode cL_law 1376 = .ok (.aload_n 0, 1) := by decide +kernel
theorem dL_1377 : decode cL_law 1377 = .ok (.iload 4, 2) := by decide +kernel
theorem dL_1379 : decode cL_law 1379 = .ok (.iconst 1, 1) := by decide +kernel
theorem dL_1380 : decode cL_law 1380 = .ok (.iadd, 1) := by decide +kernel
theorem dL_1381 : decode cL_law 1381 = .ok (.iaload, 1) := by decide +kernel
theorem dL_1382 : decode cL_law 1382 = .ok (.invokevirtual 203, 3) := by decide +kernel
theorem dL_1385 : decode cL_law 1385 = .ok (.if_icmp .eq 184, 3) := by decide +kernel
theorem dL_1388 : decode cL_law 1388 = .ok (.iconst 0, 1) := by decide +kernel
theorem dL_1389 : decode cL_law 1389 = .ok (.ireturn, 1) := by decide +kernel
theorem dL_1390 : decode cL_law 1390 = .ok (.aload_n 1, 1) := by decide +kernel
theorem dL_1391 : decode cL_law 1391 = .ok (.aload_n 0, 1) := by decide +kernel
theorem dL_1392 : decode cL_law 1392 = .ok (.iload 4, 2) := by decide +kernel
theorem dL_1394 : decode cL_law 1394 = .ok (.iconst 1, 1) := by decide +kernel
