/-! What stands in the law's body, part 10. (printed by law_x.py) -/
theorem dL_1395 : decode cL_law 1395 = .ok (.iadd, 1) := by decide +kernel
theorem dL_1396 : decode cL_law 1396 = .ok (.iaload, 1) := by decide +kernel
theorem dL_1397 : decode cL_law 1397 = .ok (.aload_n 0, 1) := by decide +kernel
theorem dL_1398 : decode cL_law 1398 = .ok (.iload 4, 2) := by decide +kernel
theorem dL_1400 : decode cL_law 1400 = .ok (.iconst 2, 1) := by decide +kernel
theorem dL_1401 : decode cL_law 1401 = .ok (.iadd, 1) := by decide +kernel
theorem dL_1402 : decode cL_law 1402 = .ok (.iaload, 1) := by decide +kernel
theorem dL_1403 : decode cL_law 1403 = .ok (.aload_n 0, 1) := by decide +kernel
theorem dL_1404 : decode cL_law 1404 = .ok (.iload 4, 2) := by decide +kernel
theorem dL_1406 : decode cL_law 1406 = .ok (.iconst 3, 1) := by decide +kernel
theorem dL_1407 : decode cL_law 1407 = .ok (.iadd, 1) := by decide +kernel
theorem dL_1408 : decode cL_law 1408 = .ok (.iaload, 1) := by decide +kernel
theorem dL_1409 : decode cL_law 1409 = .ok (.invokevirtual 204, 3) := by decide +kernel
theorem dL_1412 : decode cL_law 1412 = .ok (.aload_n 2, 1) := by decide +kernel
theorem dL_1413 : decode cL_law 1413 = .ok (.aload_n 0, 1) := by decide +kernel
theorem dL_1414 : decode cL_law 1414 = .ok (.iload 4, 2) := by decide +kernel
theorem dL_1416 : decode cL_law 1416 = .ok (.iconst 1, 1) := by decide +kernel
theorem dL_1417 : decode cL_law 1417 = .ok (.iadd, 1) := by decide +kernel
theorem dL_1418 : decode cL_law 1418 = .ok (.iaload, 1) := by decide +kernel
theorem dL_1419 : decode cL_law 1419 = .ok (.aload_n 0, 1) := by decide +kernel
theorem dL_1420 : decode cL_law 1420 = .ok (.iload 4, 2) := by decide +kernel
theorem dL_1422 : decode cL_law 1422 = .ok (.iconst 2, 1) := by decide +kernel
theorem dL_1423 : decode cL_law 1423 = .ok (.iadd, 1) := by decide +kernel
theorem dL_1424 : decode cL_law 1424 = .ok (.iaload, 1) := by decide +kernel
theorem dL_1425 : decode cL_law 1425 = .ok (.aload_n 0, 1) := by decide +kernel
theorem dL_1426 : decode cL_law 1426 = .ok (.iload 4, 2) := by decide +kernel
theorem dL_1428 : decode cL_law 1428 = .ok (.iconst 3, 1) := by decide +kernel
theorem dL_1429 : decode cL_law 1429 = .ok (.iadd, 1) := by decide +kernel
theorem dL_1430 : decode cL_law 1430 = .ok (.iaload, 1) := by decide +kernel
theorem dL_1431 : decode cL_law 1431 = .ok (.invokevirtual 207, 3) := by decide +kernel
theorem dL_1434 : decode cL_law 1434 = .ok (.if_icmp .eq 135, 3) := by decide +kernel
theorem dL_1437 : decode cL_law 1437 = .ok (.iconst 0, 1) := by decide +kernel
theorem dL_1438 : decode cL_law 1438 = .ok (.ireturn, 1) := by decide +kernel
theorem dL_1439 : decode cL_law 1439 = .ok (.aload_n 1, 1) := by decide +kernel
theorem dL_1440 : decode cL_law 1440 = .ok (.aload_n 0, 1) := by decide +kernel
theorem dL_1441 : decode cL_law 1441 = .ok (.iload 4, 2) := by decide +kernel
theorem dL_1443 : decode cL_law 1443 = .ok (.iconst 1, 1) := by decide +kernel
theorem dL_1444 : decode cL_law 1444 = .ok (.iadd, 1) := by decide +kernel
theorem dL_1445 : decode cL_law 1445 = .ok (.iaload, 1) := by decide +kernel
theorem dL_1446 : decode cL_law 1446 = .ok (.invokevirtual 208, 3) := by decide +kernel
theorem dL_1449 : decode cL_law 1449 = .ok (.aload_n 2, 1) := by decide +kernel
theorem dL_1450 : decode cL_law 1450 = .ok (.aload_n 0, 1) := by decide +kernel
theorem dL_1451 : decode cL_law 1451 = .ok (.iload 4, 2) := by decide +kernel
theorem dL_1453 : decode cL_law 1453 = .ok (.iconst 1, 1) := by decide +kernel
theorem dL_1454 : decode cL_law 1454 = .ok (.iadd, 1) := by decide +kernel
theorem dL_1455 : decode cL_law 1455 = .ok (.iaload, 1) := by decide +kernel
theorem dL_1456 : decode cL_law 1456 = .ok (.invokevirtual 211, 3) := by decide +kernel
theorem dL_1459 : decode cL_law 1459 = .ok (.if_icmp .eq 110, 3) := by decide +kernel
theorem dL_1462 : decode cL_law 1462 = .ok (.iconst 0, 1) := by decide +kernel
theorem dL_1463 : decode cL_law 1463 = .ok (.ireturn, 1) := by decide +kernel
theorem dL_1464 : decode cL_law 1464 = .ok (.aload_n 1, 1) := by decide +kernel
theorem dL_1465 : decode cL_law 1465 = .ok (.aload_n 0, 1) := by decide +kernel
theorem dL_1466 : decode cL_law 1466 = .ok (.iload 4, 2) := by decide +kernel
theorem dL_1468 : decode cL_law 1468 = .ok (.iconst 1, 1) := by decide +kernel
theorem dL_1469 : decode cL_law 1469 = .ok (.iadd, 1) := by decide +kernel
theorem dL_1470 : decode cL_law 1470 = .ok (.iaload, 1) := by decide +kernel
theorem dL_1471 : decode cL_law 1471 = .ok (.invokevirtual 212, 3) := by decide +kernel
theorem dL_1474 : decode cL_law 1474 = .ok (.aload_n 2, 1) := by decide +kernel
theorem dL_1475 : decode cL_law 1475 = .ok (.aload_n 0, 1) := by decide +kernel
theorem dL_1476 : decode cL_law 1476 = .ok (.iload 4, 2) := by decide +kernel
theorem dL_1478 : decode cL_law 1478 = .ok (.iconst 1, 1) := by decide +kernel
theorem dL_1479 : decode cL_law 1479 = .ok (.iadd, 1) := by decide +kernel
theorem dL_1480 : decode cL_law 1480 = .ok (.iaload, 1) := by decide +kernel
theorem dL_1481 : decode cL_law 1481 = .ok (.invokevirtual 215, 3) := by decide +kernel
theorem dL_1484 : decode cL_law 1484 = .ok (.if_icmp .eq 85, 3) := by decide +kernel
theorem dL_1487 : decode cL_law 1487 = .ok (.iconst 0, 1) := by decide +kernel
theorem dL_1488 : decode cL_law 1488 = .ok (.ireturn, 1) := by decide +kernel
theorem dL_1489 : decode cL_law 1489 = .ok (.aload_n 1, 1) := by decide +kernel
theorem dL_1490 : decode cL_law 1490 = .ok (.aload_n 0, 1) := by decide +kernel
theorem dL_1491 : decode cL_law 1491 = .ok (.iload 4, 2) := by decide +kernel
theorem dL_1493 : decode cL_law 1493 = .ok (.iconst 1, 1) := by decide +kernel
theorem dL_1494 : decode cL_law 1494 = .ok (.iadd, 1) := by decide +kernel
theorem dL_1495 : decode cL_law 1495 = .ok (.iaload, 1) := by decide +kernel
theorem dL_1496 : decode cL_law 1496 = .ok (.invokevirtual 216, 3) := by decide +kernel
theorem dL_1499 : decode cL_law 1499 = .ok (.aload_n 2, 1) := by decide +kernel
theorem dL_1500 : decode cL_law 1500 = .ok (.aload_n 0, 1) := by decide +kernel
theorem dL_1501 : decode cL_law 1501 = .ok (.iload 4, 2) := by decide +kernel
theorem dL_1503 : decode cL_law 1503 = .ok (.iconst 1, 1) := by decide +kernel
theorem dL_1504 : decode cL_law 1504 = .ok (.iadd, 1) := by decide +kernel
theorem dL_1505 : decode cL_law 1505 = .ok (.iaload, 1) := by decide +kernel
