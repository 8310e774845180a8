/-! ===== the law: its instructions, 4 ===== -/
theorem d_law_1265 : decode code 1265 = .ok (.invokevirtual 140, 3) := by decide +kernel
theorem d_law_1268 : decode code 1268 = .ok (.aload_n 2, 1) := by decide +kernel
theorem d_law_1269 : decode code 1269 = .ok (.aload_n 0, 1) := by decide +kernel
theorem d_law_1270 : decode code 1270 = .ok (.iload 4, 2) := by decide +kernel
theorem d_law_1272 : decode code 1272 = .ok (.iconst 1, 1) := by decide +kernel
theorem d_law_1273 : decode code 1273 = .ok (.iadd, 1) := by decide +kernel
theorem d_law_1274 : decode code 1274 = .ok (.iaload, 1) := by decide +kernel
theorem d_law_1275 : decode code 1275 = .ok (.invokevirtual 143, 3) := by decide +kernel
theorem d_law_1278 : decode code 1278 = .ok (.if_icmp .eq 352, 3) := by decide +kernel
theorem d_law_1281 : decode code 1281 = .ok (.iconst 0, 1) := by decide +kernel
theorem d_law_1282 : decode code 1282 = .ok (.ireturn, 1) := by decide +kernel
theorem d_law_1283 : decode code 1283 = .ok (.aload_n 1, 1) := by decide +kernel
theorem d_law_1284 : decode code 1284 = .ok (.aload_n 0, 1) := by decide +kernel
theorem d_law_1285 : decode code 1285 = .ok (.iload 4, 2) := by decide +kernel
theorem d_law_1287 : decode code 1287 = .ok (.iconst 1, 1) := by decide +kernel
theorem d_law_1288 : decode code 1288 = .ok (.iadd, 1) := by decide +kernel
theorem d_law_1289 : decode code 1289 = .ok (.iaload, 1) := by decide +kernel
theorem d_law_1290 : decode code 1290 = .ok (.aload_n 0, 1) := by decide +kernel
theorem d_law_1291 : decode code 1291 = .ok (.iload 4, 2) := by decide +kernel
theorem d_law_1293 : decode code 1293 = .ok (.iconst 2, 1) := by decide +kernel
theorem d_law_1294 : decode code 1294 = .ok (.iadd, 1) := by decide +kernel
theorem d_law_1295 : decode code 1295 = .ok (.iaload, 1) := by decide +kernel
theorem d_law_1296 : decode code 1296 = .ok (.invokevirtual 144, 3) := by decide +kernel
theorem d_law_1299 : decode code 1299 = .ok (.aload_n 2, 1) := by decide +kernel
theorem d_law_1300 : decode code 1300 = .ok (.aload_n 0, 1) := by decide +kernel
theorem d_law_1301 : decode code 1301 = .ok (.iload 4, 2) := by decide +kernel
theorem d_law_1303 : decode code 1303 = .ok (.iconst 1, 1) := by decide +kernel
theorem d_law_1304 : decode code 1304 = .ok (.iadd, 1) := by decide +kernel
theorem d_law_1305 : decode code 1305 = .ok (.iaload, 1) := by decide +kernel
theorem d_law_1306 : decode code 1306 = .ok (.aload_n 0, 1) := by decide +kernel
theorem d_law_1307 : decode code 1307 = .ok (.iload 4, 2) := by decide +kernel
theorem d_law_1309 : decode code 1309 = .ok (.iconst 2, 1) := by decide +kernel
theorem d_law_1310 : decode code 1310 = .ok (.iadd, 1) := by decide +kernel
theorem d_law_1311 : decode code 1311 = .ok (.iaload, 1) := by decide +kernel
theorem d_law_1312 : decode code 1312 = .ok (.invokevirtual 147, 3) := by decide +kernel
theorem d_law_1315 : decode code 1315 = .ok (.if_icmp .eq 315, 3) := by decide +kernel
theorem d_law_1318 : decode code 1318 = .ok (.iconst 0, 1) := by decide +kernel
theorem d_law_1319 : decode code 1319 = .ok (.ireturn, 1) := by decide +kernel
theorem d_law_1320 : decode code 1320 = .ok (.aload_n 1, 1) := by decide +kernel
theorem d_law_1321 : decode code 1321 = .ok (.aload_n 0, 1) := by decide +kernel
theorem d_law_1322 : decode code 1322 = .ok (.iload 4, 2) := by decide +kernel
theorem d_law_1324 : decode code 1324 = .ok (.iconst 1, 1) := by decide +kernel
theorem d_law_1325 : decode code 1325 = .ok (.iadd, 1) := by decide +kernel
theorem d_law_1326 : decode code 1326 = .ok (.iaload, 1) := by decide +kernel
theorem d_law_1327 : decode code 1327 = .ok (.invokevirtual 148, 3) := by decide +kernel
theorem d_law_1330 : decode code 1330 = .ok (.aload_n 2, 1) := by decide +kernel
theorem d_law_1331 : decode code 1331 = .ok (.aload_n 0, 1) := by decide +kernel
theorem d_law_1332 : decode code 1332 = .ok (.iload 4, 2) := by decide +kernel
theorem d_law_1334 : decode code 1334 = .ok (.iconst 1, 1) := by decide +kernel
theorem d_law_1335 : decode code 1335 = .ok (.iadd, 1) := by decide +kernel
theorem d_law_1336 : decode code 1336 = .ok (.iaload, 1) := by decide +kernel
theorem d_law_1337 : decode code 1337 = .ok (.invokevirtual 151, 3) := by decide +kernel
theorem d_law_1340 : decode code 1340 = .ok (.if_icmp .eq 290, 3) := by decide +kernel
theorem d_law_1343 : decode code 1343 = .ok (.iconst 0, 1) := by decide +kernel
theorem d_law_1344 : decode code 1344 = .ok (.ireturn, 1) := by decide +kernel
theorem d_law_1345 : decode code 1345 = .ok (.aload_n 1, 1) := by decide +kernel
theorem d_law_1346 : decode code 1346 = .ok (.aload_n 0, 1) := by decide +kernel
theorem d_law_1347 : decode code 1347 = .ok (.iload 4, 2) := by decide +kernel
theorem d_law_1349 : decode code 1349 = .ok (.iconst 1, 1) := by decide +kernel
theorem d_law_1350 : decode code 1350 = .ok (.iadd, 1) := by decide +kernel
theorem d_law_1351 : decode code 1351 = .ok (.iaload, 1) := by decide +kernel
theorem d_law_1352 : decode code 1352 = .ok (.invokevirtual 152, 3) := by decide +kernel
theorem d_law_1355 : decode code 1355 = .ok (.aload_n 2, 1) := by decide +kernel
theorem d_law_1356 : decode code 1356 = .ok (.aload_n 0, 1) := by decide +kernel
theorem d_law_1357 : decode code 1357 = .ok (.iload 4, 2) := by decide +kernel
theorem d_law_1359 : decode code 1359 = .ok (.iconst 1, 1) := by decide +kernel
theorem d_law_1360 : decode code 1360 = .ok (.iadd, 1) := by decide +kernel
theorem d_law_1361 : decode code 1361 = .ok (.iaload, 1) := by decide +kernel
theorem d_law_1362 : decode code 1362 = .ok (.invokevirtual 155, 3) := by decide +kernel
theorem d_law_1365 : decode code 1365 = .ok (.if_icmp .eq 265, 3) := by decide +kernel
theorem d_law_1368 : decode code 1368 = .ok (.iconst 0, 1) := by decide +kernel
theorem d_law_1369 : decode code 1369 = .ok (.ireturn, 1) := by decide +kernel
theorem d_law_1370 : decode code 1370 = .ok (.aload_n 1, 1) := by decide +kernel
theorem d_law_1371 : decode code 1371 = .ok (.aload_n 0, 1) := by decide +kernel
theorem d_law_1372 : decode code 1372 = .ok (.iload 4, 2) := by decide +kernel
theorem d_law_1374 : decode code 1374 = .ok (.iconst 1, 1) := by decide +kernel
theorem d_law_1375 : decode code 1375 = .ok (.iadd, 1) := by decide +kernel
theorem d_law_1376 : decode code 1376 = .ok (.iaload, 1) := by decide +kernel
theorem d_law_1377 : decode code 1377 = .ok (.aload_n 0, 1) := by decide +kernel
theorem d_law_1378 : decode code 1378 = .ok (.iload 4, 2) := by decide +kernel
theorem d_law_1380 : decode code 1380 = .ok (.iconst 2, 1) := by decide +kernel
theorem d_law_1381 : decode code 1381 = .ok (.iadd, 1) := by decide +kernel
theorem d_law_1382 : decode code 1382 = .ok (.iaload, 1) := by decide +kernel
theorem d_law_1383 : decode code 1383 = .ok (.invokevirtual 156, 3) := by decide +kernel
theorem d_law_1386 : decode code 1386 = .ok (.aload_n 2, 1) := by decide +kernel
theorem d_law_1387 : decode code 1387 = .ok (.aload_n 0, 1) := by decide +kernel
theorem d_law_1388 : decode code 1388 = .ok (.iload 4, 2) := by decide +kernel
theorem d_law_1390 : decode code 1390 = .ok (.iconst 1, 1) := by decide +kernel
theorem d_law_1391 : decode code 1391 = .ok (.iadd, 1) := by decide +kernel
theorem d_law_1392 : decode code 1392 = .ok (.iaload, 1) := by decide +kernel
theorem d_law_1393 : decode code 1393 = .ok (.aload_n 0, 1) := by decide +kernel
theorem d_law_1394 : decode code 1394 = .ok (.iload 4, 2) := by decide +kernel
theorem d_law_1396 : decode code 1396 = .ok (.iconst 2, 1) := by decide +kernel
theorem d_law_1397 : decode code 1397 = .ok (.iadd, 1) := by decide +kernel
theorem d_law_1398 : decode code 1398 = .ok (.iaload, 1) := by decide +kernel
theorem d_law_1399 : decode code 1399 = .ok (.invokevirtual 159, 3) := by decide +kernel
theorem d_law_1402 : decode code 1402 = .ok (.if_icmp .eq 228, 3) := by decide +kernel
theorem d_law_1405 : decode code 1405 = .ok (.iconst 0, 1) := by decide +kernel
theorem d_law_1406 : decode code 1406 = .ok (.ireturn, 1) := by decide +kernel
theorem d_law_1407 : decode code 1407 = .ok (.aload_n 1, 1) := by decide +kernel
theorem d_law_1408 : decode code 1408 = .ok (.aload_n 0, 1) := by decide +kernel
theorem d_law_1409 : decode code 1409 = .ok (.iload 4, 2) := by decide +kernel
theorem d_law_1411 : decode code 1411 = .ok (.iconst 1, 1) := by decide +kernel
theorem d_law_1412 : decode code 1412 = .ok (.iadd, 1) := by decide +kernel
theorem d_law_1413 : decode code 1413 = .ok (.iaload, 1) := by decide +kernel
theorem d_law_1414 : decode code 1414 = .ok (.aload_n 0, 1) := by decide +kernel
theorem d_law_1415 : decode code 1415 = .ok (.iload 4, 2) := by decide +kernel
theorem d_law_1417 : decode code 1417 = .ok (.iconst 2, 1) := by decide +kernel
theorem d_law_1418 : decode code 1418 = .ok (.iadd, 1) := by decide +kernel
theorem d_law_1419 : decode code 1419 = .ok (.iaload, 1) := by decide +kernel
theorem d_law_1420 : decode code 1420 = .ok (.invokevirtual 160, 3) := by decide +kernel
theorem d_law_1423 : decode code 1423 = .ok (.aload_n 2, 1) := by decide +kernel
theorem d_law_1424 : decode code 1424 = .ok (.aload_n 0, 1) := by decide +kernel
theorem d_law_1425 : decode code 1425 = .ok (.iload 4, 2) := by decide +kernel
theorem d_law_1427 : decode code 1427 = .ok (.iconst 1, 1) := by decide +kernel
theorem d_law_1428 : decode code 1428 = .ok (.iadd, 1) := by decide +kernel
theorem d_law_1429 : decode code 1429 = .ok (.iaload, 1) := by decide +kernel
theorem d_law_1430 : decode code 1430 = .ok (.aload_n 0, 1) := by decide +kernel
theorem d_law_1431 : decode code 1431 = .ok (.iload 4, 2) := by decide +kernel
theorem d_law_1433 : decode code 1433 = .ok (.iconst 2, 1) := by decide +kernel
theorem d_law_1434 : decode code 1434 = .ok (.iadd, 1) := by decide +kernel
theorem d_law_1435 : decode code 1435 = .ok (.iaload, 1) := by decide +kernel
theorem d_law_1436 : decode code 1436 = .ok (.invokevirtual 163, 3) := by decide +kernel
theorem d_law_1439 : decode code 1439 = .ok (.if_icmp .eq 191, 3) := by decide +kernel
theorem d_law_1442 : decode code 1442 = .ok (.iconst 0, 1) := by decide +kernel
theorem d_law_1443 : decode code 1443 = .ok (.ireturn, 1) := by decide +kernel
theorem d_law_1444 : decode code 1444 = .ok (.aload_n 1, 1) := by decide +kernel
theorem d_law_1445 : decode code 1445 = .ok (.aload_n 0, 1) := by decide +kernel
theorem d_law_1446 : decode code 1446 = .ok (.iload 4, 2) := by decide +kernel
theorem d_law_1448 : decode code 1448 = .ok (.iconst 1, 1) := by decide +kernel
theorem d_law_1449 : decode code 1449 = .ok (.iadd, 1) := by decide +kernel
theorem d_law_1450 : decode code 1450 = .ok (.iaload, 1) := by decide +kernel
theorem d_law_1451 : decode code 1451 = .ok (.aload_n 0, 1) := by decide +kernel
theorem d_law_1452 : decode code 1452 = .ok (.iload 4, 2) := by decide +kernel
theorem d_law_1454 : decode code 1454 = .ok (.iconst 2, 1) := by decide +kernel
theorem d_law_1455 : decode code 1455 = .ok (.iadd, 1) := by decide +kernel
theorem d_law_1456 : decode code 1456 = .ok (.iaload, 1) := by decide +kernel
theorem d_law_1457 : decode code 1457 = .ok (.aload_n 0, 1) := by decide +kernel
theorem d_law_1458 : decode code 1458 = .ok (.iload 4, 2) := by decide +kernel
theorem d_law_1460 : decode code 1460 = .ok (.iconst 3, 1) := by decide +kernel
theorem d_law_1461 : decode code 1461 = .ok (.iadd, 1) := by decide +kernel
theorem d_law_1462 : decode code 1462 = .ok (.iaload, 1) := by decide +kernel
theorem d_law_1463 : decode code 1463 = .ok (.invokevirtual 164, 3) := by decide +kernel
theorem d_law_1466 : decode code 1466 = .ok (.aload_n 2, 1) := by decide +kernel
theorem d_law_1467 : decode code 1467 = .ok (.aload_n 0, 1) := by decide +kernel
theorem d_law_1468 : decode code 1468 = .ok (.iload 4, 2) := by decide +kernel
theorem d_law_1470 : decode code 1470 = .ok (.iconst 1, 1) := by decide +kernel
theorem d_law_1471 : decode code 1471 = .ok (.iadd, 1) := by decide +kernel
theorem d_law_1472 : decode code 1472 = .ok (.iaload, 1) := by decide +kernel
theorem d_law_1473 : decode code 1473 = .ok (.aload_n 0, 1) := by decide +kernel
theorem d_law_1474 : decode code 1474 = .ok (.iload 4, 2) := by decide +kernel
theorem d_law_1476 : decode code 1476 = .ok (.iconst 2, 1) := by decide +kernel
theorem d_law_1477 : decode code 1477 = .ok (.iadd, 1) := by decide +kernel
theorem d_law_1478 : decode code 1478 = .ok (.iaload, 1) := by decide +kernel
theorem d_law_1479 : decode code 1479 = .ok (.aload_n 0, 1) := by decide +kernel
theorem d_law_1480 : decode code 1480 = .ok (.iload 4, 2) := by decide +kernel
theorem d_law_1482 : decode code 1482 = .ok (.iconst 3, 1) := by decide +kernel
theorem d_law_1483 : decode code 1483 = .ok (.iadd, 1) := by decide +kernel
theorem d_law_1484 : decode code 1484 = .ok (.iaload, 1) := by decide +kernel
theorem d_law_1485 : decode code 1485 = .ok (.invokevirtual 167, 3) := by decide +kernel
theorem d_law_1488 : decode code 1488 = .ok (.if_icmp .eq 142, 3) := by decide +kernel
theorem d_law_1491 : decode code 1491 = .ok (.iconst 0, 1) := by decide +kernel
theorem d_law_1492 : decode code 1492 = .ok (.ireturn, 1) := by decide +kernel
theorem d_law_1493 : decode code 1493 = .ok (.aload_n 1, 1) := by decide +kernel
theorem d_law_1494 : decode code 1494 = .ok (.aload_n 0, 1) := by decide +kernel
theorem d_law_1495 : decode code 1495 = .ok (.iload 4, 2) := by decide +kernel
theorem d_law_1497 : decode code 1497 = .ok (.iconst 1, 1) := by decide +kernel
theorem d_law_1498 : decode code 1498 = .ok (.iadd, 1) := by decide +kernel
theorem d_law_1499 : decode code 1499 = .ok (.iaload, 1) := by decide +kernel
theorem d_law_1500 : decode code 1500 = .ok (.aload_n 0, 1) := by decide +kernel
theorem d_law_1501 : decode code 1501 = .ok (.iload 4, 2) := by decide +kernel
theorem d_law_1503 : decode code 1503 = .ok (.iconst 2, 1) := by decide +kernel
theorem d_law_1504 : decode code 1504 = .ok (.iadd, 1) := by decide +kernel
theorem d_law_1505 : decode code 1505 = .ok (.iaload, 1) := by decide +kernel
theorem d_law_1506 : decode code 1506 = .ok (.invokevirtual 168, 3) := by decide +kernel
theorem d_law_1509 : decode code 1509 = .ok (.aload_n 2, 1) := by decide +kernel
theorem d_law_1510 : decode code 1510 = .ok (.aload_n 0, 1) := by decide +kernel
theorem d_law_1511 : decode code 1511 = .ok (.iload 4, 2) := by decide +kernel
theorem d_law_1513 : decode code 1513 = .ok (.iconst 1, 1) := by decide +kernel
theorem d_law_1514 : decode code 1514 = .ok (.iadd, 1) := by decide +kernel
theorem d_law_1515 : decode code 1515 = .ok (.iaload, 1) := by decide +kernel
theorem d_law_1516 : decode code 1516 = .ok (.aload_n 0, 1) := by decide +kernel
theorem d_law_1517 : decode code 1517 = .ok (.iload 4, 2) := by decide +kernel
theorem d_law_1519 : decode code 1519 = .ok (.iconst 2, 1) := by decide +kernel
theorem d_law_1520 : decode code 1520 = .ok (.iadd, 1) := by decide +kernel
theorem d_law_1521 : decode code 1521 = .ok (.iaload, 1) := by decide +kernel
theorem d_law_1522 : decode code 1522 = .ok (.invokevirtual 171, 3) := by decide +kernel
theorem d_law_1525 : decode code 1525 = .ok (.if_icmp .eq 105, 3) := by decide +kernel
theorem d_law_1528 : decode code 1528 = .ok (.iconst 0, 1) := by decide +kernel
theorem d_law_1529 : decode code 1529 = .ok (.ireturn, 1) := by decide +kernel
theorem d_law_1530 : decode code 1530 = .ok (.aload_n 1, 1) := by decide +kernel
theorem d_law_1531 : decode code 1531 = .ok (.aload_n 0, 1) := by decide +kernel
theorem d_law_1532 : decode code 1532 = .ok (.iload 4, 2) := by decide +kernel
theorem d_law_1534 : decode code 1534 = .ok (.iconst 1, 1) := by decide +kernel
theorem d_law_1535 : decode code 1535 = .ok (.iadd, 1) := by decide +kernel
theorem d_law_1536 : decode code 1536 = .ok (.iaload, 1) := by decide +kernel
theorem d_law_1537 : decode code 1537 = .ok (.invokevirtual 172, 3) := by decide +kernel
theorem d_law_1540 : decode code 1540 = .ok (.aload_n 2, 1) := by decide +kernel
theorem d_law_1541 : decode code 1541 = .ok (.aload_n 0, 1) := by decide +kernel
theorem d_law_1542 : decode code 1542 = .ok (.iload 4, 2) := by decide +kernel
theorem d_law_1544 : decode code 1544 = .ok (.iconst 1, 1) := by decide +kernel
theorem d_law_1545 : decode code 1545 = .ok (.iadd, 1) := by decide +kernel
theorem d_law_1546 : decode code 1546 = .ok (.iaload, 1) := by decide +kernel
theorem d_law_1547 : decode code 1547 = .ok (.invokevirtual 175, 3) := by decide +kernel
theorem d_law_1550 : decode code 1550 = .ok (.if_icmp .eq 80, 3) := by decide +kernel
theorem d_law_1553 : decode code 1553 = .ok (.iconst 0, 1) := by decide +kernel
theorem d_law_1554 : decode code 1554 = .ok (.ireturn, 1) := by decide +kernel
theorem d_law_1555 : decode code 1555 = .ok (.aload_n 1, 1) := by decide +kernel
theorem d_law_1556 : decode code 1556 = .ok (.aload_n 0, 1) := by decide +kernel
theorem d_law_1557 : decode code 1557 = .ok (.iload 4, 2) := by decide +kernel
theorem d_law_1559 : decode code 1559 = .ok (.iconst 1, 1) := by decide +kernel
theorem d_law_1560 : decode code 1560 = .ok (.iadd, 1) := by decide +kernel
theorem d_law_1561 : decode code 1561 = .ok (.iaload, 1) := by decide +kernel
theorem d_law_1562 : decode code 1562 = .ok (.aload_n 0, 1) := by decide +kernel
theorem d_law_1563 : decode code 1563 = .ok (.iload 4, 2) := by decide +kernel
theorem d_law_1565 : decode code 1565 = .ok (.iconst 2, 1) := by decide +kernel
theorem d_law_1566 : decode code 1566 = .ok (.iadd, 1) := by decide +kernel
theorem d_law_1567 : decode code 1567 = .ok (.iaload, 1) := by decide +kernel
theorem d_law_1568 : decode code 1568 = .ok (.invokevirtual 176, 3) := by decide +kernel
theorem d_law_1571 : decode code 1571 = .ok (.aload_n 2, 1) := by decide +kernel
theorem d_law_1572 : decode code 1572 = .ok (.aload_n 0, 1) := by decide +kernel
theorem d_law_1573 : decode code 1573 = .ok (.iload 4, 2) := by decide +kernel
theorem d_law_1575 : decode code 1575 = .ok (.iconst 1, 1) := by decide +kernel
theorem d_law_1576 : decode code 1576 = .ok (.iadd, 1) := by decide +kernel
theorem d_law_1577 : decode code 1577 = .ok (.iaload, 1) := by decide +kernel
theorem d_law_1578 : decode code 1578 = .ok (.aload_n 0, 1) := by decide +kernel
theorem d_law_1579 : decode code 1579 = .ok (.iload 4, 2) := by decide +kernel
theorem d_law_1581 : decode code 1581 = .ok (.iconst 2, 1) := by decide +kernel
theorem d_law_1582 : decode code 1582 = .ok (.iadd, 1) := by decide +kernel
theorem d_law_1583 : decode code 1583 = .ok (.iaload, 1) := by decide +kernel
theorem d_law_1584 : decode code 1584 = .ok (.invokevirtual 179, 3) := by decide +kernel
theorem d_law_1587 : decode code 1587 = .ok (.if_icmp .eq 43, 3) := by decide +kernel
theorem d_law_1590 : decode code 1590 = .ok (.iconst 0, 1) := by decide +kernel
theorem d_law_1591 : decode code 1591 = .ok (.ireturn, 1) := by decide +kernel
theorem d_law_1592 : decode code 1592 = .ok (.aload_n 1, 1) := by decide +kernel
theorem d_law_1593 : decode code 1593 = .ok (.invokevirtual 180, 3) := by decide +kernel
theorem d_law_1596 : decode code 1596 = .ok (.aload_n 2, 1) := by decide +kernel
theorem d_law_1597 : decode code 1597 = .ok (.invokevirtual 183, 3) := by decide +kernel
theorem d_law_1600 : decode code 1600 = .ok (.if_icmp .eq 30, 3) := by decide +kernel
theorem d_law_1603 : decode code 1603 = .ok (.iconst 0, 1) := by decide +kernel
theorem d_law_1604 : decode code 1604 = .ok (.ireturn, 1) := by decide +kernel
theorem d_law_1605 : decode code 1605 = .ok (.aload_n 1, 1) := by decide +kernel
theorem d_law_1606 : decode code 1606 = .ok (.aload_n 0, 1) := by decide +kernel
theorem d_law_1607 : decode code 1607 = .ok (.iload 4, 2) := by decide +kernel
theorem d_law_1609 : decode code 1609 = .ok (.iconst 1, 1) := by decide +kernel
theorem d_law_1610 : decode code 1610 = .ok (.iadd, 1) := by decide +kernel
theorem d_law_1611 : decode code 1611 = .ok (.iaload, 1) := by decide +kernel
theorem d_law_1612 : decode code 1612 = .ok (.invokevirtual 184, 3) := by decide +kernel
theorem d_law_1615 : decode code 1615 = .ok (.aload_n 2, 1) := by decide +kernel
theorem d_law_1616 : decode code 1616 = .ok (.aload_n 0, 1) := by decide +kernel
theorem d_law_1617 : decode code 1617 = .ok (.iload 4, 2) := by decide +kernel
theorem d_law_1619 : decode code 1619 = .ok (.iconst 1, 1) := by decide +kernel
theorem d_law_1620 : decode code 1620 = .ok (.iadd, 1) := by decide +kernel
theorem d_law_1621 : decode code 1621 = .ok (.iaload, 1) := by decide +kernel
theorem d_law_1622 : decode code 1622 = .ok (.invokevirtual 187, 3) := by decide +kernel
theorem d_law_1625 : decode code 1625 = .ok (.if_icmp .eq 5, 3) := by decide +kernel
theorem d_law_1628 : decode code 1628 = .ok (.iconst 0, 1) := by decide +kernel
theorem d_law_1629 : decode code 1629 = .ok (.ireturn, 1) := by decide +kernel
theorem d_law_1630 : decode code 1630 = .ok (.iinc 4 6, 3) := by decide +kernel
theorem d_law_1633 : decode code 1633 = .ok (.goto (-1610), 3) := by decide +kernel
theorem d_law_1636 : decode code 1636 = .ok (.iconst 1, 1) := by decide +kernel
theorem d_law_1637 : decode code 1637 = .ok (.ireturn, 1) := by decide +kernel
