theorem eL_law_1274 : decode code 1274 = .ok (.iload_n 3, 1) := by decide +kernel
theorem eL_law_1275 : decode code 1275 = .ok (.iconst 1, 1) := by decide +kernel
theorem eL_law_1276 : decode code 1276 = .ok (.iadd, 1) := by decide +kernel
theorem eL_law_1277 : decode code 1277 = .ok (.iaload, 1) := by decide +kernel
theorem eL_law_1278 : decode code 1278 = .ok (.aload_n 0, 1) := by decide +kernel
theorem eL_law_1279 : decode code 1279 = .ok (.iload_n 3, 1) := by decide +kernel
theorem eL_law_1280 : decode code 1280 = .ok (.iconst 2, 1) := by decide +kernel
theorem eL_law_1281 : decode code 1281 = .ok (.iadd, 1) := by decide +kernel
theorem eL_law_1282 : decode code 1282 = .ok (.iaload, 1) := by decide +kernel
theorem eL_law_1283 : decode code 1283 = .ok (.aload_n 0, 1) := by decide +kernel
theorem eL_law_1284 : decode code 1284 = .ok (.iload_n 3, 1) := by decide +kernel
theorem eL_law_1285 : decode code 1285 = .ok (.iconst 3, 1) := by decide +kernel
theorem eL_law_1286 : decode code 1286 = .ok (.iadd, 1) := by decide +kernel
theorem eL_law_1287 : decode code 1287 = .ok (.iaload, 1) := by decide +kernel
theorem eL_law_1288 : decode code 1288 = .ok (.invokevirtual 182, 3) := by decide +kernel
theorem eL_law_1291 : decode code 1291 = .ok (.if_icmp .eq 181, 3) := by decide +kernel
theorem eL_law_1294 : decode code 1294 = .ok (.iconst 0, 1) := by decide +kernel
theorem eL_law_1295 : decode code 1295 = .ok (.ireturn, 1) := by decide +kernel
theorem eL_law_1296 : decode code 1296 = .ok (.aload_n 1, 1) := by decide +kernel
theorem eL_law_1297 : decode code 1297 = .ok (.aload_n 0, 1) := by decide +kernel
theorem eL_law_1298 : decode code 1298 = .ok (.iload_n 3, 1) := by decide +kernel
theorem eL_law_1299 : decode code 1299 = .ok (.iconst 1, 1) := by decide +kernel
theorem eL_law_1300 : decode code 1300 = .ok (.iadd, 1) := by decide +kernel
theorem eL_law_1301 : decode code 1301 = .ok (.iaload, 1) := by decide +kernel
theorem eL_law_1302 : decode code 1302 = .ok (.aload_n 0, 1) := by decide +kernel
theorem eL_law_1303 : decode code 1303 = .ok (.iload_n 3, 1) := by decide +kernel
theorem eL_law_1304 : decode code 1304 = .ok (.iconst 2, 1) := by decide +kernel
theorem eL_law_1305 : decode code 1305 = .ok (.iadd, 1) := by decide +kernel
theorem eL_law_1306 : decode code 1306 = .ok (.iaload, 1) := by decide +kernel
theorem eL_law_1307 : decode code 1307 = .ok (.aload_n 0, 1) := by decide +kernel
theorem eL_law_1308 : decode code 1308 = .ok (.iload_n 3, 1) := by decide +kernel
theorem eL_law_1309 : decode code 1309 = .ok (.iconst 3, 1) := by decide +kernel
theorem eL_law_1310 : decode code 1310 = .ok (.iadd, 1) := by decide +kernel
theorem eL_law_1311 : decode code 1311 = .ok (.iaload, 1) := by decide +kernel
theorem eL_law_1312 : decode code 1312 = .ok (.i2l, 1) := by decide +kernel
theorem eL_law_1313 : decode code 1313 = .ok (.bipush 32, 2) := by decide +kernel
theorem eL_law_1315 : decode code 1315 = .ok (.lshl, 1) := by decide +kernel
theorem eL_law_1316 : decode code 1316 = .ok (.aload_n 0, 1) := by decide +kernel
theorem eL_law_1317 : decode code 1317 = .ok (.iload_n 3, 1) := by decide +kernel
theorem eL_law_1318 : decode code 1318 = .ok (.iconst 4, 1) := by decide +kernel
theorem eL_law_1319 : decode code 1319 = .ok (.iadd, 1) := by decide +kernel
theorem eL_law_1320 : decode code 1320 = .ok (.iaload, 1) := by decide +kernel
theorem eL_law_1321 : decode code 1321 = .ok (.i2l, 1) := by decide +kernel
theorem eL_law_1322 : decode code 1322 = .ok (.ldc2_w 183, 3) := by decide +kernel
theorem eL_law_1325 : decode code 1325 = .ok (.land, 1) := by decide +kernel
theorem eL_law_1326 : decode code 1326 = .ok (.lor, 1) := by decide +kernel
theorem eL_law_1327 : decode code 1327 = .ok (.invokevirtual 185, 3) := by decide +kernel
theorem eL_law_1330 : decode code 1330 = .ok (.aload_n 2, 1) := by decide +kernel
theorem eL_law_1331 : decode code 1331 = .ok (.aload_n 0, 1) := by decide +kernel
theorem eL_law_1332 : decode code 1332 = .ok (.iload_n 3, 1) := by decide +kernel
theorem eL_law_1333 : decode code 1333 = .ok (.iconst 1, 1) := by decide +kernel
theorem eL_law_1334 : decode code 1334 = .ok (.iadd, 1) := by decide +kernel
theorem eL_law_1335 : decode code 1335 = .ok (.iaload, 1) := by decide +kernel
theorem eL_law_1336 : decode code 1336 = .ok (.aload_n 0, 1) := by decide +kernel
theorem eL_law_1337 : decode code 1337 = .ok (.iload_n 3, 1) := by decide +kernel
theorem eL_law_1338 : decode code 1338 = .ok (.iconst 2, 1) := by decide +kernel
theorem eL_law_1339 : decode code 1339 = .ok (.iadd, 1) := by decide +kernel
theorem eL_law_1340 : decode code 1340 = .ok (.iaload, 1) := by decide +kernel
theorem eL_law_1341 : decode code 1341 = .ok (.aload_n 0, 1) := by decide +kernel
theorem eL_law_1342 : decode code 1342 = .ok (.iload_n 3, 1) := by decide +kernel
theorem eL_law_1343 : decode code 1343 = .ok (.iconst 3, 1) := by decide +kernel
theorem eL_law_1344 : decode code 1344 = .ok (.iadd, 1) := by decide +kernel
theorem eL_law_1345 : decode code 1345 = .ok (.iaload, 1) := by decide +kernel
theorem eL_law_1346 : decode code 1346 = .ok (.i2l, 1) := by decide +kernel
theorem eL_law_1347 : decode code 1347 = .ok (.bipush 32, 2) := by decide +kernel
theorem eL_law_1349 : decode code 1349 = .ok (.lshl, 1) := by decide +kernel
theorem eL_law_1350 : decode code 1350 = .ok (.aload_n 0, 1) := by decide +kernel
theorem eL_law_1351 : decode code 1351 = .ok (.iload_n 3, 1) := by decide +kernel
theorem eL_law_1352 : decode code 1352 = .ok (.iconst 4, 1) := by decide +kernel
theorem eL_law_1353 : decode code 1353 = .ok (.iadd, 1) := by decide +kernel
theorem eL_law_1354 : decode code 1354 = .ok (.iaload, 1) := by decide +kernel
theorem eL_law_1355 : decode code 1355 = .ok (.i2l, 1) := by decide +kernel
theorem eL_law_1356 : decode code 1356 = .ok (.ldc2_w 183, 3) := by decide +kernel
theorem eL_law_1359 : decode code 1359 = .ok (.land, 1) := by decide +kernel
theorem eL_law_1360 : decode code 1360 = .ok (.lor, 1) := by decide +kernel
theorem eL_law_1361 : decode code 1361 = .ok (.invokevirtual 189, 3) := by decide +kernel
theorem eL_law_1364 : decode code 1364 = .ok (.lcmp, 1) := by decide +kernel
theorem eL_law_1365 : decode code 1365 = .ok (.ifCond .eq 107, 3) := by decide +kernel
theorem eL_law_1368 : decode code 1368 = .ok (.iconst 0, 1) := by decide +kernel
theorem eL_law_1369 : decode code 1369 = .ok (.ireturn, 1) := by decide +kernel
theorem eL_law_1370 : decode code 1370 = .ok (.aload_n 1, 1) := by decide +kernel
theorem eL_law_1371 : decode code 1371 = .ok (.aload_n 0, 1) := by decide +kernel
theorem eL_law_1372 : decode code 1372 = .ok (.iload_n 3, 1) := by decide +kernel
theorem eL_law_1373 : decode code 1373 = .ok (.iconst 1, 1) := by decide +kernel
theorem eL_law_1374 : decode code 1374 = .ok (.iadd, 1) := by decide +kernel
theorem eL_law_1375 : decode code 1375 = .ok (.iaload, 1) := by decide +kernel
theorem eL_law_1376 : decode code 1376 = .ok (.aload_n 0, 1) := by decide +kernel
theorem eL_law_1377 : decode code 1377 = .ok (.iload_n 3, 1) := by decide +kernel
theorem eL_law_1378 : decode code 1378 = .ok (.iconst 2, 1) := by decide +kernel
theorem eL_law_1379 : decode code 1379 = .ok (.iadd, 1) := by decide +kernel
theorem eL_law_1380 : decode code 1380 = .ok (.iaload, 1) := by decide +kernel
theorem eL_law_1381 : decode code 1381 = .ok (.invokevirtual 190, 3) := by decide +kernel
theorem eL_law_1384 : decode code 1384 = .ok (.aload_n 2, 1) := by decide +kernel
theorem eL_law_1385 : decode code 1385 = .ok (.aload_n 0, 1) := by decide +kernel
theorem eL_law_1386 : decode code 1386 = .ok (.iload_n 3, 1) := by decide +kernel
theorem eL_law_1387 : decode code 1387 = .ok (.iconst 1, 1) := by decide +kernel
theorem eL_law_1388 : decode code 1388 = .ok (.iadd, 1) := by decide +kernel
theorem eL_law_1389 : decode code 1389 = .ok (.iaload, 1) := by decide +kernel
theorem eL_law_1390 : decode code 1390 = .ok (.aload_n 0, 1) := by decide +kernel
theorem eL_law_1391 : decode code 1391 = .ok (.iload_n 3, 1) := by decide +kernel
theorem eL_law_1392 : decode code 1392 = .ok (.iconst 2, 1) := by decide +kernel
theorem eL_law_1393 : decode code 1393 = .ok (.iadd, 1) := by decide +kernel
theorem eL_law_1394 : decode code 1394 = .ok (.iaload, 1) := by decide +kernel
theorem eL_law_1395 : decode code 1395 = .ok (.invokevirtual 193, 3) := by decide +kernel
theorem eL_law_1398 : decode code 1398 = .ok (.if_icmp .eq 74, 3) := by decide +kernel
theorem eL_law_1401 : decode code 1401 = .ok (.iconst 0, 1) := by decide +kernel
theorem eL_law_1402 : decode code 1402 = .ok (.ireturn, 1) := by decide +kernel
theorem eL_law_1403 : decode code 1403 = .ok (.aload_n 1, 1) := by decide +kernel
theorem eL_law_1404 : decode code 1404 = .ok (.aload_n 0, 1) := by decide +kernel
theorem eL_law_1405 : decode code 1405 = .ok (.iload_n 3, 1) := by decide +kernel
theorem eL_law_1406 : decode code 1406 = .ok (.iconst 1, 1) := by decide +kernel
theorem eL_law_1407 : decode code 1407 = .ok (.iadd, 1) := by decide +kernel
theorem eL_law_1408 : decode code 1408 = .ok (.iaload, 1) := by decide +kernel
theorem eL_law_1409 : decode code 1409 = .ok (.invokevirtual 194, 3) := by decide +kernel
theorem eL_law_1412 : decode code 1412 = .ok (.aload_n 2, 1) := by decide +kernel
theorem eL_law_1413 : decode code 1413 = .ok (.aload_n 0, 1) := by decide +kernel
theorem eL_law_1414 : decode code 1414 = .ok (.iload_n 3, 1) := by decide +kernel
theorem eL_law_1415 : decode code 1415 = .ok (.iconst 1, 1) := by decide +kernel
theorem eL_law_1416 : decode code 1416 = .ok (.iadd, 1) := by decide +kernel
theorem eL_law_1417 : decode code 1417 = .ok (.iaload, 1) := by decide +kernel
theorem eL_law_1418 : decode code 1418 = .ok (.invokevirtual 197, 3) := by decide +kernel
theorem eL_law_1421 : decode code 1421 = .ok (.if_icmp .eq 51, 3) := by decide +kernel
theorem eL_law_1424 : decode code 1424 = .ok (.iconst 0, 1) := by decide +kernel
theorem eL_law_1425 : decode code 1425 = .ok (.ireturn, 1) := by decide +kernel
theorem eL_law_1426 : decode code 1426 = .ok (.aload_n 1, 1) := by decide +kernel
theorem eL_law_1427 : decode code 1427 = .ok (.aload_n 0, 1) := by decide +kernel
theorem eL_law_1428 : decode code 1428 = .ok (.iload_n 3, 1) := by decide +kernel
theorem eL_law_1429 : decode code 1429 = .ok (.iconst 1, 1) := by decide +kernel
theorem eL_law_1430 : decode code 1430 = .ok (.iadd, 1) := by decide +kernel
theorem eL_law_1431 : decode code 1431 = .ok (.iaload, 1) := by decide +kernel
theorem eL_law_1432 : decode code 1432 = .ok (.invokevirtual 198, 3) := by decide +kernel
theorem eL_law_1435 : decode code 1435 = .ok (.aload_n 2, 1) := by decide +kernel
theorem eL_law_1436 : decode code 1436 = .ok (.aload_n 0, 1) := by decide +kernel
theorem eL_law_1437 : decode code 1437 = .ok (.iload_n 3, 1) := by decide +kernel
theorem eL_law_1438 : decode code 1438 = .ok (.iconst 1, 1) := by decide +kernel
theorem eL_law_1439 : decode code 1439 = .ok (.iadd, 1) := by decide +kernel
theorem eL_law_1440 : decode code 1440 = .ok (.iaload, 1) := by decide +kernel
theorem eL_law_1441 : decode code 1441 = .ok (.invokevirtual 201, 3) := by decide +kernel
theorem eL_law_1444 : decode code 1444 = .ok (.if_icmp .eq 28, 3) := by decide +kernel
theorem eL_law_1447 : decode code 1447 = .ok (.iconst 0, 1) := by decide +kernel
theorem eL_law_1448 : decode code 1448 = .ok (.ireturn, 1) := by decide +kernel
theorem eL_law_1449 : decode code 1449 = .ok (.aload_n 1, 1) := by decide +kernel
theorem eL_law_1450 : decode code 1450 = .ok (.aload_n 0, 1) := by decide +kernel
theorem eL_law_1451 : decode code 1451 = .ok (.iload_n 3, 1) := by decide +kernel
theorem eL_law_1452 : decode code 1452 = .ok (.iconst 1, 1) := by decide +kernel
theorem eL_law_1453 : decode code 1453 = .ok (.iadd, 1) := by decide +kernel
theorem eL_law_1454 : decode code 1454 = .ok (.iaload, 1) := by decide +kernel
theorem eL_law_1455 : decode code 1455 = .ok (.invokevirtual 202, 3) := by decide +kernel
theorem eL_law_1458 : decode code 1458 = .ok (.aload_n 2, 1) := by decide +kernel
theorem eL_law_1459 : decode code 1459 = .ok (.aload_n 0, 1) := by decide +kernel
theorem eL_law_1460 : decode code 1460 = .ok (.iload_n 3, 1) := by decide +kernel
theorem eL_law_1461 : decode code 1461 = .ok (.iconst 1, 1) := by decide +kernel
theorem eL_law_1462 : decode code 1462 = .ok (.iadd, 1) := by decide +kernel
theorem eL_law_1463 : decode code 1463 = .ok (.iaload, 1) := by decide +kernel
theorem eL_law_1464 : decode code 1464 = .ok (.invokevirtual 205, 3) := by decide +kernel
theorem eL_law_1467 : decode code 1467 = .ok (.if_icmp .eq 5, 3) := by decide +kernel
theorem eL_law_1470 : decode code 1470 = .ok (.iconst 0, 1) := by decide +kernel
theorem eL_law_1471 : decode code 1471 = .ok (.ireturn, 1) := by decide +kernel
theorem eL_law_1472 : decode code 1472 = .ok (.iinc 3 6, 3) := by decide +kernel
theorem eL_law_1475 : decode code 1475 = .ok (.goto (-1457), 3) := by decide +kernel
theorem eL_law_1478 : decode code 1478 = .ok (.iconst 1, 1) := by decide +kernel
theorem eL_law_1479 : decode code 1479 = .ok (.ireturn, 1) := by decide +kernel
