theorem eL_law_1275 : decode (mB ML_law) 1275 = .ok (.iconst 1, 1) := by decide +kernel
theorem eL_law_1276 : decode (mB ML_law) 1276 = .ok (.iadd, 1) := by decide +kernel
theorem eL_law_1277 : decode (mB ML_law) 1277 = .ok (.iaload, 1) := by decide +kernel
theorem eL_law_1278 : decode (mB ML_law) 1278 = .ok (.aload_n 0, 1) := by decide +kernel
theorem eL_law_1279 : decode (mB ML_law) 1279 = .ok (.iload_n 3, 1) := by decide +kernel
theorem eL_law_1280 : decode (mB ML_law) 1280 = .ok (.iconst 2, 1) := by decide +kernel
theorem eL_law_1281 : decode (mB ML_law) 1281 = .ok (.iadd, 1) := by decide +kernel
theorem eL_law_1282 : decode (mB ML_law) 1282 = .ok (.iaload, 1) := by decide +kernel
theorem eL_law_1283 : decode (mB ML_law) 1283 = .ok (.aload_n 0, 1) := by decide +kernel
theorem eL_law_1284 : decode (mB ML_law) 1284 = .ok (.iload_n 3, 1) := by decide +kernel
theorem eL_law_1285 : decode (mB ML_law) 1285 = .ok (.iconst 3, 1) := by decide +kernel
theorem eL_law_1286 : decode (mB ML_law) 1286 = .ok (.iadd, 1) := by decide +kernel
theorem eL_law_1287 : decode (mB ML_law) 1287 = .ok (.iaload, 1) := by decide +kernel
theorem eL_law_1288 : decode (mB ML_law) 1288 = .ok (.invokevirtual 182, 3) := by decide +kernel
theorem eL_law_1291 : decode (mB ML_law) 1291 = .ok (.if_icmp .eq 181, 3) := by decide +kernel
theorem eL_law_1294 : decode (mB ML_law) 1294 = .ok (.iconst 0, 1) := by decide +kernel
theorem eL_law_1295 : decode (mB ML_law) 1295 = .ok (.ireturn, 1) := by decide +kernel
theorem eL_law_1296 : decode (mB ML_law) 1296 = .ok (.aload_n 1, 1) := by decide +kernel
theorem eL_law_1297 : decode (mB ML_law) 1297 = .ok (.aload_n 0, 1) := by decide +kernel
theorem eL_law_1298 : decode (mB ML_law) 1298 = .ok (.iload_n 3, 1) := by decide +kernel
theorem eL_law_1299 : decode (mB ML_law) 1299 = .ok (.iconst 1, 1) := by decide +kernel
theorem eL_law_1300 : decode (mB ML_law) 1300 = .ok (.iadd, 1) := by decide +kernel
theorem eL_law_1301 : decode (mB ML_law) 1301 = .ok (.iaload, 1) := by decide +kernel
theorem eL_law_1302 : decode (mB ML_law) 1302 = .ok (.aload_n 0, 1) := by decide +kernel
theorem eL_law_1303 : decode (mB ML_law) 1303 = .ok (.iload_n 3, 1) := by decide +kernel
theorem eL_law_1304 : decode (mB ML_law) 1304 = .ok (.iconst 2, 1) := by decide +kernel
theorem eL_law_1305 : decode (mB ML_law) 1305 = .ok (.iadd, 1) := by decide +kernel
theorem eL_law_1306 : decode (mB ML_law) 1306 = .ok (.iaload, 1) := by decide +kernel
theorem eL_law_1307 : decode (mB ML_law) 1307 = .ok (.aload_n 0, 1) := by decide +kernel
theorem eL_law_1308 : decode (mB ML_law) 1308 = .ok (.iload_n 3, 1) := by decide +kernel
theorem eL_law_1309 : decode (mB ML_law) 1309 = .ok (.iconst 3, 1) := by decide +kernel
theorem eL_law_1310 : decode (mB ML_law) 1310 = .ok (.iadd, 1) := by decide +kernel
theorem eL_law_1311 : decode (mB ML_law) 1311 = .ok (.iaload, 1) := by decide +kernel
theorem eL_law_1312 : decode (mB ML_law) 1312 = .ok (.i2l, 1) := by decide +kernel
theorem eL_law_1313 : decode (mB ML_law) 1313 = .ok (.bipush 32, 2) := by decide +kernel
theorem eL_law_1315 : decode (mB ML_law) 1315 = .ok (.lshl, 1) := by decide +kernel
theorem eL_law_1316 : decode (mB ML_law) 1316 = .ok (.aload_n 0, 1) := by decide +kernel
theorem eL_law_1317 : decode (mB ML_law) 1317 = .ok (.iload_n 3, 1) := by decide +kernel
theorem eL_law_1318 : decode (mB ML_law) 1318 = .ok (.iconst 4, 1) := by decide +kernel
theorem eL_law_1319 : decode (mB ML_law) 1319 = .ok (.iadd, 1) := by decide +kernel
theorem eL_law_1320 : decode (mB ML_law) 1320 = .ok (.iaload, 1) := by decide +kernel
theorem eL_law_1321 : decode (mB ML_law) 1321 = .ok (.i2l, 1) := by decide +kernel
theorem eL_law_1322 : decode (mB ML_law) 1322 = .ok (.ldc2_w 183, 3) := by decide +kernel
theorem eL_law_1325 : decode (mB ML_law) 1325 = .ok (.land, 1) := by decide +kernel
theorem eL_law_1326 : decode (mB ML_law) 1326 = .ok (.lor, 1) := by decide +kernel
theorem eL_law_1327 : decode (mB ML_law) 1327 = .ok (.invokevirtual 185, 3) := by decide +kernel
theorem eL_law_1330 : decode (mB ML_law) 1330 = .ok (.aload_n 2, 1) := by decide +kernel
theorem eL_law_1331 : decode (mB ML_law) 1331 = .ok (.aload_n 0, 1) := by decide +kernel
theorem eL_law_1332 : decode (mB ML_law) 1332 = .ok (.iload_n 3, 1) := by decide +kernel
theorem eL_law_1333 : decode (mB ML_law) 1333 = .ok (.iconst 1, 1) := by decide +kernel
theorem eL_law_1334 : decode (mB ML_law) 1334 = .ok (.iadd, 1) := by decide +kernel
theorem eL_law_1335 : decode (mB ML_law) 1335 = .ok (.iaload, 1) := by decide +kernel
theorem eL_law_1336 : decode (mB ML_law) 1336 = .ok (.aload_n 0, 1) := by decide +kernel
theorem eL_law_1337 : decode (mB ML_law) 1337 = .ok (.iload_n 3, 1) := by decide +kernel
theorem eL_law_1338 : decode (mB ML_law) 1338 = .ok (.iconst 2, 1) := by decide +kernel
theorem eL_law_1339 : decode (mB ML_law) 1339 = .ok (.iadd, 1) := by decide +kernel
theorem eL_law_1340 : decode (mB ML_law) 1340 = .ok (.iaload, 1) := by decide +kernel
theorem eL_law_1341 : decode (mB ML_law) 1341 = .ok (.aload_n 0, 1) := by decide +kernel
theorem eL_law_1342 : decode (mB ML_law) 1342 = .ok (.iload_n 3, 1) := by decide +kernel
theorem eL_law_1343 : decode (mB ML_law) 1343 = .ok (.iconst 3, 1) := by decide +kernel
theorem eL_law_1344 : decode (mB ML_law) 1344 = .ok (.iadd, 1) := by decide +kernel
theorem eL_law_1345 : decode (mB ML_law) 1345 = .ok (.iaload, 1) := by decide +kernel
theorem eL_law_1346 : decode (mB ML_law) 1346 = .ok (.i2l, 1) := by decide +kernel
theorem eL_law_1347 : decode (mB ML_law) 1347 = .ok (.bipush 32, 2) := by decide +kernel
theorem eL_law_1349 : decode (mB ML_law) 1349 = .ok (.lshl, 1) := by decide +kernel
theorem eL_law_1350 : decode (mB ML_law) 1350 = .ok (.aload_n 0, 1) := by decide +kernel
theorem eL_law_1351 : decode (mB ML_law) 1351 = .ok (.iload_n 3, 1) := by decide +kernel
theorem eL_law_1352 : decode (mB ML_law) 1352 = .ok (.iconst 4, 1) := by decide +kernel
theorem eL_law_1353 : decode (mB ML_law) 1353 = .ok (.iadd, 1) := by decide +kernel
theorem eL_law_1354 : decode (mB ML_law) 1354 = .ok (.iaload, 1) := by decide +kernel
theorem eL_law_1355 : decode (mB ML_law) 1355 = .ok (.i2l, 1) := by decide +kernel
theorem eL_law_1356 : decode (mB ML_law) 1356 = .ok (.ldc2_w 183, 3) := by decide +kernel
theorem eL_law_1359 : decode (mB ML_law) 1359 = .ok (.land, 1) := by decide +kernel
theorem eL_law_1360 : decode (mB ML_law) 1360 = .ok (.lor, 1) := by decide +kernel
theorem eL_law_1361 : decode (mB ML_law) 1361 = .ok (.invokevirtual 189, 3) := by decide +kernel
theorem eL_law_1364 : decode (mB ML_law) 1364 = .ok (.lcmp, 1) := by decide +kernel
theorem eL_law_1365 : decode (mB ML_law) 1365 = .ok (.ifCond .eq 107, 3) := by decide +kernel
theorem eL_law_1368 : decode (mB ML_law) 1368 = .ok (.iconst 0, 1) := by decide +kernel
theorem eL_law_1369 : decode (mB ML_law) 1369 = .ok (.ireturn, 1) := by decide +kernel
theorem eL_law_1370 : decode (mB ML_law) 1370 = .ok (.aload_n 1, 1) := by decide +kernel
theorem eL_law_1371 : decode (mB ML_law) 1371 = .ok (.aload_n 0, 1) := by decide +kernel
theorem eL_law_1372 : decode (mB ML_law) 1372 = .ok (.iload_n 3, 1) := by decide +kernel
theorem eL_law_1373 : decode (mB ML_law) 1373 = .ok (.iconst 1, 1) := by decide +kernel
theorem eL_law_1374 : decode (mB ML_law) 1374 = .ok (.iadd, 1) := by decide +kernel
theorem eL_law_1375 : decode (mB ML_law) 1375 = .ok (.iaload, 1) := by decide +kernel
theorem eL_law_1376 : decode (mB ML_law) 1376 = .ok (.aload_n 0, 1) := by decide +kernel
theorem eL_law_1377 : decode (mB ML_law) 1377 = .ok (.iload_n 3, 1) := by decide +kernel
theorem eL_law_1378 : decode (mB ML_law) 1378 = .ok (.iconst 2, 1) := by decide +kernel
theorem eL_law_1379 : decode (mB ML_law) 1379 = .ok (.iadd, 1) := by decide +kernel
theorem eL_law_1380 : decode (mB ML_law) 1380 = .ok (.iaload, 1) := by decide +kernel
theorem eL_law_1381 : decode (mB ML_law) 1381 = .ok (.invokevirtual 190, 3) := by decide +kernel
theorem eL_law_1384 : decode (mB ML_law) 1384 = .ok (.aload_n 2, 1) := by decide +kernel
theorem eL_law_1385 : decode (mB ML_law) 1385 = .ok (.aload_n 0, 1) := by decide +kernel
theorem eL_law_1386 : decode (mB ML_law) 1386 = .ok (.iload_n 3, 1) := by decide +kernel
theorem eL_law_1387 : decode (mB ML_law) 1387 = .ok (.iconst 1, 1) := by decide +kernel
theorem eL_law_1388 : decode (mB ML_law) 1388 = .ok (.iadd, 1) := by decide +kernel
theorem eL_law_1389 : decode (mB ML_law) 1389 = .ok (.iaload, 1) := by decide +kernel
theorem eL_law_1390 : decode (mB ML_law) 1390 = .ok (.aload_n 0, 1) := by decide +kernel
theorem eL_law_1391 : decode (mB ML_law) 1391 = .ok (.iload_n 3, 1) := by decide +kernel
theorem eL_law_1392 : decode (mB ML_law) 1392 = .ok (.iconst 2, 1) := by decide +kernel
theorem eL_law_1393 : decode (mB ML_law) 1393 = .ok (.iadd, 1) := by decide +kernel
theorem eL_law_1394 : decode (mB ML_law) 1394 = .ok (.iaload, 1) := by decide +kernel
theorem eL_law_1395 : decode (mB ML_law) 1395 = .ok (.invokevirtual 193, 3) := by decide +kernel
theorem eL_law_1398 : decode (mB ML_law) 1398 = .ok (.if_icmp .eq 74, 3) := by decide +kernel
theorem eL_law_1401 : decode (mB ML_law) 1401 = .ok (.iconst 0, 1) := by decide +kernel
theorem eL_law_1402 : decode (mB ML_law) 1402 = .ok (.ireturn, 1) := by decide +kernel
theorem eL_law_1403 : decode (mB ML_law) 1403 = .ok (.aload_n 1, 1) := by decide +kernel
theorem eL_law_1404 : decode (mB ML_law) 1404 = .ok (.aload_n 0, 1) := by decide +kernel
theorem eL_law_1405 : decode (mB ML_law) 1405 = .ok (.iload_n 3, 1) := by decide +kernel
theorem eL_law_1406 : decode (mB ML_law) 1406 = .ok (.iconst 1, 1) := by decide +kernel
theorem eL_law_1407 : decode (mB ML_law) 1407 = .ok (.iadd, 1) := by decide +kernel
theorem eL_law_1408 : decode (mB ML_law) 1408 = .ok (.iaload, 1) := by decide +kernel
theorem eL_law_1409 : decode (mB ML_law) 1409 = .ok (.invokevirtual 194, 3) := by decide +kernel
theorem eL_law_1412 : decode (mB ML_law) 1412 = .ok (.aload_n 2, 1) := by decide +kernel
theorem eL_law_1413 : decode (mB ML_law) 1413 = .ok (.aload_n 0, 1) := by decide +kernel
theorem eL_law_1414 : decode (mB ML_law) 1414 = .ok (.iload_n 3, 1) := by decide +kernel
theorem eL_law_1415 : decode (mB ML_law) 1415 = .ok (.iconst 1, 1) := by decide +kernel
theorem eL_law_1416 : decode (mB ML_law) 1416 = .ok (.iadd, 1) := by decide +kernel
theorem eL_law_1417 : decode (mB ML_law) 1417 = .ok (.iaload, 1) := by decide +kernel
theorem eL_law_1418 : decode (mB ML_law) 1418 = .ok (.invokevirtual 197, 3) := by decide +kernel
theorem eL_law_1421 : decode (mB ML_law) 1421 = .ok (.if_icmp .eq 51, 3) := by decide +kernel
theorem eL_law_1424 : decode (mB ML_law) 1424 = .ok (.iconst 0, 1) := by decide +kernel
theorem eL_law_1425 : decode (mB ML_law) 1425 = .ok (.ireturn, 1) := by decide +kernel
theorem eL_law_1426 : decode (mB ML_law) 1426 = .ok (.aload_n 1, 1) := by decide +kernel
theorem eL_law_1427 : decode (mB ML_law) 1427 = .ok (.aload_n 0, 1) := by decide +kernel
theorem eL_law_1428 : decode (mB ML_law) 1428 = .ok (.iload_n 3, 1) := by decide +kernel
theorem eL_law_1429 : decode (mB ML_law) 1429 = .ok (.iconst 1, 1) := by decide +kernel
theorem eL_law_1430 : decode (mB ML_law) 1430 = .ok (.iadd, 1) := by decide +kernel
theorem eL_law_1431 : decode (mB ML_law) 1431 = .ok (.iaload, 1) := by decide +kernel
theorem eL_law_1432 : decode (mB ML_law) 1432 = .ok (.invokevirtual 198, 3) := by decide +kernel
theorem eL_law_1435 : decode (mB ML_law) 1435 = .ok (.aload_n 2, 1) := by decide +kernel
theorem eL_law_1436 : decode (mB ML_law) 1436 = .ok (.aload_n 0, 1) := by decide +kernel
theorem eL_law_1437 : decode (mB ML_law) 1437 = .ok (.iload_n 3, 1) := by decide +kernel
theorem eL_law_1438 : decode (mB ML_law) 1438 = .ok (.iconst 1, 1) := by decide +kernel
theorem eL_law_1439 : decode (mB ML_law) 1439 = .ok (.iadd, 1) := by decide +kernel
theorem eL_law_1440 : decode (mB ML_law) 1440 = .ok (.iaload, 1) := by decide +kernel
theorem eL_law_1441 : decode (mB ML_law) 1441 = .ok (.invokevirtual 201, 3) := by decide +kernel
theorem eL_law_1444 : decode (mB ML_law) 1444 = .ok (.if_icmp .eq 28, 3) := by decide +kernel
theorem eL_law_1447 : decode (mB ML_law) 1447 = .ok (.iconst 0, 1) := by decide +kernel
theorem eL_law_1448 : decode (mB ML_law) 1448 = .ok (.ireturn, 1) := by decide +kernel
theorem eL_law_1449 : decode (mB ML_law) 1449 = .ok (.aload_n 1, 1) := by decide +kernel
theorem eL_law_1450 : decode (mB ML_law) 1450 = .ok (.aload_n 0, 1) := by decide +kernel
theorem eL_law_1451 : decode (mB ML_law) 1451 = .ok (.iload_n 3, 1) := by decide +kernel
theorem eL_law_1452 : decode (mB ML_law) 1452 = .ok (.iconst 1, 1) := by decide +kernel
theorem eL_law_1453 : decode (mB ML_law) 1453 = .ok (.iadd, 1) := by decide +kernel
theorem eL_law_1454 : decode (mB ML_law) 1454 = .ok (.iaload, 1) := by decide +kernel
theorem eL_law_1455 : decode (mB ML_law) 1455 = .ok (.invokevirtual 202, 3) := by decide +kernel
theorem eL_law_1458 : decode (mB ML_law) 1458 = .ok (.aload_n 2, 1) := by decide +kernel
theorem eL_law_1459 : decode (mB ML_law) 1459 = .ok (.aload_n 0, 1) := by decide +kernel
theorem eL_law_1460 : decode (mB ML_law) 1460 = .ok (.iload_n 3, 1) := by decide +kernel
theorem eL_law_1461 : decode (mB ML_law) 1461 = .ok (.iconst 1, 1) := by decide +kernel
theorem eL_law_1462 : decode (mB ML_law) 1462 = .ok (.iadd, 1) := by decide +kernel
theorem eL_law_1463 : decode (mB ML_law) 1463 = .ok (.iaload, 1) := by decide +kernel
theorem eL_law_1464 : decode (mB ML_law) 1464 = .ok (.invokevirtual 205, 3) := by decide +kernel
theorem eL_law_1467 : decode (mB ML_law) 1467 = .ok (.if_icmp .eq 5, 3) := by decide +kernel
theorem eL_law_1470 : decode (mB ML_law) 1470 = .ok (.iconst 0, 1) := by decide +kernel
theorem eL_law_1471 : decode (mB ML_law) 1471 = .ok (.ireturn, 1) := by decide +kernel
theorem eL_law_1472 : decode (mB ML_law) 1472 = .ok (.iinc 3 6, 3) := by decide +kernel
theorem eL_law_1475 : decode (mB ML_law) 1475 = .ok (.goto (-1457), 3) := by decide +kernel
theorem eL_law_1478 : decode (mB ML_law) 1478 = .ok (.iconst 1, 1) := by decide +kernel
theorem eL_law_1479 : decode (mB ML_law) 1479 = .ok (.ireturn, 1) := by decide +kernel
