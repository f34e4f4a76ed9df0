/-! ===== the law: its instructions ===== -/
theorem dL_law_1099 : decode code 1099 = .ok (.iaload, 1) := by decide +kernel
theorem dL_law_1100 : decode code 1100 = .ok (.aload_n 0, 1) := by decide +kernel
theorem dL_law_1101 : decode code 1101 = .ok (.iload 4, 2) := by decide +kernel
theorem dL_law_1103 : decode code 1103 = .ok (.iconst 3, 1) := by decide +kernel
theorem dL_law_1104 : decode code 1104 = .ok (.iadd, 1) := by decide +kernel
theorem dL_law_1105 : decode code 1105 = .ok (.iaload, 1) := by decide +kernel
theorem dL_law_1106 : decode code 1106 = .ok (.aload_n 0, 1) := by decide +kernel
theorem dL_law_1107 : decode code 1107 = .ok (.iload 4, 2) := by decide +kernel
theorem dL_law_1109 : decode code 1109 = .ok (.iconst 4, 1) := by decide +kernel
theorem dL_law_1110 : decode code 1110 = .ok (.iadd, 1) := by decide +kernel
theorem dL_law_1111 : decode code 1111 = .ok (.iaload, 1) := by decide +kernel
theorem dL_law_1112 : decode code 1112 = .ok (.aload_n 0, 1) := by decide +kernel
theorem dL_law_1113 : decode code 1113 = .ok (.iload 4, 2) := by decide +kernel
theorem dL_law_1115 : decode code 1115 = .ok (.iconst 5, 1) := by decide +kernel
theorem dL_law_1116 : decode code 1116 = .ok (.iadd, 1) := by decide +kernel
theorem dL_law_1117 : decode code 1117 = .ok (.iaload, 1) := by decide +kernel
theorem dL_law_1118 : decode code 1118 = .ok (.aload_n 0, 1) := by decide +kernel
theorem dL_law_1119 : decode code 1119 = .ok (.iload 4, 2) := by decide +kernel
theorem dL_law_1121 : decode code 1121 = .ok (.bipush 6, 2) := by decide +kernel
theorem dL_law_1123 : decode code 1123 = .ok (.iadd, 1) := by decide +kernel
theorem dL_law_1124 : decode code 1124 = .ok (.iaload, 1) := by decide +kernel
theorem dL_law_1125 : decode code 1125 = .ok (.invokevirtual 117, 3) := by decide +kernel
theorem dL_law_1128 : decode code 1128 = .ok (.aload_n 2, 1) := by decide +kernel
theorem dL_law_1129 : decode code 1129 = .ok (.aload_n 0, 1) := by decide +kernel
theorem dL_law_1130 : decode code 1130 = .ok (.iload 4, 2) := by decide +kernel
theorem dL_law_1132 : decode code 1132 = .ok (.iconst 1, 1) := by decide +kernel
theorem dL_law_1133 : decode code 1133 = .ok (.iadd, 1) := by decide +kernel
theorem dL_law_1134 : decode code 1134 = .ok (.iaload, 1) := by decide +kernel
theorem dL_law_1135 : decode code 1135 = .ok (.aload_n 0, 1) := by decide +kernel
theorem dL_law_1136 : decode code 1136 = .ok (.iload 4, 2) := by decide +kernel
theorem dL_law_1138 : decode code 1138 = .ok (.iconst 2, 1) := by decide +kernel
theorem dL_law_1139 : decode code 1139 = .ok (.iadd, 1) := by decide +kernel
theorem dL_law_1140 : decode code 1140 = .ok (.iaload, 1) := by decide +kernel
theorem dL_law_1141 : decode code 1141 = .ok (.aload_n 0, 1) := by decide +kernel
theorem dL_law_1142 : decode code 1142 = .ok (.iload 4, 2) := by decide +kernel
theorem dL_law_1144 : decode code 1144 = .ok (.iconst 3, 1) := by decide +kernel
theorem dL_law_1145 : decode code 1145 = .ok (.iadd, 1) := by decide +kernel
theorem dL_law_1146 : decode code 1146 = .ok (.iaload, 1) := by decide +kernel
theorem dL_law_1147 : decode code 1147 = .ok (.aload_n 0, 1) := by decide +kernel
theorem dL_law_1148 : decode code 1148 = .ok (.iload 4, 2) := by decide +kernel
theorem dL_law_1150 : decode code 1150 = .ok (.iconst 4, 1) := by decide +kernel
theorem dL_law_1151 : decode code 1151 = .ok (.iadd, 1) := by decide +kernel
theorem dL_law_1152 : decode code 1152 = .ok (.iaload, 1) := by decide +kernel
theorem dL_law_1153 : decode code 1153 = .ok (.aload_n 0, 1) := by decide +kernel
theorem dL_law_1154 : decode code 1154 = .ok (.iload 4, 2) := by decide +kernel
theorem dL_law_1156 : decode code 1156 = .ok (.iconst 5, 1) := by decide +kernel
theorem dL_law_1157 : decode code 1157 = .ok (.iadd, 1) := by decide +kernel
theorem dL_law_1158 : decode code 1158 = .ok (.iaload, 1) := by decide +kernel
theorem dL_law_1159 : decode code 1159 = .ok (.aload_n 0, 1) := by decide +kernel
theorem dL_law_1160 : decode code 1160 = .ok (.iload 4, 2) := by decide +kernel
theorem dL_law_1162 : decode code 1162 = .ok (.bipush 6, 2) := by decide +kernel
theorem dL_law_1164 : decode code 1164 = .ok (.iadd, 1) := by decide +kernel
theorem dL_law_1165 : decode code 1165 = .ok (.iaload, 1) := by decide +kernel
theorem dL_law_1166 : decode code 1166 = .ok (.invokevirtual 121, 3) := by decide +kernel
theorem dL_law_1169 : decode code 1169 = .ok (.if_icmp .eq 870, 3) := by decide +kernel
theorem dL_law_1174 : decode code 1174 = .ok (.aload_n 1, 1) := by decide +kernel
theorem dL_law_1175 : decode code 1175 = .ok (.aload_n 0, 1) := by decide +kernel
theorem dL_law_1176 : decode code 1176 = .ok (.iload 4, 2) := by decide +kernel
theorem dL_law_1178 : decode code 1178 = .ok (.iconst 1, 1) := by decide +kernel
theorem dL_law_1179 : decode code 1179 = .ok (.iadd, 1) := by decide +kernel
theorem dL_law_1180 : decode code 1180 = .ok (.iaload, 1) := by decide +kernel
theorem dL_law_1181 : decode code 1181 = .ok (.aload_n 0, 1) := by decide +kernel
theorem dL_law_1182 : decode code 1182 = .ok (.iload 4, 2) := by decide +kernel
theorem dL_law_1184 : decode code 1184 = .ok (.iconst 2, 1) := by decide +kernel
theorem dL_law_1185 : decode code 1185 = .ok (.iadd, 1) := by decide +kernel
theorem dL_law_1186 : decode code 1186 = .ok (.iaload, 1) := by decide +kernel
theorem dL_law_1187 : decode code 1187 = .ok (.invokevirtual 122, 3) := by decide +kernel
theorem dL_law_1190 : decode code 1190 = .ok (.aload_n 2, 1) := by decide +kernel
theorem dL_law_1191 : decode code 1191 = .ok (.aload_n 0, 1) := by decide +kernel
theorem dL_law_1192 : decode code 1192 = .ok (.iload 4, 2) := by decide +kernel
theorem dL_law_1194 : decode code 1194 = .ok (.iconst 1, 1) := by decide +kernel
theorem dL_law_1195 : decode code 1195 = .ok (.iadd, 1) := by decide +kernel
theorem dL_law_1196 : decode code 1196 = .ok (.iaload, 1) := by decide +kernel
theorem dL_law_1197 : decode code 1197 = .ok (.aload_n 0, 1) := by decide +kernel
theorem dL_law_1198 : decode code 1198 = .ok (.iload 4, 2) := by decide +kernel
theorem dL_law_1200 : decode code 1200 = .ok (.iconst 2, 1) := by decide +kernel
theorem dL_law_1201 : decode code 1201 = .ok (.iadd, 1) := by decide +kernel
theorem dL_law_1202 : decode code 1202 = .ok (.iaload, 1) := by decide +kernel
theorem dL_law_1203 : decode code 1203 = .ok (.invokevirtual 125, 3) := by decide +kernel
theorem dL_law_1206 : decode code 1206 = .ok (.if_icmp .eq 833, 3) := by decide +kernel
theorem dL_law_1211 : decode code 1211 = .ok (.aload_n 1, 1) := by decide +kernel
theorem dL_law_1212 : decode code 1212 = .ok (.aload_n 0, 1) := by decide +kernel
theorem dL_law_1213 : decode code 1213 = .ok (.iload 4, 2) := by decide +kernel
theorem dL_law_1215 : decode code 1215 = .ok (.iconst 1, 1) := by decide +kernel
theorem dL_law_1216 : decode code 1216 = .ok (.iadd, 1) := by decide +kernel
theorem dL_law_1217 : decode code 1217 = .ok (.iaload, 1) := by decide +kernel
theorem dL_law_1218 : decode code 1218 = .ok (.invokevirtual 126, 3) := by decide +kernel
theorem dL_law_1221 : decode code 1221 = .ok (.aload_n 2, 1) := by decide +kernel
theorem dL_law_1222 : decode code 1222 = .ok (.aload_n 0, 1) := by decide +kernel
theorem dL_law_1223 : decode code 1223 = .ok (.iload 4, 2) := by decide +kernel
theorem dL_law_1225 : decode code 1225 = .ok (.iconst 1, 1) := by decide +kernel
theorem dL_law_1226 : decode code 1226 = .ok (.iadd, 1) := by decide +kernel
theorem dL_law_1227 : decode code 1227 = .ok (.iaload, 1) := by decide +kernel
theorem dL_law_1228 : decode code 1228 = .ok (.invokevirtual 129, 3) := by decide +kernel
theorem dL_law_1231 : decode code 1231 = .ok (.if_icmp .eq 808, 3) := by decide +kernel
theorem dL_law_1236 : decode code 1236 = .ok (.aload_n 1, 1) := by decide +kernel
theorem dL_law_1237 : decode code 1237 = .ok (.aload_n 0, 1) := by decide +kernel
theorem dL_law_1238 : decode code 1238 = .ok (.iload 4, 2) := by decide +kernel
theorem dL_law_1240 : decode code 1240 = .ok (.iconst 1, 1) := by decide +kernel
theorem dL_law_1241 : decode code 1241 = .ok (.iadd, 1) := by decide +kernel
theorem dL_law_1242 : decode code 1242 = .ok (.iaload, 1) := by decide +kernel
theorem dL_law_1243 : decode code 1243 = .ok (.aload_n 3, 1) := by decide +kernel
theorem dL_law_1244 : decode code 1244 = .ok (.invokestatic 130, 3) := by decide +kernel
theorem dL_law_1247 : decode code 1247 = .ok (.istore 5, 2) := by decide +kernel
theorem dL_law_1249 : decode code 1249 = .ok (.aload_n 2, 1) := by decide +kernel
theorem dL_law_1250 : decode code 1250 = .ok (.aload_n 0, 1) := by decide +kernel
theorem dL_law_1251 : decode code 1251 = .ok (.iload 4, 2) := by decide +kernel
theorem dL_law_1253 : decode code 1253 = .ok (.iconst 1, 1) := by decide +kernel
theorem dL_law_1254 : decode code 1254 = .ok (.iadd, 1) := by decide +kernel
theorem dL_law_1255 : decode code 1255 = .ok (.iaload, 1) := by decide +kernel
theorem dL_law_1256 : decode code 1256 = .ok (.invokevirtual 133, 3) := by decide +kernel
theorem dL_law_1259 : decode code 1259 = .ok (.lstore 6, 2) := by decide +kernel
theorem dL_law_1261 : decode code 1261 = .ok (.aload_n 2, 1) := by decide +kernel
theorem dL_law_1262 : decode code 1262 = .ok (.invokevirtual 48, 3) := by decide +kernel
theorem dL_law_1265 : decode code 1265 = .ok (.iload 5, 2) := by decide +kernel
theorem dL_law_1267 : decode code 1267 = .ok (.if_icmp .eq 5, 3) := by decide +kernel
theorem dL_law_1270 : decode code 1270 = .ok (.iconst 0, 1) := by decide +kernel
theorem dL_law_1271 : decode code 1271 = .ok (.ireturn, 1) := by decide +kernel
theorem dL_law_1272 : decode code 1272 = .ok (.iload 5, 2) := by decide +kernel
theorem dL_law_1274 : decode code 1274 = .ok (.ifCond .ne 14, 3) := by decide +kernel
theorem dL_law_1277 : decode code 1277 = .ok (.aload_n 3, 1) := by decide +kernel
theorem dL_law_1278 : decode code 1278 = .ok (.iconst 0, 1) := by decide +kernel
theorem dL_law_1279 : decode code 1279 = .ok (.laload, 1) := by decide +kernel
theorem dL_law_1280 : decode code 1280 = .ok (.lload 6, 2) := by decide +kernel
theorem dL_law_1282 : decode code 1282 = .ok (.lcmp, 1) := by decide +kernel
theorem dL_law_1283 : decode code 1283 = .ok (.ifCond .eq 5, 3) := by decide +kernel
theorem dL_law_1286 : decode code 1286 = .ok (.iconst 0, 1) := by decide +kernel
theorem dL_law_1287 : decode code 1287 = .ok (.ireturn, 1) := by decide +kernel
theorem dL_law_1288 : decode code 1288 = .ok (.goto 751, 3) := by decide +kernel
theorem dL_law_1291 : decode code 1291 = .ok (.aload_n 1, 1) := by decide +kernel
theorem dL_law_1292 : decode code 1292 = .ok (.invokevirtual 134, 3) := by decide +kernel
theorem dL_law_1295 : decode code 1295 = .ok (.aload_n 2, 1) := by decide +kernel
theorem dL_law_1296 : decode code 1296 = .ok (.invokevirtual 137, 3) := by decide +kernel
theorem dL_law_1299 : decode code 1299 = .ok (.if_icmp .eq 740, 3) := by decide +kernel
theorem dL_law_1304 : decode code 1304 = .ok (.aload_n 1, 1) := by decide +kernel
theorem dL_law_1305 : decode code 1305 = .ok (.aload_n 0, 1) := by decide +kernel
theorem dL_law_1306 : decode code 1306 = .ok (.iload 4, 2) := by decide +kernel
theorem dL_law_1308 : decode code 1308 = .ok (.iconst 1, 1) := by decide +kernel
theorem dL_law_1309 : decode code 1309 = .ok (.iadd, 1) := by decide +kernel
theorem dL_law_1310 : decode code 1310 = .ok (.iaload, 1) := by decide +kernel
theorem dL_law_1311 : decode code 1311 = .ok (.invokevirtual 138, 3) := by decide +kernel
theorem dL_law_1314 : decode code 1314 = .ok (.aload_n 2, 1) := by decide +kernel
theorem dL_law_1315 : decode code 1315 = .ok (.aload_n 0, 1) := by decide +kernel
theorem dL_law_1316 : decode code 1316 = .ok (.iload 4, 2) := by decide +kernel
theorem dL_law_1318 : decode code 1318 = .ok (.iconst 1, 1) := by decide +kernel
theorem dL_law_1319 : decode code 1319 = .ok (.iadd, 1) := by decide +kernel
theorem dL_law_1320 : decode code 1320 = .ok (.iaload, 1) := by decide +kernel
theorem dL_law_1321 : decode code 1321 = .ok (.invokevirtual 141, 3) := by decide +kernel
theorem dL_law_1324 : decode code 1324 = .ok (.if_icmp .eq 715, 3) := by decide +kernel
theorem dL_law_1329 : decode code 1329 = .ok (.aload_n 1, 1) := by decide +kernel
theorem dL_law_1330 : decode code 1330 = .ok (.aload_n 0, 1) := by decide +kernel
theorem dL_law_1331 : decode code 1331 = .ok (.iload 4, 2) := by decide +kernel
theorem dL_law_1333 : decode code 1333 = .ok (.iconst 1, 1) := by decide +kernel
theorem dL_law_1334 : decode code 1334 = .ok (.iadd, 1) := by decide +kernel
theorem dL_law_1335 : decode code 1335 = .ok (.iaload, 1) := by decide +kernel
theorem dL_law_1336 : decode code 1336 = .ok (.aload_n 0, 1) := by decide +kernel
theorem dL_law_1337 : decode code 1337 = .ok (.iload 4, 2) := by decide +kernel
theorem dL_law_1339 : decode code 1339 = .ok (.iconst 2, 1) := by decide +kernel
theorem dL_law_1340 : decode code 1340 = .ok (.iadd, 1) := by decide +kernel
theorem dL_law_1341 : decode code 1341 = .ok (.iaload, 1) := by decide +kernel
theorem dL_law_1342 : decode code 1342 = .ok (.invokevirtual 142, 3) := by decide +kernel
theorem dL_law_1345 : decode code 1345 = .ok (.aload_n 2, 1) := by decide +kernel
theorem dL_law_1346 : decode code 1346 = .ok (.aload_n 0, 1) := by decide +kernel
theorem dL_law_1347 : decode code 1347 = .ok (.iload 4, 2) := by decide +kernel
theorem dL_law_1349 : decode code 1349 = .ok (.iconst 1, 1) := by decide +kernel
theorem dL_law_1350 : decode code 1350 = .ok (.iadd, 1) := by decide +kernel
theorem dL_law_1351 : decode code 1351 = .ok (.iaload, 1) := by decide +kernel
theorem dL_law_1352 : decode code 1352 = .ok (.aload_n 0, 1) := by decide +kernel
theorem dL_law_1353 : decode code 1353 = .ok (.iload 4, 2) := by decide +kernel
theorem dL_law_1355 : decode code 1355 = .ok (.iconst 2, 1) := by decide +kernel
theorem dL_law_1356 : decode code 1356 = .ok (.iadd, 1) := by decide +kernel
theorem dL_law_1357 : decode code 1357 = .ok (.iaload, 1) := by decide +kernel
theorem dL_law_1358 : decode code 1358 = .ok (.invokevirtual 145, 3) := by decide +kernel
theorem dL_law_1361 : decode code 1361 = .ok (.if_icmp .eq 678, 3) := by decide +kernel
theorem dL_law_1366 : decode code 1366 = .ok (.aload_n 1, 1) := by decide +kernel
theorem dL_law_1367 : decode code 1367 = .ok (.aload_n 0, 1) := by decide +kernel
theorem dL_law_1368 : decode code 1368 = .ok (.iload 4, 2) := by decide +kernel
theorem dL_law_1370 : decode code 1370 = .ok (.iconst 1, 1) := by decide +kernel
theorem dL_law_1371 : decode code 1371 = .ok (.iadd, 1) := by decide +kernel
theorem dL_law_1372 : decode code 1372 = .ok (.iaload, 1) := by decide +kernel
theorem dL_law_1373 : decode code 1373 = .ok (.aload_n 0, 1) := by decide +kernel
theorem dL_law_1374 : decode code 1374 = .ok (.iload 4, 2) := by decide +kernel
theorem dL_law_1376 : decode code 1376 = .ok (.iconst 2, 1) := by decide +kernel
theorem dL_law_1377 : decode code 1377 = .ok (.iadd, 1) := by decide +kernel
theorem dL_law_1378 : decode code 1378 = .ok (.iaload, 1) := by decide +kernel
theorem dL_law_1379 : decode code 1379 = .ok (.invokevirtual 146, 3) := by decide +kernel
theorem dL_law_1382 : decode code 1382 = .ok (.aload_n 2, 1) := by decide +kernel
theorem dL_law_1383 : decode code 1383 = .ok (.aload_n 0, 1) := by decide +kernel
theorem dL_law_1384 : decode code 1384 = .ok (.iload 4, 2) := by decide +kernel
theorem dL_law_1386 : decode code 1386 = .ok (.iconst 1, 1) := by decide +kernel
theorem dL_law_1387 : decode code 1387 = .ok (.iadd, 1) := by decide +kernel
theorem dL_law_1388 : decode code 1388 = .ok (.iaload, 1) := by decide +kernel
theorem dL_law_1389 : decode code 1389 = .ok (.aload_n 0, 1) := by decide +kernel
theorem dL_law_1390 : decode code 1390 = .ok (.iload 4, 2) := by decide +kernel
theorem dL_law_1392 : decode code 1392 = .ok (.iconst 2, 1) := by decide +kernel
theorem dL_law_1393 : decode code 1393 = .ok (.iadd, 1) := by decide +kernel
theorem dL_law_1394 : decode code 1394 = .ok (.iaload, 1) := by decide +kernel
theorem dL_law_1395 : decode code 1395 = .ok (.invokevirtual 149, 3) := by decide +kernel
theorem dL_law_1398 : decode code 1398 = .ok (.if_icmp .eq 641, 3) := by decide +kernel
theorem dL_law_1403 : decode code 1403 = .ok (.aload_n 1, 1) := by decide +kernel
theorem dL_law_1404 : decode code 1404 = .ok (.aload_n 0, 1) := by decide +kernel
theorem dL_law_1405 : decode code 1405 = .ok (.iload 4, 2) := by decide +kernel
theorem dL_law_1407 : decode code 1407 = .ok (.iconst 1, 1) := by decide +kernel
theorem dL_law_1408 : decode code 1408 = .ok (.iadd, 1) := by decide +kernel
theorem dL_law_1409 : decode code 1409 = .ok (.iaload, 1) := by decide +kernel
theorem dL_law_1410 : decode code 1410 = .ok (.aload_n 0, 1) := by decide +kernel
theorem dL_law_1411 : decode code 1411 = .ok (.iload 4, 2) := by decide +kernel
theorem dL_law_1413 : decode code 1413 = .ok (.iconst 2, 1) := by decide +kernel
theorem dL_law_1414 : decode code 1414 = .ok (.iadd, 1) := by decide +kernel
theorem dL_law_1415 : decode code 1415 = .ok (.iaload, 1) := by decide +kernel
theorem dL_law_1416 : decode code 1416 = .ok (.invokevirtual 150, 3) := by decide +kernel
theorem dL_law_1419 : decode code 1419 = .ok (.aload_n 2, 1) := by decide +kernel
theorem dL_law_1420 : decode code 1420 = .ok (.aload_n 0, 1) := by decide +kernel
theorem dL_law_1421 : decode code 1421 = .ok (.iload 4, 2) := by decide +kernel
theorem dL_law_1423 : decode code 1423 = .ok (.iconst 1, 1) := by decide +kernel
theorem dL_law_1424 : decode code 1424 = .ok (.iadd, 1) := by decide +kernel
theorem dL_law_1425 : decode code 1425 = .ok (.iaload, 1) := by decide +kernel
theorem dL_law_1426 : decode code 1426 = .ok (.aload_n 0, 1) := by decide +kernel
theorem dL_law_1427 : decode code 1427 = .ok (.iload 4, 2) := by decide +kernel
theorem dL_law_1429 : decode code 1429 = .ok (.iconst 2, 1) := by decide +kernel
theorem dL_law_1430 : decode code 1430 = .ok (.iadd, 1) := by decide +kernel
theorem dL_law_1431 : decode code 1431 = .ok (.iaload, 1) := by decide +kernel
theorem dL_law_1432 : decode code 1432 = .ok (.invokevirtual 153, 3) := by decide +kernel
theorem dL_law_1435 : decode code 1435 = .ok (.if_icmp .eq 604, 3) := by decide +kernel
theorem dL_law_1440 : decode code 1440 = .ok (.aload_n 1, 1) := by decide +kernel
theorem dL_law_1441 : decode code 1441 = .ok (.aload_n 0, 1) := by decide +kernel
theorem dL_law_1442 : decode code 1442 = .ok (.iload 4, 2) := by decide +kernel
theorem dL_law_1444 : decode code 1444 = .ok (.iconst 1, 1) := by decide +kernel
theorem dL_law_1445 : decode code 1445 = .ok (.iadd, 1) := by decide +kernel
theorem dL_law_1446 : decode code 1446 = .ok (.iaload, 1) := by decide +kernel
theorem dL_law_1447 : decode code 1447 = .ok (.aload_n 0, 1) := by decide +kernel
theorem dL_law_1448 : decode code 1448 = .ok (.iload 4, 2) := by decide +kernel
theorem dL_law_1450 : decode code 1450 = .ok (.iconst 2, 1) := by decide +kernel
theorem dL_law_1451 : decode code 1451 = .ok (.iadd, 1) := by decide +kernel
theorem dL_law_1452 : decode code 1452 = .ok (.iaload, 1) := by decide +kernel
theorem dL_law_1453 : decode code 1453 = .ok (.invokevirtual 154, 3) := by decide +kernel
theorem dL_law_1456 : decode code 1456 = .ok (.aload_n 2, 1) := by decide +kernel
theorem dL_law_1457 : decode code 1457 = .ok (.aload_n 0, 1) := by decide +kernel
theorem dL_law_1458 : decode code 1458 = .ok (.iload 4, 2) := by decide +kernel
theorem dL_law_1460 : decode code 1460 = .ok (.iconst 1, 1) := by decide +kernel
theorem dL_law_1461 : decode code 1461 = .ok (.iadd, 1) := by decide +kernel
theorem dL_law_1462 : decode code 1462 = .ok (.iaload, 1) := by decide +kernel
theorem dL_law_1463 : decode code 1463 = .ok (.aload_n 0, 1) := by decide +kernel
theorem dL_law_1464 : decode code 1464 = .ok (.iload 4, 2) := by decide +kernel
theorem dL_law_1466 : decode code 1466 = .ok (.iconst 2, 1) := by decide +kernel
theorem dL_law_1467 : decode code 1467 = .ok (.iadd, 1) := by decide +kernel
theorem dL_law_1468 : decode code 1468 = .ok (.iaload, 1) := by decide +kernel
theorem dL_law_1469 : decode code 1469 = .ok (.invokevirtual 157, 3) := by decide +kernel
theorem dL_law_1472 : decode code 1472 = .ok (.if_icmp .eq 567, 3) := by decide +kernel
theorem dL_law_1477 : decode code 1477 = .ok (.aload_n 1, 1) := by decide +kernel
theorem dL_law_1478 : decode code 1478 = .ok (.invokevirtual 158, 3) := by decide +kernel
theorem dL_law_1481 : decode code 1481 = .ok (.aload_n 2, 1) := by decide +kernel
theorem dL_law_1482 : decode code 1482 = .ok (.invokevirtual 161, 3) := by decide +kernel
theorem dL_law_1485 : decode code 1485 = .ok (.if_icmp .eq 554, 3) := by decide +kernel
theorem dL_law_1490 : decode code 1490 = .ok (.aload_n 1, 1) := by decide +kernel
theorem dL_law_1491 : decode code 1491 = .ok (.invokevirtual 162, 3) := by decide +kernel
theorem dL_law_1494 : decode code 1494 = .ok (.aload_n 2, 1) := by decide +kernel
theorem dL_law_1495 : decode code 1495 = .ok (.invokevirtual 165, 3) := by decide +kernel
theorem dL_law_1498 : decode code 1498 = .ok (.if_icmp .eq 541, 3) := by decide +kernel
theorem dL_law_1503 : decode code 1503 = .ok (.aload_n 1, 1) := by decide +kernel
theorem dL_law_1504 : decode code 1504 = .ok (.aload_n 0, 1) := by decide +kernel
theorem dL_law_1505 : decode code 1505 = .ok (.iload 4, 2) := by decide +kernel
theorem dL_law_1507 : decode code 1507 = .ok (.iconst 1, 1) := by decide +kernel
theorem dL_law_1508 : decode code 1508 = .ok (.iadd, 1) := by decide +kernel
theorem dL_law_1509 : decode code 1509 = .ok (.iaload, 1) := by decide +kernel
theorem dL_law_1510 : decode code 1510 = .ok (.invokevirtual 166, 3) := by decide +kernel
theorem dL_law_1513 : decode code 1513 = .ok (.aload_n 2, 1) := by decide +kernel
theorem dL_law_1514 : decode code 1514 = .ok (.aload_n 0, 1) := by decide +kernel
theorem dL_law_1515 : decode code 1515 = .ok (.iload 4, 2) := by decide +kernel
theorem dL_law_1517 : decode code 1517 = .ok (.iconst 1, 1) := by decide +kernel
theorem dL_law_1518 : decode code 1518 = .ok (.iadd, 1) := by decide +kernel
theorem dL_law_1519 : decode code 1519 = .ok (.iaload, 1) := by decide +kernel
theorem dL_law_1520 : decode code 1520 = .ok (.invokevirtual 169, 3) := by decide +kernel
theorem dL_law_1523 : decode code 1523 = .ok (.if_icmp .eq 516, 3) := by decide +kernel
theorem dL_law_1528 : decode code 1528 = .ok (.aload_n 1, 1) := by decide +kernel
theorem dL_law_1529 : decode code 1529 = .ok (.aload_n 0, 1) := by decide +kernel
theorem dL_law_1530 : decode code 1530 = .ok (.iload 4, 2) := by decide +kernel
theorem dL_law_1532 : decode code 1532 = .ok (.iconst 1, 1) := by decide +kernel
theorem dL_law_1533 : decode code 1533 = .ok (.iadd, 1) := by decide +kernel
theorem dL_law_1534 : decode code 1534 = .ok (.iaload, 1) := by decide +kernel
theorem dL_law_1535 : decode code 1535 = .ok (.aload_n 0, 1) := by decide +kernel
theorem dL_law_1536 : decode code 1536 = .ok (.iload 4, 2) := by decide +kernel
theorem dL_law_1538 : decode code 1538 = .ok (.iconst 2, 1) := by decide +kernel
theorem dL_law_1539 : decode code 1539 = .ok (.iadd, 1) := by decide +kernel
theorem dL_law_1540 : decode code 1540 = .ok (.iaload, 1) := by decide +kernel
theorem dL_law_1541 : decode code 1541 = .ok (.invokevirtual 170, 3) := by decide +kernel
theorem dL_law_1544 : decode code 1544 = .ok (.aload_n 2, 1) := by decide +kernel
theorem dL_law_1545 : decode code 1545 = .ok (.aload_n 0, 1) := by decide +kernel
theorem dL_law_1546 : decode code 1546 = .ok (.iload 4, 2) := by decide +kernel
theorem dL_law_1548 : decode code 1548 = .ok (.iconst 1, 1) := by decide +kernel
theorem dL_law_1549 : decode code 1549 = .ok (.iadd, 1) := by decide +kernel
theorem dL_law_1550 : decode code 1550 = .ok (.iaload, 1) := by decide +kernel
theorem dL_law_1551 : decode code 1551 = .ok (.aload_n 0, 1) := by decide +kernel
theorem dL_law_1552 : decode code 1552 = .ok (.iload 4, 2) := by decide +kernel
theorem dL_law_1554 : decode code 1554 = .ok (.iconst 2, 1) := by decide +kernel
theorem dL_law_1555 : decode code 1555 = .ok (.iadd, 1) := by decide +kernel
theorem dL_law_1556 : decode code 1556 = .ok (.iaload, 1) := by decide +kernel
theorem dL_law_1557 : decode code 1557 = .ok (.invokevirtual 173, 3) := by decide +kernel
theorem dL_law_1560 : decode code 1560 = .ok (.if_icmp .eq 479, 3) := by decide +kernel
theorem dL_law_1565 : decode code 1565 = .ok (.aload_n 1, 1) := by decide +kernel
theorem dL_law_1566 : decode code 1566 = .ok (.aload_n 0, 1) := by decide +kernel
theorem dL_law_1567 : decode code 1567 = .ok (.iload 4, 2) := by decide +kernel
theorem dL_law_1569 : decode code 1569 = .ok (.iconst 1, 1) := by decide +kernel
theorem dL_law_1570 : decode code 1570 = .ok (.iadd, 1) := by decide +kernel
theorem dL_law_1571 : decode code 1571 = .ok (.iaload, 1) := by decide +kernel
theorem dL_law_1572 : decode code 1572 = .ok (.aload_n 0, 1) := by decide +kernel
theorem dL_law_1573 : decode code 1573 = .ok (.iload 4, 2) := by decide +kernel
theorem dL_law_1575 : decode code 1575 = .ok (.iconst 2, 1) := by decide +kernel
theorem dL_law_1576 : decode code 1576 = .ok (.iadd, 1) := by decide +kernel
theorem dL_law_1577 : decode code 1577 = .ok (.iaload, 1) := by decide +kernel
theorem dL_law_1578 : decode code 1578 = .ok (.invokevirtual 174, 3) := by decide +kernel
theorem dL_law_1581 : decode code 1581 = .ok (.aload_n 2, 1) := by decide +kernel
theorem dL_law_1582 : decode code 1582 = .ok (.aload_n 0, 1) := by decide +kernel
theorem dL_law_1583 : decode code 1583 = .ok (.iload 4, 2) := by decide +kernel
theorem dL_law_1585 : decode code 1585 = .ok (.iconst 1, 1) := by decide +kernel
theorem dL_law_1586 : decode code 1586 = .ok (.iadd, 1) := by decide +kernel
theorem dL_law_1587 : decode code 1587 = .ok (.iaload, 1) := by decide +kernel
theorem dL_law_1588 : decode code 1588 = .ok (.aload_n 0, 1) := by decide +kernel
theorem dL_law_1589 : decode code 1589 = .ok (.iload 4, 2) := by decide +kernel
theorem dL_law_1591 : decode code 1591 = .ok (.iconst 2, 1) := by decide +kernel
theorem dL_law_1592 : decode code 1592 = .ok (.iadd, 1) := by decide +kernel
theorem dL_law_1593 : decode code 1593 = .ok (.iaload, 1) := by decide +kernel
theorem dL_law_1594 : decode code 1594 = .ok (.invokevirtual 177, 3) := by decide +kernel
theorem dL_law_1597 : decode code 1597 = .ok (.if_icmp .eq 442, 3) := by decide +kernel
theorem dL_law_1602 : decode code 1602 = .ok (.aload_n 1, 1) := by decide +kernel
theorem dL_law_1603 : decode code 1603 = .ok (.aload_n 0, 1) := by decide +kernel
theorem dL_law_1604 : decode code 1604 = .ok (.iload 4, 2) := by decide +kernel
theorem dL_law_1606 : decode code 1606 = .ok (.iconst 1, 1) := by decide +kernel
theorem dL_law_1607 : decode code 1607 = .ok (.iadd, 1) := by decide +kernel
theorem dL_law_1608 : decode code 1608 = .ok (.iaload, 1) := by decide +kernel
theorem dL_law_1609 : decode code 1609 = .ok (.aload_n 0, 1) := by decide +kernel
theorem dL_law_1610 : decode code 1610 = .ok (.iload 4, 2) := by decide +kernel
theorem dL_law_1612 : decode code 1612 = .ok (.iconst 2, 1) := by decide +kernel
theorem dL_law_1613 : decode code 1613 = .ok (.iadd, 1) := by decide +kernel
theorem dL_law_1614 : decode code 1614 = .ok (.iaload, 1) := by decide +kernel
theorem dL_law_1615 : decode code 1615 = .ok (.aload_n 0, 1) := by decide +kernel
theorem dL_law_1616 : decode code 1616 = .ok (.iload 4, 2) := by decide +kernel
theorem dL_law_1618 : decode code 1618 = .ok (.iconst 3, 1) := by decide +kernel
theorem dL_law_1619 : decode code 1619 = .ok (.iadd, 1) := by decide +kernel
theorem dL_law_1620 : decode code 1620 = .ok (.iaload, 1) := by decide +kernel
theorem dL_law_1621 : decode code 1621 = .ok (.invokevirtual 178, 3) := by decide +kernel
theorem dL_law_1624 : decode code 1624 = .ok (.aload_n 2, 1) := by decide +kernel
theorem dL_law_1625 : decode code 1625 = .ok (.aload_n 0, 1) := by decide +kernel
theorem dL_law_1626 : decode code 1626 = .ok (.iload 4, 2) := by decide +kernel
theorem dL_law_1628 : decode code 1628 = .ok (.iconst 1, 1) := by decide +kernel
theorem dL_law_1629 : decode code 1629 = .ok (.iadd, 1) := by decide +kernel
theorem dL_law_1630 : decode code 1630 = .ok (.iaload, 1) := by decide +kernel
theorem dL_law_1631 : decode code 1631 = .ok (.aload_n 0, 1) := by decide +kernel
theorem dL_law_1632 : decode code 1632 = .ok (.iload 4, 2) := by decide +kernel
theorem dL_law_1634 : decode code 1634 = .ok (.iconst 2, 1) := by decide +kernel
theorem dL_law_1635 : decode code 1635 = .ok (.iadd, 1) := by decide +kernel
theorem dL_law_1636 : decode code 1636 = .ok (.iaload, 1) := by decide +kernel
theorem dL_law_1637 : decode code 1637 = .ok (.aload_n 0, 1) := by decide +kernel
theorem dL_law_1638 : decode code 1638 = .ok (.iload 4, 2) := by decide +kernel
theorem dL_law_1640 : decode code 1640 = .ok (.iconst 3, 1) := by decide +kernel
theorem dL_law_1641 : decode code 1641 = .ok (.iadd, 1) := by decide +kernel
theorem dL_law_1642 : decode code 1642 = .ok (.iaload, 1) := by decide +kernel
theorem dL_law_1643 : decode code 1643 = .ok (.invokevirtual 181, 3) := by decide +kernel
theorem dL_law_1646 : decode code 1646 = .ok (.if_icmp .eq 393, 3) := by decide +kernel
theorem dL_law_1651 : decode code 1651 = .ok (.aload_n 1, 1) := by decide +kernel
theorem dL_law_1652 : decode code 1652 = .ok (.aload_n 0, 1) := by decide +kernel
theorem dL_law_1653 : decode code 1653 = .ok (.iload 4, 2) := by decide +kernel
theorem dL_law_1655 : decode code 1655 = .ok (.iconst 1, 1) := by decide +kernel
theorem dL_law_1656 : decode code 1656 = .ok (.iadd, 1) := by decide +kernel
theorem dL_law_1657 : decode code 1657 = .ok (.iaload, 1) := by decide +kernel
theorem dL_law_1658 : decode code 1658 = .ok (.aload_n 0, 1) := by decide +kernel
theorem dL_law_1659 : decode code 1659 = .ok (.iload 4, 2) := by decide +kernel
theorem dL_law_1661 : decode code 1661 = .ok (.iconst 2, 1) := by decide +kernel
theorem dL_law_1662 : decode code 1662 = .ok (.iadd, 1) := by decide +kernel
theorem dL_law_1663 : decode code 1663 = .ok (.iaload, 1) := by decide +kernel
theorem dL_law_1664 : decode code 1664 = .ok (.aload_n 0, 1) := by decide +kernel
theorem dL_law_1665 : decode code 1665 = .ok (.iload 4, 2) := by decide +kernel
theorem dL_law_1667 : decode code 1667 = .ok (.iconst 3, 1) := by decide +kernel
theorem dL_law_1668 : decode code 1668 = .ok (.iadd, 1) := by decide +kernel
theorem dL_law_1669 : decode code 1669 = .ok (.iaload, 1) := by decide +kernel
theorem dL_law_1670 : decode code 1670 = .ok (.invokevirtual 182, 3) := by decide +kernel
theorem dL_law_1673 : decode code 1673 = .ok (.aload_n 2, 1) := by decide +kernel
theorem dL_law_1674 : decode code 1674 = .ok (.aload_n 0, 1) := by decide +kernel
theorem dL_law_1675 : decode code 1675 = .ok (.iload 4, 2) := by decide +kernel
theorem dL_law_1677 : decode code 1677 = .ok (.iconst 1, 1) := by decide +kernel
theorem dL_law_1678 : decode code 1678 = .ok (.iadd, 1) := by decide +kernel
theorem dL_law_1679 : decode code 1679 = .ok (.iaload, 1) := by decide +kernel
theorem dL_law_1680 : decode code 1680 = .ok (.aload_n 0, 1) := by decide +kernel
theorem dL_law_1681 : decode code 1681 = .ok (.iload 4, 2) := by decide +kernel
theorem dL_law_1683 : decode code 1683 = .ok (.iconst 2, 1) := by decide +kernel
theorem dL_law_1684 : decode code 1684 = .ok (.iadd, 1) := by decide +kernel
theorem dL_law_1685 : decode code 1685 = .ok (.iaload, 1) := by decide +kernel
theorem dL_law_1686 : decode code 1686 = .ok (.aload_n 0, 1) := by decide +kernel
theorem dL_law_1687 : decode code 1687 = .ok (.iload 4, 2) := by decide +kernel
theorem dL_law_1689 : decode code 1689 = .ok (.iconst 3, 1) := by decide +kernel
theorem dL_law_1690 : decode code 1690 = .ok (.iadd, 1) := by decide +kernel
theorem dL_law_1691 : decode code 1691 = .ok (.iaload, 1) := by decide +kernel
theorem dL_law_1692 : decode code 1692 = .ok (.invokevirtual 185, 3) := by decide +kernel
theorem dL_law_1695 : decode code 1695 = .ok (.if_icmp .eq 344, 3) := by decide +kernel
theorem dL_law_1700 : decode code 1700 = .ok (.aload_n 1, 1) := by decide +kernel
theorem dL_law_1701 : decode code 1701 = .ok (.aload_n 0, 1) := by decide +kernel
theorem dL_law_1702 : decode code 1702 = .ok (.iload 4, 2) := by decide +kernel
theorem dL_law_1704 : decode code 1704 = .ok (.iconst 1, 1) := by decide +kernel
theorem dL_law_1705 : decode code 1705 = .ok (.iadd, 1) := by decide +kernel
theorem dL_law_1706 : decode code 1706 = .ok (.iaload, 1) := by decide +kernel
theorem dL_law_1707 : decode code 1707 = .ok (.invokevirtual 186, 3) := by decide +kernel
theorem dL_law_1710 : decode code 1710 = .ok (.aload_n 2, 1) := by decide +kernel
theorem dL_law_1711 : decode code 1711 = .ok (.aload_n 0, 1) := by decide +kernel
theorem dL_law_1712 : decode code 1712 = .ok (.iload 4, 2) := by decide +kernel
theorem dL_law_1714 : decode code 1714 = .ok (.iconst 1, 1) := by decide +kernel
theorem dL_law_1715 : decode code 1715 = .ok (.iadd, 1) := by decide +kernel
theorem dL_law_1716 : decode code 1716 = .ok (.iaload, 1) := by decide +kernel
theorem dL_law_1717 : decode code 1717 = .ok (.invokevirtual 189, 3) := by decide +kernel
theorem dL_law_1720 : decode code 1720 = .ok (.if_icmp .eq 319, 3) := by decide +kernel
theorem dL_law_1725 : decode code 1725 = .ok (.aload_n 1, 1) := by decide +kernel
theorem dL_law_1726 : decode code 1726 = .ok (.aload_n 0, 1) := by decide +kernel
theorem dL_law_1727 : decode code 1727 = .ok (.iload 4, 2) := by decide +kernel
theorem dL_law_1729 : decode code 1729 = .ok (.iconst 1, 1) := by decide +kernel
theorem dL_law_1730 : decode code 1730 = .ok (.iadd, 1) := by decide +kernel
theorem dL_law_1731 : decode code 1731 = .ok (.iaload, 1) := by decide +kernel
theorem dL_law_1732 : decode code 1732 = .ok (.aload_n 0, 1) := by decide +kernel
theorem dL_law_1733 : decode code 1733 = .ok (.iload 4, 2) := by decide +kernel
theorem dL_law_1735 : decode code 1735 = .ok (.iconst 2, 1) := by decide +kernel
theorem dL_law_1736 : decode code 1736 = .ok (.iadd, 1) := by decide +kernel
theorem dL_law_1737 : decode code 1737 = .ok (.iaload, 1) := by decide +kernel
theorem dL_law_1738 : decode code 1738 = .ok (.invokevirtual 190, 3) := by decide +kernel
theorem dL_law_1741 : decode code 1741 = .ok (.aload_n 2, 1) := by decide +kernel
theorem dL_law_1742 : decode code 1742 = .ok (.aload_n 0, 1) := by decide +kernel
theorem dL_law_1743 : decode code 1743 = .ok (.iload 4, 2) := by decide +kernel
theorem dL_law_1745 : decode code 1745 = .ok (.iconst 1, 1) := by decide +kernel
theorem dL_law_1746 : decode code 1746 = .ok (.iadd, 1) := by decide +kernel
theorem dL_law_1747 : decode code 1747 = .ok (.iaload, 1) := by decide +kernel
theorem dL_law_1748 : decode code 1748 = .ok (.aload_n 0, 1) := by decide +kernel
theorem dL_law_1749 : decode code 1749 = .ok (.iload 4, 2) := by decide +kernel
theorem dL_law_1751 : decode code 1751 = .ok (.iconst 2, 1) := by decide +kernel
theorem dL_law_1752 : decode code 1752 = .ok (.iadd, 1) := by decide +kernel
theorem dL_law_1753 : decode code 1753 = .ok (.iaload, 1) := by decide +kernel
theorem dL_law_1754 : decode code 1754 = .ok (.invokevirtual 193, 3) := by decide +kernel
theorem dL_law_1757 : decode code 1757 = .ok (.if_icmp .eq 282, 3) := by decide +kernel
theorem dL_law_1762 : decode code 1762 = .ok (.aload_n 1, 1) := by decide +kernel
theorem dL_law_1763 : decode code 1763 = .ok (.aload_n 0, 1) := by decide +kernel
theorem dL_law_1764 : decode code 1764 = .ok (.iload 4, 2) := by decide +kernel
theorem dL_law_1766 : decode code 1766 = .ok (.iconst 1, 1) := by decide +kernel
theorem dL_law_1767 : decode code 1767 = .ok (.iadd, 1) := by decide +kernel
theorem dL_law_1768 : decode code 1768 = .ok (.iaload, 1) := by decide +kernel
theorem dL_law_1769 : decode code 1769 = .ok (.aload_n 0, 1) := by decide +kernel
theorem dL_law_1770 : decode code 1770 = .ok (.iload 4, 2) := by decide +kernel
theorem dL_law_1772 : decode code 1772 = .ok (.iconst 2, 1) := by decide +kernel
theorem dL_law_1773 : decode code 1773 = .ok (.iadd, 1) := by decide +kernel
theorem dL_law_1774 : decode code 1774 = .ok (.iaload, 1) := by decide +kernel
theorem dL_law_1775 : decode code 1775 = .ok (.invokevirtual 194, 3) := by decide +kernel
theorem dL_law_1778 : decode code 1778 = .ok (.aload_n 2, 1) := by decide +kernel
theorem dL_law_1779 : decode code 1779 = .ok (.aload_n 0, 1) := by decide +kernel
theorem dL_law_1780 : decode code 1780 = .ok (.iload 4, 2) := by decide +kernel
theorem dL_law_1782 : decode code 1782 = .ok (.iconst 1, 1) := by decide +kernel
theorem dL_law_1783 : decode code 1783 = .ok (.iadd, 1) := by decide +kernel
theorem dL_law_1784 : decode code 1784 = .ok (.iaload, 1) := by decide +kernel
theorem dL_law_1785 : decode code 1785 = .ok (.aload_n 0, 1) := by decide +kernel
theorem dL_law_1786 : decode code 1786 = .ok (.iload 4, 2) := by decide +kernel
theorem dL_law_1788 : decode code 1788 = .ok (.iconst 2, 1) := by decide +kernel
theorem dL_law_1789 : decode code 1789 = .ok (.iadd, 1) := by decide +kernel
theorem dL_law_1790 : decode code 1790 = .ok (.iaload, 1) := by decide +kernel
theorem dL_law_1791 : decode code 1791 = .ok (.invokevirtual 197, 3) := by decide +kernel
theorem dL_law_1794 : decode code 1794 = .ok (.if_icmp .eq 245, 3) := by decide +kernel
theorem dL_law_1799 : decode code 1799 = .ok (.aload_n 1, 1) := by decide +kernel
theorem dL_law_1800 : decode code 1800 = .ok (.aload_n 0, 1) := by decide +kernel
theorem dL_law_1801 : decode code 1801 = .ok (.iload 4, 2) := by decide +kernel
theorem dL_law_1803 : decode code 1803 = .ok (.iconst 1, 1) := by decide +kernel
theorem dL_law_1804 : decode code 1804 = .ok (.iadd, 1) := by decide +kernel
theorem dL_law_1805 : decode code 1805 = .ok (.iaload, 1) := by decide +kernel
theorem dL_law_1806 : decode code 1806 = .ok (.invokevirtual 198, 3) := by decide +kernel
theorem dL_law_1809 : decode code 1809 = .ok (.aload_n 2, 1) := by decide +kernel
theorem dL_law_1810 : decode code 1810 = .ok (.aload_n 0, 1) := by decide +kernel
theorem dL_law_1811 : decode code 1811 = .ok (.iload 4, 2) := by decide +kernel
theorem dL_law_1813 : decode code 1813 = .ok (.iconst 1, 1) := by decide +kernel
theorem dL_law_1814 : decode code 1814 = .ok (.iadd, 1) := by decide +kernel
theorem dL_law_1815 : decode code 1815 = .ok (.iaload, 1) := by decide +kernel
theorem dL_law_1816 : decode code 1816 = .ok (.invokevirtual 201, 3) := by decide +kernel
theorem dL_law_1819 : decode code 1819 = .ok (.if_icmp .eq 220, 3) := by decide +kernel
theorem dL_law_1824 : decode code 1824 = .ok (.aload_n 1, 1) := by decide +kernel
theorem dL_law_1825 : decode code 1825 = .ok (.aload_n 0, 1) := by decide +kernel
theorem dL_law_1826 : decode code 1826 = .ok (.iload 4, 2) := by decide +kernel
theorem dL_law_1828 : decode code 1828 = .ok (.iconst 1, 1) := by decide +kernel
theorem dL_law_1829 : decode code 1829 = .ok (.iadd, 1) := by decide +kernel
theorem dL_law_1830 : decode code 1830 = .ok (.iaload, 1) := by decide +kernel
theorem dL_law_1831 : decode code 1831 = .ok (.invokevirtual 202, 3) := by decide +kernel
theorem dL_law_1834 : decode code 1834 = .ok (.aload_n 2, 1) := by decide +kernel
theorem dL_law_1835 : decode code 1835 = .ok (.aload_n 0, 1) := by decide +kernel
theorem dL_law_1836 : decode code 1836 = .ok (.iload 4, 2) := by decide +kernel
theorem dL_law_1838 : decode code 1838 = .ok (.iconst 1, 1) := by decide +kernel
theorem dL_law_1839 : decode code 1839 = .ok (.iadd, 1) := by decide +kernel
theorem dL_law_1840 : decode code 1840 = .ok (.iaload, 1) := by decide +kernel
theorem dL_law_1841 : decode code 1841 = .ok (.invokevirtual 205, 3) := by decide +kernel
theorem dL_law_1844 : decode code 1844 = .ok (.if_icmp .eq 195, 3) := by decide +kernel
theorem dL_law_1849 : decode code 1849 = .ok (.aload_n 1, 1) := by decide +kernel
theorem dL_law_1850 : decode code 1850 = .ok (.invokevirtual 206, 3) := by decide +kernel
theorem dL_law_1853 : decode code 1853 = .ok (.aload_n 2, 1) := by decide +kernel
theorem dL_law_1854 : decode code 1854 = .ok (.invokevirtual 209, 3) := by decide +kernel
theorem dL_law_1857 : decode code 1857 = .ok (.if_icmp .eq 182, 3) := by decide +kernel
theorem dL_law_1862 : decode code 1862 = .ok (.aload_n 1, 1) := by decide +kernel
theorem dL_law_1863 : decode code 1863 = .ok (.aload_n 0, 1) := by decide +kernel
theorem dL_law_1864 : decode code 1864 = .ok (.iload 4, 2) := by decide +kernel
theorem dL_law_1866 : decode code 1866 = .ok (.iconst 1, 1) := by decide +kernel
theorem dL_law_1867 : decode code 1867 = .ok (.iadd, 1) := by decide +kernel
theorem dL_law_1868 : decode code 1868 = .ok (.iaload, 1) := by decide +kernel
theorem dL_law_1869 : decode code 1869 = .ok (.invokevirtual 210, 3) := by decide +kernel
theorem dL_law_1872 : decode code 1872 = .ok (.aload_n 2, 1) := by decide +kernel
theorem dL_law_1873 : decode code 1873 = .ok (.aload_n 0, 1) := by decide +kernel
theorem dL_law_1874 : decode code 1874 = .ok (.iload 4, 2) := by decide +kernel
theorem dL_law_1876 : decode code 1876 = .ok (.iconst 1, 1) := by decide +kernel
theorem dL_law_1877 : decode code 1877 = .ok (.iadd, 1) := by decide +kernel
theorem dL_law_1878 : decode code 1878 = .ok (.iaload, 1) := by decide +kernel
theorem dL_law_1879 : decode code 1879 = .ok (.invokevirtual 213, 3) := by decide +kernel
theorem dL_law_1882 : decode code 1882 = .ok (.lcmp, 1) := by decide +kernel
theorem dL_law_1883 : decode code 1883 = .ok (.ifCond .eq 156, 3) := by decide +kernel
theorem dL_law_1888 : decode code 1888 = .ok (.aload_n 1, 1) := by decide +kernel
theorem dL_law_1889 : decode code 1889 = .ok (.aload_n 0, 1) := by decide +kernel
theorem dL_law_1890 : decode code 1890 = .ok (.iload 4, 2) := by decide +kernel
theorem dL_law_1892 : decode code 1892 = .ok (.iconst 1, 1) := by decide +kernel
theorem dL_law_1893 : decode code 1893 = .ok (.iadd, 1) := by decide +kernel
theorem dL_law_1894 : decode code 1894 = .ok (.iaload, 1) := by decide +kernel
theorem dL_law_1895 : decode code 1895 = .ok (.invokevirtual 214, 3) := by decide +kernel
theorem dL_law_1898 : decode code 1898 = .ok (.aload_n 2, 1) := by decide +kernel
theorem dL_law_1899 : decode code 1899 = .ok (.aload_n 0, 1) := by decide +kernel
theorem dL_law_1900 : decode code 1900 = .ok (.iload 4, 2) := by decide +kernel
theorem dL_law_1902 : decode code 1902 = .ok (.iconst 1, 1) := by decide +kernel
theorem dL_law_1903 : decode code 1903 = .ok (.iadd, 1) := by decide +kernel
theorem dL_law_1904 : decode code 1904 = .ok (.iaload, 1) := by decide +kernel
theorem dL_law_1905 : decode code 1905 = .ok (.invokevirtual 217, 3) := by decide +kernel
theorem dL_law_1908 : decode code 1908 = .ok (.if_icmp .eq 131, 3) := by decide +kernel
theorem dL_law_1913 : decode code 1913 = .ok (.aload_n 1, 1) := by decide +kernel
theorem dL_law_1914 : decode code 1914 = .ok (.aload_n 0, 1) := by decide +kernel
theorem dL_law_1915 : decode code 1915 = .ok (.iload 4, 2) := by decide +kernel
theorem dL_law_1917 : decode code 1917 = .ok (.iconst 1, 1) := by decide +kernel
theorem dL_law_1918 : decode code 1918 = .ok (.iadd, 1) := by decide +kernel
theorem dL_law_1919 : decode code 1919 = .ok (.iaload, 1) := by decide +kernel
theorem dL_law_1920 : decode code 1920 = .ok (.aload_n 0, 1) := by decide +kernel
theorem dL_law_1921 : decode code 1921 = .ok (.iload 4, 2) := by decide +kernel
theorem dL_law_1923 : decode code 1923 = .ok (.iconst 2, 1) := by decide +kernel
theorem dL_law_1924 : decode code 1924 = .ok (.iadd, 1) := by decide +kernel
theorem dL_law_1925 : decode code 1925 = .ok (.iaload, 1) := by decide +kernel
theorem dL_law_1926 : decode code 1926 = .ok (.invokevirtual 218, 3) := by decide +kernel
theorem dL_law_1929 : decode code 1929 = .ok (.aload_n 2, 1) := by decide +kernel
theorem dL_law_1930 : decode code 1930 = .ok (.aload_n 0, 1) := by decide +kernel
theorem dL_law_1931 : decode code 1931 = .ok (.iload 4, 2) := by decide +kernel
theorem dL_law_1933 : decode code 1933 = .ok (.iconst 1, 1) := by decide +kernel
theorem dL_law_1934 : decode code 1934 = .ok (.iadd, 1) := by decide +kernel
theorem dL_law_1935 : decode code 1935 = .ok (.iaload, 1) := by decide +kernel
theorem dL_law_1936 : decode code 1936 = .ok (.aload_n 0, 1) := by decide +kernel
theorem dL_law_1937 : decode code 1937 = .ok (.iload 4, 2) := by decide +kernel
theorem dL_law_1939 : decode code 1939 = .ok (.iconst 2, 1) := by decide +kernel
theorem dL_law_1940 : decode code 1940 = .ok (.iadd, 1) := by decide +kernel
theorem dL_law_1941 : decode code 1941 = .ok (.iaload, 1) := by decide +kernel
theorem dL_law_1942 : decode code 1942 = .ok (.invokevirtual 221, 3) := by decide +kernel
theorem dL_law_1945 : decode code 1945 = .ok (.if_icmp .eq 94, 3) := by decide +kernel
theorem dL_law_1950 : decode code 1950 = .ok (.aload_n 1, 1) := by decide +kernel
theorem dL_law_1951 : decode code 1951 = .ok (.invokevirtual 222, 3) := by decide +kernel
theorem dL_law_1954 : decode code 1954 = .ok (.aload_n 2, 1) := by decide +kernel
theorem dL_law_1955 : decode code 1955 = .ok (.invokevirtual 225, 3) := by decide +kernel
theorem dL_law_1958 : decode code 1958 = .ok (.if_icmp .eq 81, 3) := by decide +kernel
theorem dL_law_1963 : decode code 1963 = .ok (.aload_n 1, 1) := by decide +kernel
theorem dL_law_1964 : decode code 1964 = .ok (.aload_n 0, 1) := by decide +kernel
theorem dL_law_1965 : decode code 1965 = .ok (.iload 4, 2) := by decide +kernel
theorem dL_law_1967 : decode code 1967 = .ok (.iconst 1, 1) := by decide +kernel
theorem dL_law_1968 : decode code 1968 = .ok (.iadd, 1) := by decide +kernel
theorem dL_law_1969 : decode code 1969 = .ok (.iaload, 1) := by decide +kernel
theorem dL_law_1970 : decode code 1970 = .ok (.invokevirtual 226, 3) := by decide +kernel
theorem dL_law_1973 : decode code 1973 = .ok (.aload_n 2, 1) := by decide +kernel
theorem dL_law_1974 : decode code 1974 = .ok (.aload_n 0, 1) := by decide +kernel
theorem dL_law_1975 : decode code 1975 = .ok (.iload 4, 2) := by decide +kernel
theorem dL_law_1977 : decode code 1977 = .ok (.iconst 1, 1) := by decide +kernel
theorem dL_law_1978 : decode code 1978 = .ok (.iadd, 1) := by decide +kernel
theorem dL_law_1979 : decode code 1979 = .ok (.iaload, 1) := by decide +kernel
theorem dL_law_1980 : decode code 1980 = .ok (.invokevirtual 229, 3) := by decide +kernel
theorem dL_law_1983 : decode code 1983 = .ok (.if_icmp .eq 56, 3) := by decide +kernel
theorem dL_law_1988 : decode code 1988 = .ok (.aload_n 1, 1) := by decide +kernel
theorem dL_law_1989 : decode code 1989 = .ok (.invokevirtual 230, 3) := by decide +kernel
theorem dL_law_1992 : decode code 1992 = .ok (.aload_n 2, 1) := by decide +kernel
theorem dL_law_1993 : decode code 1993 = .ok (.invokevirtual 233, 3) := by decide +kernel
theorem dL_law_1996 : decode code 1996 = .ok (.if_icmp .eq 43, 3) := by decide +kernel
theorem dL_law_2001 : decode code 2001 = .ok (.aload_n 1, 1) := by decide +kernel
theorem dL_law_2002 : decode code 2002 = .ok (.invokevirtual 234, 3) := by decide +kernel
theorem dL_law_2005 : decode code 2005 = .ok (.aload_n 2, 1) := by decide +kernel
theorem dL_law_2006 : decode code 2006 = .ok (.invokevirtual 237, 3) := by decide +kernel
theorem dL_law_2009 : decode code 2009 = .ok (.if_icmp .eq 30, 3) := by decide +kernel
theorem dL_law_2014 : decode code 2014 = .ok (.aload_n 1, 1) := by decide +kernel
theorem dL_law_2015 : decode code 2015 = .ok (.aload_n 0, 1) := by decide +kernel
theorem dL_law_2016 : decode code 2016 = .ok (.iload 4, 2) := by decide +kernel
theorem dL_law_2018 : decode code 2018 = .ok (.iconst 1, 1) := by decide +kernel
theorem dL_law_2019 : decode code 2019 = .ok (.iadd, 1) := by decide +kernel
theorem dL_law_2020 : decode code 2020 = .ok (.iaload, 1) := by decide +kernel
theorem dL_law_2021 : decode code 2021 = .ok (.invokevirtual 238, 3) := by decide +kernel
theorem dL_law_2024 : decode code 2024 = .ok (.aload_n 2, 1) := by decide +kernel
theorem dL_law_2025 : decode code 2025 = .ok (.aload_n 0, 1) := by decide +kernel
theorem dL_law_2026 : decode code 2026 = .ok (.iload 4, 2) := by decide +kernel
theorem dL_law_2028 : decode code 2028 = .ok (.iconst 1, 1) := by decide +kernel
theorem dL_law_2029 : decode code 2029 = .ok (.iadd, 1) := by decide +kernel
theorem dL_law_2030 : decode code 2030 = .ok (.iaload, 1) := by decide +kernel
theorem dL_law_2031 : decode code 2031 = .ok (.invokevirtual 241, 3) := by decide +kernel
theorem dL_law_2034 : decode code 2034 = .ok (.if_icmp .eq 5, 3) := by decide +kernel
theorem dL_law_2039 : decode code 2039 = .ok (.iinc 4 7, 3) := by decide +kernel
theorem dL_law_2042 : decode code 2042 = .ok (.goto (-2019), 3) := by decide +kernel
theorem dL_law_2045 : decode code 2045 = .ok (.iconst 1, 1) := by decide +kernel
theorem dL_law_2046 : decode code 2046 = .ok (.ireturn, 1) := by decide +kernel
theorem kv_L_100 : q_KV RL 100 yX12_which cX12_which 6 (some .int) 1 12 := ⟨⟨q_in _ 1907 (by decide +kernel) rfl, q_in _ 1904 (by decide +kernel) rfl, q_in _ 13 (by decide +kernel) rfl, by decide +kernel, by decide⟩, q_in _ 1905 (by decide +kernel) rfl, q_in _ 1906 (by decide +kernel) rfl, TX12, 70, rfl, by decide⟩
theorem kv_L_101 : q_KV RL 101 yX11_quiet cX11_quiet 4 (some .int) 1 11 := ⟨⟨q_in _ 959 (by decide +kernel) rfl, q_in _ 956 (by decide +kernel) rfl, q_in _ 1 (by decide +kernel) rfl, by decide +kernel, by decide⟩, q_in _ 957 (by decide +kernel) rfl, q_in _ 958 (by decide +kernel) rfl, TX11, 13, rfl, by decide⟩
theorem kv_L_104 : q_KV RL 104 yX12_quiet cX12_quiet 4 (some .int) 1 12 := ⟨⟨q_in _ 1911 (by decide +kernel) rfl, q_in _ 1908 (by decide +kernel) rfl, q_in _ 13 (by decide +kernel) rfl, by decide +kernel, by decide⟩, q_in _ 1909 (by decide +kernel) rfl, q_in _ 1910 (by decide +kernel) rfl, TX12, 70, rfl, by decide⟩
theorem kv_L_105 : q_KV RL 105 yX11_pay cX11_pay 5 (some .int) 3 11 := ⟨⟨q_in _ 963 (by decide +kernel) rfl, q_in _ 960 (by decide +kernel) rfl, q_in _ 1 (by decide +kernel) rfl, by decide +kernel, by decide⟩, q_in _ 961 (by decide +kernel) rfl, q_in _ 962 (by decide +kernel) rfl, TX11, 13, rfl, by decide⟩
theorem kv_L_108 : q_KV RL 108 yX12_pay cX12_pay 6 (some .int) 3 12 := ⟨⟨q_in _ 1915 (by decide +kernel) rfl, q_in _ 1912 (by decide +kernel) rfl, q_in _ 13 (by decide +kernel) rfl, by decide +kernel, by decide⟩, q_in _ 1913 (by decide +kernel) rfl, q_in _ 1914 (by decide +kernel) rfl, TX12, 70, rfl, by decide⟩
theorem kv_L_109 : q_KV RL 109 yX11_price cX11_price 4 (some .int) 2 11 := ⟨⟨q_in _ 975 (by decide +kernel) rfl, q_in _ 972 (by decide +kernel) rfl, q_in _ 1 (by decide +kernel) rfl, by decide +kernel, by decide⟩, q_in _ 973 (by decide +kernel) rfl, q_in _ 974 (by decide +kernel) rfl, TX11, 13, rfl, by decide⟩
theorem kv_L_112 : q_KV RL 112 yX12_price cX12_price 5 (some .int) 2 12 := ⟨⟨q_in _ 1919 (by decide +kernel) rfl, q_in _ 1916 (by decide +kernel) rfl, q_in _ 13 (by decide +kernel) rfl, by decide +kernel, by decide⟩, q_in _ 1917 (by decide +kernel) rfl, q_in _ 1918 (by decide +kernel) rfl, TX12, 70, rfl, by decide⟩
theorem kv_L_113 : q_KV RL 113 yX11_strangers cX11_strangers 4 (some .int) 2 11 := ⟨⟨q_in _ 980 (by decide +kernel) rfl, q_in _ 977 (by decide +kernel) rfl, q_in _ 1 (by decide +kernel) rfl, by decide +kernel, by decide⟩, q_in _ 978 (by decide +kernel) rfl, q_in _ 979 (by decide +kernel) rfl, TX11, 13, rfl, by decide⟩
theorem kv_L_116 : q_KV RL 116 yX12_strangers cX12_strangers 5 (some .int) 2 12 := ⟨⟨q_in _ 1923 (by decide +kernel) rfl, q_in _ 1920 (by decide +kernel) rfl, q_in _ 13 (by decide +kernel) rfl, by decide +kernel, by decide⟩, q_in _ 1921 (by decide +kernel) rfl, q_in _ 1922 (by decide +kernel) rfl, TX12, 70, rfl, by decide⟩
theorem kv_L_117 : q_KV RL 117 yX11_row cX11_row 8 (some .boolean) 6 11 := ⟨⟨q_in _ 1047 (by decide +kernel) rfl, q_in _ 1044 (by decide +kernel) rfl, q_in _ 1 (by decide +kernel) rfl, by decide +kernel, by decide⟩, q_in _ 1045 (by decide +kernel) rfl, q_in _ 1046 (by decide +kernel) rfl, TX11, 13, rfl, by decide⟩
theorem kv_L_121 : q_KV RL 121 yX12_row cX12_row 8 (some .boolean) 6 12 := ⟨⟨q_in _ 1927 (by decide +kernel) rfl, q_in _ 1924 (by decide +kernel) rfl, q_in _ 13 (by decide +kernel) rfl, by decide +kernel, by decide⟩, q_in _ 1925 (by decide +kernel) rfl, q_in _ 1926 (by decide +kernel) rfl, TX12, 70, rfl, by decide⟩
theorem kv_L_122 : q_KV RL 122 yX11_chance cX11_chance 3 (some .boolean) 2 11 := ⟨⟨q_in _ 1056 (by decide +kernel) rfl, q_in _ 1053 (by decide +kernel) rfl, q_in _ 1 (by decide +kernel) rfl, by decide +kernel, by decide⟩, q_in _ 1054 (by decide +kernel) rfl, q_in _ 1055 (by decide +kernel) rfl, TX11, 13, rfl, by decide⟩
theorem kv_L_125 : q_KV RL 125 yX12_chance cX12_chance 3 (some .boolean) 2 12 := ⟨⟨q_in _ 1931 (by decide +kernel) rfl, q_in _ 1928 (by decide +kernel) rfl, q_in _ 13 (by decide +kernel) rfl, by decide +kernel, by decide⟩, q_in _ 1929 (by decide +kernel) rfl, q_in _ 1930 (by decide +kernel) rfl, TX12, 70, rfl, by decide⟩
theorem kv_L_126 : q_KV RL 126 yX11_taken cX11_taken 2 (some .int) 1 11 := ⟨⟨q_in _ 1060 (by decide +kernel) rfl, q_in _ 1057 (by decide +kernel) rfl, q_in _ 1 (by decide +kernel) rfl, by decide +kernel, by decide⟩, q_in _ 1058 (by decide +kernel) rfl, q_in _ 1059 (by decide +kernel) rfl, TX11, 13, rfl, by decide⟩
theorem kv_L_129 : q_KV RL 129 yX12_taken cX12_taken 7 (some .int) 1 12 := ⟨⟨q_in _ 1935 (by decide +kernel) rfl, q_in _ 1932 (by decide +kernel) rfl, q_in _ 13 (by decide +kernel) rfl, by decide +kernel, by decide⟩, q_in _ 1933 (by decide +kernel) rfl, q_in _ 1934 (by decide +kernel) rfl, TX12, 70, rfl, by decide⟩
theorem kv_L_134 : q_KV RL 134 yX11_best cX11_best 1 (some .int) 0 11 := ⟨⟨q_in _ 1098 (by decide +kernel) rfl, q_in _ 1095 (by decide +kernel) rfl, q_in _ 1 (by decide +kernel) rfl, by decide +kernel, by decide⟩, q_in _ 1096 (by decide +kernel) rfl, q_in _ 1097 (by decide +kernel) rfl, TX11, 13, rfl, by decide⟩
theorem kv_L_137 : q_KV RL 137 yX12_best cX12_best 1 (some .int) 0 12 := ⟨⟨q_in _ 1970 (by decide +kernel) rfl, q_in _ 1967 (by decide +kernel) rfl, q_in _ 13 (by decide +kernel) rfl, by decide +kernel, by decide⟩, q_in _ 1968 (by decide +kernel) rfl, q_in _ 1969 (by decide +kernel) rfl, TX12, 70, rfl, by decide⟩
theorem kv_L_138 : q_KV RL 138 yX11_rest cX11_rest 2 (some .int) 1 11 := ⟨⟨q_in _ 1112 (by decide +kernel) rfl, q_in _ 1109 (by decide +kernel) rfl, q_in _ 1 (by decide +kernel) rfl, by decide +kernel, by decide⟩, q_in _ 1110 (by decide +kernel) rfl, q_in _ 1111 (by decide +kernel) rfl, TX11, 13, rfl, by decide⟩
theorem kv_L_141 : q_KV RL 141 yX12_rest cX12_rest 2 (some .int) 1 12 := ⟨⟨q_in _ 1978 (by decide +kernel) rfl, q_in _ 1975 (by decide +kernel) rfl, q_in _ 13 (by decide +kernel) rfl, by decide +kernel, by decide⟩, q_in _ 1976 (by decide +kernel) rfl, q_in _ 1977 (by decide +kernel) rfl, TX12, 70, rfl, by decide⟩
theorem kv_L_142 : q_KV RL 142 yX11_found cX11_found 3 (some .int) 2 11 := ⟨⟨q_in _ 1122 (by decide +kernel) rfl, q_in _ 1119 (by decide +kernel) rfl, q_in _ 1 (by decide +kernel) rfl, by decide +kernel, by decide⟩, q_in _ 1120 (by decide +kernel) rfl, q_in _ 1121 (by decide +kernel) rfl, TX11, 13, rfl, by decide⟩
theorem kv_L_145 : q_KV RL 145 yX12_found cX12_found 9 (some .int) 2 12 := ⟨⟨q_in _ 1986 (by decide +kernel) rfl, q_in _ 1983 (by decide +kernel) rfl, q_in _ 13 (by decide +kernel) rfl, by decide +kernel, by decide⟩, q_in _ 1984 (by decide +kernel) rfl, q_in _ 1985 (by decide +kernel) rfl, TX12, 70, rfl, by decide⟩
theorem kv_L_146 : q_KV RL 146 yX11_tell cX11_tell 3 (some .boolean) 2 11 := ⟨⟨q_in _ 1156 (by decide +kernel) rfl, q_in _ 1153 (by decide +kernel) rfl, q_in _ 1 (by decide +kernel) rfl, by decide +kernel, by decide⟩, q_in _ 1154 (by decide +kernel) rfl, q_in _ 1155 (by decide +kernel) rfl, TX11, 13, rfl, by decide⟩
theorem kv_L_149 : q_KV RL 149 yX12_tell cX12_tell 4 (some .boolean) 2 12 := ⟨⟨q_in _ 1990 (by decide +kernel) rfl, q_in _ 1987 (by decide +kernel) rfl, q_in _ 13 (by decide +kernel) rfl, by decide +kernel, by decide⟩, q_in _ 1988 (by decide +kernel) rfl, q_in _ 1989 (by decide +kernel) rfl, TX12, 70, rfl, by decide⟩
theorem kv_L_150 : q_KV RL 150 yX11_came cX11_came 3 (some .boolean) 2 11 := ⟨⟨q_in _ 1165 (by decide +kernel) rfl, q_in _ 1162 (by decide +kernel) rfl, q_in _ 1 (by decide +kernel) rfl, by decide +kernel, by decide⟩, q_in _ 1163 (by decide +kernel) rfl, q_in _ 1164 (by decide +kernel) rfl, TX11, 13, rfl, by decide⟩
theorem kv_L_153 : q_KV RL 153 yX12_came cX12_came 3 (some .boolean) 2 12 := ⟨⟨q_in _ 1994 (by decide +kernel) rfl, q_in _ 1991 (by decide +kernel) rfl, q_in _ 13 (by decide +kernel) rfl, by decide +kernel, by decide⟩, q_in _ 1992 (by decide +kernel) rfl, q_in _ 1993 (by decide +kernel) rfl, TX12, 70, rfl, by decide⟩
theorem kv_L_154 : q_KV RL 154 yX11_told cX11_told 3 (some .int) 2 11 := ⟨⟨q_in _ 1173 (by decide +kernel) rfl, q_in _ 1170 (by decide +kernel) rfl, q_in _ 1 (by decide +kernel) rfl, by decide +kernel, by decide⟩, q_in _ 1171 (by decide +kernel) rfl, q_in _ 1172 (by decide +kernel) rfl, TX11, 13, rfl, by decide⟩
theorem kv_L_157 : q_KV RL 157 yX12_told cX12_told 3 (some .int) 2 12 := ⟨⟨q_in _ 2002 (by decide +kernel) rfl, q_in _ 1999 (by decide +kernel) rfl, q_in _ 13 (by decide +kernel) rfl, by decide +kernel, by decide⟩, q_in _ 2000 (by decide +kernel) rfl, q_in _ 2001 (by decide +kernel) rfl, TX12, 70, rfl, by decide⟩
theorem kv_L_158 : q_KV RL 158 yX11_ill cX11_ill 3 (some .int) 0 11 := ⟨⟨q_in _ 1214 (by decide +kernel) rfl, q_in _ 1211 (by decide +kernel) rfl, q_in _ 1 (by decide +kernel) rfl, by decide +kernel, by decide⟩, q_in _ 1212 (by decide +kernel) rfl, q_in _ 1213 (by decide +kernel) rfl, TX11, 13, rfl, by decide⟩
theorem kv_L_161 : q_KV RL 161 yX12_ill cX12_ill 3 (some .int) 0 12 := ⟨⟨q_in _ 2022 (by decide +kernel) rfl, q_in _ 2019 (by decide +kernel) rfl, q_in _ 13 (by decide +kernel) rfl, by decide +kernel, by decide⟩, q_in _ 2020 (by decide +kernel) rfl, q_in _ 2021 (by decide +kernel) rfl, TX12, 70, rfl, by decide⟩
theorem kv_L_162 : q_KV RL 162 yX11_settle cX11_settle 1 (some .int) 0 11 := ⟨⟨q_in _ 1218 (by decide +kernel) rfl, q_in _ 1215 (by decide +kernel) rfl, q_in _ 1 (by decide +kernel) rfl, by decide +kernel, by decide⟩, q_in _ 1216 (by decide +kernel) rfl, q_in _ 1217 (by decide +kernel) rfl, TX11, 13, rfl, by decide⟩
theorem kv_L_165 : q_KV RL 165 yX12_settle cX12_settle 5 (some .int) 0 12 := ⟨⟨q_in _ 2026 (by decide +kernel) rfl, q_in _ 2023 (by decide +kernel) rfl, q_in _ 13 (by decide +kernel) rfl, by decide +kernel, by decide⟩, q_in _ 2024 (by decide +kernel) rfl, q_in _ 2025 (by decide +kernel) rfl, TX12, 70, rfl, by decide⟩
theorem kv_L_166 : q_KV RL 166 yX11_between cX11_between 2 (some .boolean) 1 11 := ⟨⟨q_in _ 1228 (by decide +kernel) rfl, q_in _ 1225 (by decide +kernel) rfl, q_in _ 1 (by decide +kernel) rfl, by decide +kernel, by decide⟩, q_in _ 1226 (by decide +kernel) rfl, q_in _ 1227 (by decide +kernel) rfl, TX11, 13, rfl, by decide⟩
theorem kv_L_169 : q_KV RL 169 yX12_between cX12_between 2 (some .boolean) 1 12 := ⟨⟨q_in _ 2030 (by decide +kernel) rfl, q_in _ 2027 (by decide +kernel) rfl, q_in _ 13 (by decide +kernel) rfl, by decide +kernel, by decide⟩, q_in _ 2028 (by decide +kernel) rfl, q_in _ 2029 (by decide +kernel) rfl, TX12, 70, rfl, by decide⟩
theorem kv_L_170 : q_KV RL 170 yX11_round cX11_round 3 (some .int) 2 11 := ⟨⟨q_in _ 1232 (by decide +kernel) rfl, q_in _ 1229 (by decide +kernel) rfl, q_in _ 1 (by decide +kernel) rfl, by decide +kernel, by decide⟩, q_in _ 1230 (by decide +kernel) rfl, q_in _ 1231 (by decide +kernel) rfl, TX11, 13, rfl, by decide⟩
theorem kv_L_173 : q_KV RL 173 yX12_round cX12_round 8 (some .int) 2 12 := ⟨⟨q_in _ 2034 (by decide +kernel) rfl, q_in _ 2031 (by decide +kernel) rfl, q_in _ 13 (by decide +kernel) rfl, by decide +kernel, by decide⟩, q_in _ 2032 (by decide +kernel) rfl, q_in _ 2033 (by decide +kernel) rfl, TX12, 70, rfl, by decide⟩
theorem kv_L_174 : q_KV RL 174 yX11_ends cX11_ends 3 (some .int) 2 11 := ⟨⟨q_in _ 988 (by decide +kernel) rfl, q_in _ 985 (by decide +kernel) rfl, q_in _ 1 (by decide +kernel) rfl, by decide +kernel, by decide⟩, q_in _ 986 (by decide +kernel) rfl, q_in _ 987 (by decide +kernel) rfl, TX11, 13, rfl, by decide⟩
theorem kv_L_177 : q_KV RL 177 yX12_ends cX12_ends 5 (some .int) 2 12 := ⟨⟨q_in _ 2050 (by decide +kernel) rfl, q_in _ 2047 (by decide +kernel) rfl, q_in _ 13 (by decide +kernel) rfl, by decide +kernel, by decide⟩, q_in _ 2048 (by decide +kernel) rfl, q_in _ 2049 (by decide +kernel) rfl, TX12, 70, rfl, by decide⟩
theorem kv_L_178 : q_KV RL 178 yX11_both cX11_both 4 (some .int) 3 11 := ⟨⟨q_in _ 999 (by decide +kernel) rfl, q_in _ 996 (by decide +kernel) rfl, q_in _ 1 (by decide +kernel) rfl, by decide +kernel, by decide⟩, q_in _ 997 (by decide +kernel) rfl, q_in _ 998 (by decide +kernel) rfl, TX11, 13, rfl, by decide⟩
theorem kv_L_181 : q_KV RL 181 yX12_both cX12_both 6 (some .int) 3 12 := ⟨⟨q_in _ 2054 (by decide +kernel) rfl, q_in _ 2051 (by decide +kernel) rfl, q_in _ 13 (by decide +kernel) rfl, by decide +kernel, by decide⟩, q_in _ 2052 (by decide +kernel) rfl, q_in _ 2053 (by decide +kernel) rfl, TX12, 70, rfl, by decide⟩
theorem kv_L_182 : q_KV RL 182 yX11_kin cX11_kin 5 (some .int) 3 11 := ⟨⟨q_in _ 1004 (by decide +kernel) rfl, q_in _ 1001 (by decide +kernel) rfl, q_in _ 1 (by decide +kernel) rfl, by decide +kernel, by decide⟩, q_in _ 1002 (by decide +kernel) rfl, q_in _ 1003 (by decide +kernel) rfl, TX11, 13, rfl, by decide⟩
theorem kv_L_185 : q_KV RL 185 yX12_kin cX12_kin 6 (some .int) 3 12 := ⟨⟨q_in _ 2058 (by decide +kernel) rfl, q_in _ 2055 (by decide +kernel) rfl, q_in _ 13 (by decide +kernel) rfl, by decide +kernel, by decide⟩, q_in _ 2056 (by decide +kernel) rfl, q_in _ 2057 (by decide +kernel) rfl, TX12, 70, rfl, by decide⟩
theorem kv_L_186 : q_KV RL 186 yX11_seen cX11_seen 2 (some .int) 1 11 := ⟨⟨q_in _ 1008 (by decide +kernel) rfl, q_in _ 1005 (by decide +kernel) rfl, q_in _ 1 (by decide +kernel) rfl, by decide +kernel, by decide⟩, q_in _ 1006 (by decide +kernel) rfl, q_in _ 1007 (by decide +kernel) rfl, TX11, 13, rfl, by decide⟩
theorem kv_L_189 : q_KV RL 189 yX12_seen cX12_seen 4 (some .int) 1 12 := ⟨⟨q_in _ 2062 (by decide +kernel) rfl, q_in _ 2059 (by decide +kernel) rfl, q_in _ 13 (by decide +kernel) rfl, by decide +kernel, by decide⟩, q_in _ 2060 (by decide +kernel) rfl, q_in _ 2061 (by decide +kernel) rfl, TX12, 70, rfl, by decide⟩
theorem kv_L_190 : q_KV RL 190 yX11_gains cX11_gains 3 (some .int) 2 11 := ⟨⟨q_in _ 1016 (by decide +kernel) rfl, q_in _ 1013 (by decide +kernel) rfl, q_in _ 1 (by decide +kernel) rfl, by decide +kernel, by decide⟩, q_in _ 1014 (by decide +kernel) rfl, q_in _ 1015 (by decide +kernel) rfl, TX11, 13, rfl, by decide⟩
theorem kv_L_193 : q_KV RL 193 yX12_gains cX12_gains 4 (some .int) 2 12 := ⟨⟨q_in _ 2066 (by decide +kernel) rfl, q_in _ 2063 (by decide +kernel) rfl, q_in _ 13 (by decide +kernel) rfl, by decide +kernel, by decide⟩, q_in _ 2064 (by decide +kernel) rfl, q_in _ 2065 (by decide +kernel) rfl, TX12, 70, rfl, by decide⟩
theorem kv_L_194 : q_KV RL 194 yX11_better cX11_better 3 (some .int) 2 11 := ⟨⟨q_in _ 1024 (by decide +kernel) rfl, q_in _ 1021 (by decide +kernel) rfl, q_in _ 1 (by decide +kernel) rfl, by decide +kernel, by decide⟩, q_in _ 1022 (by decide +kernel) rfl, q_in _ 1023 (by decide +kernel) rfl, TX11, 13, rfl, by decide⟩
theorem kv_L_197 : q_KV RL 197 yX12_better cX12_better 4 (some .int) 2 12 := ⟨⟨q_in _ 2078 (by decide +kernel) rfl, q_in _ 2075 (by decide +kernel) rfl, q_in _ 13 (by decide +kernel) rfl, by decide +kernel, by decide⟩, q_in _ 2076 (by decide +kernel) rfl, q_in _ 2077 (by decide +kernel) rfl, TX12, 70, rfl, by decide⟩
theorem kv_L_198 : q_KV RL 198 yX11_agree cX11_agree 7 (some .int) 1 11 := ⟨⟨q_in _ 1034 (by decide +kernel) rfl, q_in _ 1031 (by decide +kernel) rfl, q_in _ 1 (by decide +kernel) rfl, by decide +kernel, by decide⟩, q_in _ 1032 (by decide +kernel) rfl, q_in _ 1033 (by decide +kernel) rfl, TX11, 13, rfl, by decide⟩
theorem kv_L_201 : q_KV RL 201 yX12_agree cX12_agree 7 (some .int) 1 12 := ⟨⟨q_in _ 2086 (by decide +kernel) rfl, q_in _ 2083 (by decide +kernel) rfl, q_in _ 13 (by decide +kernel) rfl, by decide +kernel, by decide⟩, q_in _ 2084 (by decide +kernel) rfl, q_in _ 2085 (by decide +kernel) rfl, TX12, 70, rfl, by decide⟩
theorem kv_L_202 : q_KV RL 202 yX11_wayOf cX11_wayOf 2 (some .int) 1 11 := ⟨⟨q_in _ 751 (by decide +kernel) rfl, q_in _ 748 (by decide +kernel) rfl, q_in _ 1 (by decide +kernel) rfl, by decide +kernel, by decide⟩, q_in _ 749 (by decide +kernel) rfl, q_in _ 750 (by decide +kernel) rfl, TX11, 13, rfl, by decide⟩
theorem kv_L_205 : q_KV RL 205 yX12_wayOf cX12_wayOf 2 (some .int) 1 12 := ⟨⟨q_in _ 2090 (by decide +kernel) rfl, q_in _ 2087 (by decide +kernel) rfl, q_in _ 13 (by decide +kernel) rfl, by decide +kernel, by decide⟩, q_in _ 2088 (by decide +kernel) rfl, q_in _ 2089 (by decide +kernel) rfl, TX12, 70, rfl, by decide⟩
theorem kv_L_206 : q_KV RL 206 yX11_mean cX11_mean 1 (some .int) 0 11 := ⟨⟨q_in _ 1131 (by decide +kernel) rfl, q_in _ 1128 (by decide +kernel) rfl, q_in _ 1 (by decide +kernel) rfl, by decide +kernel, by decide⟩, q_in _ 1129 (by decide +kernel) rfl, q_in _ 1130 (by decide +kernel) rfl, TX11, 13, rfl, by decide⟩
theorem kv_L_209 : q_KV RL 209 yX12_mean cX12_mean 8 (some .int) 0 12 := ⟨⟨q_in _ 2094 (by decide +kernel) rfl, q_in _ 2091 (by decide +kernel) rfl, q_in _ 13 (by decide +kernel) rfl, by decide +kernel, by decide⟩, q_in _ 2092 (by decide +kernel) rfl, q_in _ 2093 (by decide +kernel) rfl, TX12, 70, rfl, by decide⟩
theorem kv_L_210 : q_KV RL 210 yX11_gone cX11_gone 2 (some .long) 1 11 := ⟨⟨q_in _ 1141 (by decide +kernel) rfl, q_in _ 1138 (by decide +kernel) rfl, q_in _ 1 (by decide +kernel) rfl, by decide +kernel, by decide⟩, q_in _ 1139 (by decide +kernel) rfl, q_in _ 1140 (by decide +kernel) rfl, TX11, 13, rfl, by decide⟩
theorem kv_L_213 : q_KV RL 213 yX12_gone cX12_gone 5 (some .long) 1 12 := ⟨⟨q_in _ 2099 (by decide +kernel) rfl, q_in _ 2096 (by decide +kernel) rfl, q_in _ 13 (by decide +kernel) rfl, by decide +kernel, by decide⟩, q_in _ 2097 (by decide +kernel) rfl, q_in _ 2098 (by decide +kernel) rfl, TX12, 70, rfl, by decide⟩
theorem kv_L_214 : q_KV RL 214 yX11_like cX11_like 2 (some .int) 1 11 := ⟨⟨q_in _ 1146 (by decide +kernel) rfl, q_in _ 1143 (by decide +kernel) rfl, q_in _ 1 (by decide +kernel) rfl, by decide +kernel, by decide⟩, q_in _ 1144 (by decide +kernel) rfl, q_in _ 1145 (by decide +kernel) rfl, TX11, 13, rfl, by decide⟩
theorem kv_L_217 : q_KV RL 217 yX12_like cX12_like 10 (some .int) 1 12 := ⟨⟨q_in _ 2104 (by decide +kernel) rfl, q_in _ 2101 (by decide +kernel) rfl, q_in _ 13 (by decide +kernel) rfl, by decide +kernel, by decide⟩, q_in _ 2102 (by decide +kernel) rfl, q_in _ 2103 (by decide +kernel) rfl, TX12, 70, rfl, by decide⟩
theorem kv_L_218 : q_KV RL 218 yX11_swap cX11_swap 3 (some .int) 2 11 := ⟨⟨q_in _ 1251 (by decide +kernel) rfl, q_in _ 1248 (by decide +kernel) rfl, q_in _ 1 (by decide +kernel) rfl, by decide +kernel, by decide⟩, q_in _ 1249 (by decide +kernel) rfl, q_in _ 1250 (by decide +kernel) rfl, TX11, 13, rfl, by decide⟩
theorem kv_L_221 : q_KV RL 221 yX12_swap cX12_swap 7 (some .int) 2 12 := ⟨⟨q_in _ 2112 (by decide +kernel) rfl, q_in _ 2109 (by decide +kernel) rfl, q_in _ 13 (by decide +kernel) rfl, by decide +kernel, by decide⟩, q_in _ 2110 (by decide +kernel) rfl, q_in _ 2111 (by decide +kernel) rfl, TX12, 70, rfl, by decide⟩
theorem kv_L_222 : q_KV RL 222 yX11_crowd cX11_crowd 1 (some .int) 0 11 := ⟨⟨q_in _ 1264 (by decide +kernel) rfl, q_in _ 1261 (by decide +kernel) rfl, q_in _ 1 (by decide +kernel) rfl, by decide +kernel, by decide⟩, q_in _ 1262 (by decide +kernel) rfl, q_in _ 1263 (by decide +kernel) rfl, TX11, 13, rfl, by decide⟩
theorem kv_L_225 : q_KV RL 225 yX12_crowd cX12_crowd 6 (some .int) 0 12 := ⟨⟨q_in _ 2116 (by decide +kernel) rfl, q_in _ 2113 (by decide +kernel) rfl, q_in _ 13 (by decide +kernel) rfl, by decide +kernel, by decide⟩, q_in _ 2114 (by decide +kernel) rfl, q_in _ 2115 (by decide +kernel) rfl, TX12, 70, rfl, by decide⟩
theorem kv_L_226 : q_KV RL 226 yX11_free cX11_free 2 (some .int) 1 11 := ⟨⟨q_in _ 1272 (by decide +kernel) rfl, q_in _ 1269 (by decide +kernel) rfl, q_in _ 1 (by decide +kernel) rfl, by decide +kernel, by decide⟩, q_in _ 1270 (by decide +kernel) rfl, q_in _ 1271 (by decide +kernel) rfl, TX11, 13, rfl, by decide⟩
theorem kv_L_229 : q_KV RL 229 yX12_free cX12_free 6 (some .int) 1 12 := ⟨⟨q_in _ 2120 (by decide +kernel) rfl, q_in _ 2117 (by decide +kernel) rfl, q_in _ 13 (by decide +kernel) rfl, by decide +kernel, by decide⟩, q_in _ 2118 (by decide +kernel) rfl, q_in _ 2119 (by decide +kernel) rfl, TX12, 70, rfl, by decide⟩
theorem kv_L_23 : q_KV RL 23 yX11_feed cX11_feed 7 (some .int) 5 11 := ⟨⟨q_in _ 461 (by decide +kernel) rfl, q_in _ 458 (by decide +kernel) rfl, q_in _ 1 (by decide +kernel) rfl, by decide +kernel, by decide⟩, q_in _ 459 (by decide +kernel) rfl, q_in _ 460 (by decide +kernel) rfl, TX11, 13, rfl, by decide⟩
theorem kv_L_230 : q_KV RL 230 yX11_image cX11_image 1 (some .int) 0 11 := ⟨⟨q_in _ 892 (by decide +kernel) rfl, q_in _ 889 (by decide +kernel) rfl, q_in _ 1 (by decide +kernel) rfl, by decide +kernel, by decide⟩, q_in _ 890 (by decide +kernel) rfl, q_in _ 891 (by decide +kernel) rfl, TX11, 13, rfl, by decide⟩
theorem kv_L_233 : q_KV RL 233 yX12_image cX12_image 1 (some .int) 0 12 := ⟨⟨q_in _ 2042 (by decide +kernel) rfl, q_in _ 2039 (by decide +kernel) rfl, q_in _ 13 (by decide +kernel) rfl, by decide +kernel, by decide⟩, q_in _ 2040 (by decide +kernel) rfl, q_in _ 2041 (by decide +kernel) rfl, TX12, 70, rfl, by decide⟩
theorem kv_L_234 : q_KV RL 234 yX11_back cX11_back 1 (some .int) 0 11 := ⟨⟨q_in _ 901 (by decide +kernel) rfl, q_in _ 898 (by decide +kernel) rfl, q_in _ 1 (by decide +kernel) rfl, by decide +kernel, by decide⟩, q_in _ 899 (by decide +kernel) rfl, q_in _ 900 (by decide +kernel) rfl, TX11, 13, rfl, by decide⟩
theorem kv_L_237 : q_KV RL 237 yX12_back cX12_back 1 (some .int) 0 12 := ⟨⟨q_in _ 2046 (by decide +kernel) rfl, q_in _ 2043 (by decide +kernel) rfl, q_in _ 13 (by decide +kernel) rfl, by decide +kernel, by decide⟩, q_in _ 2044 (by decide +kernel) rfl, q_in _ 2045 (by decide +kernel) rfl, TX12, 70, rfl, by decide⟩
theorem kv_L_238 : q_KV RL 238 yX11_count cX11_count 2 (some .int) 1 11 := ⟨⟨q_in _ 755 (by decide +kernel) rfl, q_in _ 752 (by decide +kernel) rfl, q_in _ 1 (by decide +kernel) rfl, by decide +kernel, by decide⟩, q_in _ 753 (by decide +kernel) rfl, q_in _ 754 (by decide +kernel) rfl, TX11, 13, rfl, by decide⟩
theorem kv_L_241 : q_KV RL 241 yX12_count cX12_count 2 (some .int) 1 12 := ⟨⟨q_in _ 2124 (by decide +kernel) rfl, q_in _ 2121 (by decide +kernel) rfl, q_in _ 13 (by decide +kernel) rfl, by decide +kernel, by decide⟩, q_in _ 2122 (by decide +kernel) rfl, q_in _ 2123 (by decide +kernel) rfl, TX12, 70, rfl, by decide⟩
theorem kv_L_27 : q_KV RL 27 yX12_feed cX12_feed 9 (some .int) 5 12 := ⟨⟨q_in _ 1582 (by decide +kernel) rfl, q_in _ 1579 (by decide +kernel) rfl, q_in _ 13 (by decide +kernel) rfl, by decide +kernel, by decide⟩, q_in _ 1580 (by decide +kernel) rfl, q_in _ 1581 (by decide +kernel) rfl, TX12, 70, rfl, by decide⟩
theorem kv_L_28 : q_KV RL 28 yX11_end cX11_end 2 (some .boolean) 1 11 := ⟨⟨q_in _ 472 (by decide +kernel) rfl, q_in _ 469 (by decide +kernel) rfl, q_in _ 1 (by decide +kernel) rfl, by decide +kernel, by decide⟩, q_in _ 470 (by decide +kernel) rfl, q_in _ 471 (by decide +kernel) rfl, TX11, 13, rfl, by decide⟩
theorem kv_L_32 : q_KV RL 32 yX12_end cX12_end 2 (some .boolean) 1 12 := ⟨⟨q_in _ 1589 (by decide +kernel) rfl, q_in _ 1586 (by decide +kernel) rfl, q_in _ 13 (by decide +kernel) rfl, by decide +kernel, by decide⟩, q_in _ 1587 (by decide +kernel) rfl, q_in _ 1588 (by decide +kernel) rfl, TX12, 70, rfl, by decide⟩
theorem kv_L_33 : q_KV RL 33 yX11_fault cX11_fault 2 (some .int) 1 11 := ⟨⟨q_in _ 476 (by decide +kernel) rfl, q_in _ 473 (by decide +kernel) rfl, q_in _ 1 (by decide +kernel) rfl, by decide +kernel, by decide⟩, q_in _ 474 (by decide +kernel) rfl, q_in _ 475 (by decide +kernel) rfl, TX11, 13, rfl, by decide⟩
theorem kv_L_37 : q_KV RL 37 yX12_fault cX12_fault 2 (some .int) 1 12 := ⟨⟨q_in _ 1593 (by decide +kernel) rfl, q_in _ 1590 (by decide +kernel) rfl, q_in _ 13 (by decide +kernel) rfl, by decide +kernel, by decide⟩, q_in _ 1591 (by decide +kernel) rfl, q_in _ 1592 (by decide +kernel) rfl, TX12, 70, rfl, by decide⟩
theorem kv_L_38 : q_KV RL 38 yX11_text cX11_text 3 (some .int) 1 11 := ⟨⟨q_in _ 716 (by decide +kernel) rfl, q_in _ 713 (by decide +kernel) rfl, q_in _ 1 (by decide +kernel) rfl, by decide +kernel, by decide⟩, q_in _ 714 (by decide +kernel) rfl, q_in _ 715 (by decide +kernel) rfl, TX11, 13, rfl, by decide⟩
theorem kv_L_41 : q_KV RL 41 yX12_text cX12_text 2 (some .int) 1 12 := ⟨⟨q_in _ 1712 (by decide +kernel) rfl, q_in _ 1709 (by decide +kernel) rfl, q_in _ 13 (by decide +kernel) rfl, by decide +kernel, by decide⟩, q_in _ 1710 (by decide +kernel) rfl, q_in _ 1711 (by decide +kernel) rfl, TX12, 70, rfl, by decide⟩
theorem kv_L_52 : q_KV RL 52 yX11_thing cX11_thing 4 (some .int) 3 11 := ⟨⟨q_in _ 721 (by decide +kernel) rfl, q_in _ 718 (by decide +kernel) rfl, q_in _ 1 (by decide +kernel) rfl, by decide +kernel, by decide⟩, q_in _ 719 (by decide +kernel) rfl, q_in _ 720 (by decide +kernel) rfl, TX11, 13, rfl, by decide⟩
theorem kv_L_56 : q_KV RL 56 yX12_thing cX12_thing 4 (some .int) 3 12 := ⟨⟨q_in _ 1724 (by decide +kernel) rfl, q_in _ 1721 (by decide +kernel) rfl, q_in _ 13 (by decide +kernel) rfl, by decide +kernel, by decide⟩, q_in _ 1722 (by decide +kernel) rfl, q_in _ 1723 (by decide +kernel) rfl, TX12, 70, rfl, by decide⟩
theorem kv_L_57 : q_KV RL 57 yX11_sort cX11_sort 4 (some .int) 3 11 := ⟨⟨q_in _ 738 (by decide +kernel) rfl, q_in _ 735 (by decide +kernel) rfl, q_in _ 1 (by decide +kernel) rfl, by decide +kernel, by decide⟩, q_in _ 736 (by decide +kernel) rfl, q_in _ 737 (by decide +kernel) rfl, TX11, 13, rfl, by decide⟩
theorem kv_L_60 : q_KV RL 60 yX12_sort cX12_sort 4 (some .int) 3 12 := ⟨⟨q_in _ 1736 (by decide +kernel) rfl, q_in _ 1733 (by decide +kernel) rfl, q_in _ 13 (by decide +kernel) rfl, by decide +kernel, by decide⟩, q_in _ 1734 (by decide +kernel) rfl, q_in _ 1735 (by decide +kernel) rfl, TX12, 70, rfl, by decide⟩
theorem kv_L_61 : q_KV RL 61 yX11_of cX11_of 3 (some .int) 2 11 := ⟨⟨q_in _ 743 (by decide +kernel) rfl, q_in _ 740 (by decide +kernel) rfl, q_in _ 1 (by decide +kernel) rfl, by decide +kernel, by decide⟩, q_in _ 741 (by decide +kernel) rfl, q_in _ 742 (by decide +kernel) rfl, TX11, 13, rfl, by decide⟩
theorem kv_L_64 : q_KV RL 64 yX12_of cX12_of 3 (some .int) 2 12 := ⟨⟨q_in _ 1744 (by decide +kernel) rfl, q_in _ 1741 (by decide +kernel) rfl, q_in _ 13 (by decide +kernel) rfl, by decide +kernel, by decide⟩, q_in _ 1742 (by decide +kernel) rfl, q_in _ 1743 (by decide +kernel) rfl, TX12, 70, rfl, by decide⟩
theorem kv_L_65 : q_KV RL 65 yX11_way cX11_way 3 (some .boolean) 2 11 := ⟨⟨q_in _ 747 (by decide +kernel) rfl, q_in _ 744 (by decide +kernel) rfl, q_in _ 1 (by decide +kernel) rfl, by decide +kernel, by decide⟩, q_in _ 745 (by decide +kernel) rfl, q_in _ 746 (by decide +kernel) rfl, TX11, 13, rfl, by decide⟩
theorem kv_L_69 : q_KV RL 69 yX12_way cX12_way 3 (some .boolean) 2 12 := ⟨⟨q_in _ 1752 (by decide +kernel) rfl, q_in _ 1749 (by decide +kernel) rfl, q_in _ 13 (by decide +kernel) rfl, by decide +kernel, by decide⟩, q_in _ 1750 (by decide +kernel) rfl, q_in _ 1751 (by decide +kernel) rfl, TX12, 70, rfl, by decide⟩
theorem kv_L_72 : q_KV RL 72 yX11_start cX11_start 6 (some .boolean) 4 11 := ⟨⟨q_in _ 772 (by decide +kernel) rfl, q_in _ 769 (by decide +kernel) rfl, q_in _ 1 (by decide +kernel) rfl, by decide +kernel, by decide⟩, q_in _ 770 (by decide +kernel) rfl, q_in _ 771 (by decide +kernel) rfl, TX11, 13, rfl, by decide⟩
theorem kv_L_76 : q_KV RL 76 yX12_start cX12_start 6 (some .boolean) 4 12 := ⟨⟨q_in _ 1756 (by decide +kernel) rfl, q_in _ 1753 (by decide +kernel) rfl, q_in _ 13 (by decide +kernel) rfl, by decide +kernel, by decide⟩, q_in _ 1754 (by decide +kernel) rfl, q_in _ 1755 (by decide +kernel) rfl, TX12, 70, rfl, by decide⟩
theorem kv_L_77 : q_KV RL 77 yX11_minutes cX11_minutes 2 (some .int) 1 11 := ⟨⟨q_in _ 789 (by decide +kernel) rfl, q_in _ 786 (by decide +kernel) rfl, q_in _ 1 (by decide +kernel) rfl, by decide +kernel, by decide⟩, q_in _ 787 (by decide +kernel) rfl, q_in _ 788 (by decide +kernel) rfl, TX11, 13, rfl, by decide⟩
theorem kv_L_80 : q_KV RL 80 yX12_minutes cX12_minutes 3 (some .int) 1 12 := ⟨⟨q_in _ 1764 (by decide +kernel) rfl, q_in _ 1761 (by decide +kernel) rfl, q_in _ 13 (by decide +kernel) rfl, by decide +kernel, by decide⟩, q_in _ 1762 (by decide +kernel) rfl, q_in _ 1763 (by decide +kernel) rfl, TX12, 70, rfl, by decide⟩
theorem kv_L_81 : q_KV RL 81 yX11_who cX11_who 3 (some .int) 2 11 := ⟨⟨q_in _ 868 (by decide +kernel) rfl, q_in _ 865 (by decide +kernel) rfl, q_in _ 1 (by decide +kernel) rfl, by decide +kernel, by decide⟩, q_in _ 866 (by decide +kernel) rfl, q_in _ 867 (by decide +kernel) rfl, TX11, 13, rfl, by decide⟩
theorem kv_L_84 : q_KV RL 84 yX12_who cX12_who 3 (some .int) 2 12 := ⟨⟨q_in _ 1839 (by decide +kernel) rfl, q_in _ 1836 (by decide +kernel) rfl, q_in _ 13 (by decide +kernel) rfl, by decide +kernel, by decide⟩, q_in _ 1837 (by decide +kernel) rfl, q_in _ 1838 (by decide +kernel) rfl, TX12, 70, rfl, by decide⟩
theorem kv_L_85 : q_KV RL 85 yX11_about cX11_about 2 (some .int) 1 11 := ⟨⟨q_in _ 887 (by decide +kernel) rfl, q_in _ 884 (by decide +kernel) rfl, q_in _ 1 (by decide +kernel) rfl, by decide +kernel, by decide⟩, q_in _ 885 (by decide +kernel) rfl, q_in _ 886 (by decide +kernel) rfl, TX11, 13, rfl, by decide⟩
theorem kv_L_88 : q_KV RL 88 yX12_about cX12_about 2 (some .int) 1 12 := ⟨⟨q_in _ 1856 (by decide +kernel) rfl, q_in _ 1853 (by decide +kernel) rfl, q_in _ 13 (by decide +kernel) rfl, by decide +kernel, by decide⟩, q_in _ 1854 (by decide +kernel) rfl, q_in _ 1855 (by decide +kernel) rfl, TX12, 70, rfl, by decide⟩
theorem kv_L_89 : q_KV RL 89 yX11_odds cX11_odds 4 (some .int) 3 11 := ⟨⟨q_in _ 905 (by decide +kernel) rfl, q_in _ 902 (by decide +kernel) rfl, q_in _ 1 (by decide +kernel) rfl, by decide +kernel, by decide⟩, q_in _ 903 (by decide +kernel) rfl, q_in _ 904 (by decide +kernel) rfl, TX11, 13, rfl, by decide⟩
theorem kv_L_92 : q_KV RL 92 yX12_odds cX12_odds 5 (some .int) 3 12 := ⟨⟨q_in _ 1868 (by decide +kernel) rfl, q_in _ 1865 (by decide +kernel) rfl, q_in _ 13 (by decide +kernel) rfl, by decide +kernel, by decide⟩, q_in _ 1866 (by decide +kernel) rfl, q_in _ 1867 (by decide +kernel) rfl, TX12, 70, rfl, by decide⟩
theorem kv_L_93 : q_KV RL 93 yX11_law cX11_law 3 (some .int) 2 11 := ⟨⟨q_in _ 943 (by decide +kernel) rfl, q_in _ 940 (by decide +kernel) rfl, q_in _ 1 (by decide +kernel) rfl, by decide +kernel, by decide⟩, q_in _ 941 (by decide +kernel) rfl, q_in _ 942 (by decide +kernel) rfl, TX11, 13, rfl, by decide⟩
theorem kv_L_96 : q_KV RL 96 yX12_law cX12_law 4 (some .int) 2 12 := ⟨⟨q_in _ 1903 (by decide +kernel) rfl, q_in _ 1900 (by decide +kernel) rfl, q_in _ 13 (by decide +kernel) rfl, by decide +kernel, by decide⟩, q_in _ 1901 (by decide +kernel) rfl, q_in _ 1902 (by decide +kernel) rfl, TX12, 70, rfl, by decide⟩
theorem kv_L_97 : q_KV RL 97 yX11_which cX11_which 6 (some .int) 1 11 := ⟨⟨q_in _ 955 (by decide +kernel) rfl, q_in _ 952 (by decide +kernel) rfl, q_in _ 1 (by decide +kernel) rfl, by decide +kernel, by decide⟩, q_in _ 953 (by decide +kernel) rfl, q_in _ 954 (by decide +kernel) rfl, TX11, 13, rfl, by decide⟩
