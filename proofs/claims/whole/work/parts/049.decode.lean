theorem dL_law_1118 : decode cL_law 1118 = .ok (.iadd, 1) := by decide +kernel
theorem dL_law_1119 : decode cL_law 1119 = .ok (.iaload, 1) := by decide +kernel
theorem dL_law_1120 : decode cL_law 1120 = .ok (.aload_n 0, 1) := by decide +kernel
theorem dL_law_1121 : decode cL_law 1121 = .ok (.iload 4, 2) := by decide +kernel
theorem dL_law_1123 : decode cL_law 1123 = .ok (.iconst 2, 1) := by decide +kernel
theorem dL_law_1124 : decode cL_law 1124 = .ok (.iadd, 1) := by decide +kernel
theorem dL_law_1125 : decode cL_law 1125 = .ok (.iaload, 1) := by decide +kernel
theorem dL_law_1126 : decode cL_law 1126 = .ok (.aload_n 3, 1) := by decide +kernel
theorem dL_law_1127 : decode cL_law 1127 = .ok (.invokestatic 204, 3) := by decide +kernel
theorem dL_law_1130 : decode cL_law 1130 = .ok (.istore 5, 2) := by decide +kernel
theorem dL_law_1132 : decode cL_law 1132 = .ok (.aload_n 2, 1) := by decide +kernel
theorem dL_law_1133 : decode cL_law 1133 = .ok (.aload_n 0, 1) := by decide +kernel
theorem dL_law_1134 : decode cL_law 1134 = .ok (.iload 4, 2) := by decide +kernel
theorem dL_law_1136 : decode cL_law 1136 = .ok (.iconst 1, 1) := by decide +kernel
theorem dL_law_1137 : decode cL_law 1137 = .ok (.iadd, 1) := by decide +kernel
theorem dL_law_1138 : decode cL_law 1138 = .ok (.iaload, 1) := by decide +kernel
theorem dL_law_1139 : decode cL_law 1139 = .ok (.aload_n 0, 1) := by decide +kernel
theorem dL_law_1140 : decode cL_law 1140 = .ok (.iload 4, 2) := by decide +kernel
theorem dL_law_1142 : decode cL_law 1142 = .ok (.iconst 2, 1) := by decide +kernel
theorem dL_law_1143 : decode cL_law 1143 = .ok (.iadd, 1) := by decide +kernel
theorem dL_law_1144 : decode cL_law 1144 = .ok (.iaload, 1) := by decide +kernel
theorem dL_law_1145 : decode cL_law 1145 = .ok (.invokevirtual 206, 3) := by decide +kernel
theorem dL_law_1148 : decode cL_law 1148 = .ok (.istore 6, 2) := by decide +kernel
theorem dL_law_1150 : decode cL_law 1150 = .ok (.aload_n 2, 1) := by decide +kernel
theorem dL_law_1151 : decode cL_law 1151 = .ok (.invokevirtual 156, 3) := by decide +kernel
theorem dL_law_1154 : decode cL_law 1154 = .ok (.iload 5, 2) := by decide +kernel
theorem dL_law_1156 : decode cL_law 1156 = .ok (.if_icmp .eq 5, 3) := by decide +kernel
theorem dL_law_1159 : decode cL_law 1159 = .ok (.iconst 0, 1) := by decide +kernel
theorem dL_law_1160 : decode cL_law 1160 = .ok (.ireturn, 1) := by decide +kernel
theorem dL_law_1161 : decode cL_law 1161 = .ok (.iload 5, 2) := by decide +kernel
theorem dL_law_1163 : decode cL_law 1163 = .ok (.ifCond .ne 15, 3) := by decide +kernel
theorem dL_law_1166 : decode cL_law 1166 = .ok (.aload_n 3, 1) := by decide +kernel
theorem dL_law_1167 : decode cL_law 1167 = .ok (.iconst 0, 1) := by decide +kernel
theorem dL_law_1168 : decode cL_law 1168 = .ok (.laload, 1) := by decide +kernel
theorem dL_law_1169 : decode cL_law 1169 = .ok (.iload 6, 2) := by decide +kernel
theorem dL_law_1171 : decode cL_law 1171 = .ok (.i2l, 1) := by decide +kernel
theorem dL_law_1172 : decode cL_law 1172 = .ok (.lcmp, 1) := by decide +kernel
theorem dL_law_1173 : decode cL_law 1173 = .ok (.ifCond .eq 5, 3) := by decide +kernel
theorem dL_law_1176 : decode cL_law 1176 = .ok (.iconst 0, 1) := by decide +kernel
theorem dL_law_1177 : decode cL_law 1177 = .ok (.ireturn, 1) := by decide +kernel
theorem dL_law_1178 : decode cL_law 1178 = .ok (.goto 1838, 3) := by decide +kernel
theorem dL_law_1181 : decode cL_law 1181 = .ok (.aload_n 1, 1) := by decide +kernel
theorem dL_law_1182 : decode cL_law 1182 = .ok (.aload_n 0, 1) := by decide +kernel
theorem dL_law_1183 : decode cL_law 1183 = .ok (.iload 4, 2) := by decide +kernel
theorem dL_law_1185 : decode cL_law 1185 = .ok (.iconst 1, 1) := by decide +kernel
theorem dL_law_1186 : decode cL_law 1186 = .ok (.iadd, 1) := by decide +kernel
theorem dL_law_1187 : decode cL_law 1187 = .ok (.iaload, 1) := by decide +kernel
theorem dL_law_1188 : decode cL_law 1188 = .ok (.aload_n 0, 1) := by decide +kernel
theorem dL_law_1189 : decode cL_law 1189 = .ok (.iload 4, 2) := by decide +kernel
theorem dL_law_1191 : decode cL_law 1191 = .ok (.iconst 2, 1) := by decide +kernel
theorem dL_law_1192 : decode cL_law 1192 = .ok (.iadd, 1) := by decide +kernel
theorem dL_law_1193 : decode cL_law 1193 = .ok (.iaload, 1) := by decide +kernel
theorem dL_law_1194 : decode cL_law 1194 = .ok (.aload_n 3, 1) := by decide +kernel
theorem dL_law_1195 : decode cL_law 1195 = .ok (.invokestatic 207, 3) := by decide +kernel
theorem dL_law_1198 : decode cL_law 1198 = .ok (.istore 5, 2) := by decide +kernel
theorem dL_law_1200 : decode cL_law 1200 = .ok (.aload_n 2, 1) := by decide +kernel
theorem dL_law_1201 : decode cL_law 1201 = .ok (.aload_n 0, 1) := by decide +kernel
theorem dL_law_1202 : decode cL_law 1202 = .ok (.iload 4, 2) := by decide +kernel
theorem dL_law_1204 : decode cL_law 1204 = .ok (.iconst 1, 1) := by decide +kernel
theorem dL_law_1205 : decode cL_law 1205 = .ok (.iadd, 1) := by decide +kernel
theorem dL_law_1206 : decode cL_law 1206 = .ok (.iaload, 1) := by decide +kernel
theorem dL_law_1207 : decode cL_law 1207 = .ok (.aload_n 0, 1) := by decide +kernel
theorem dL_law_1208 : decode cL_law 1208 = .ok (.iload 4, 2) := by decide +kernel
theorem dL_law_1210 : decode cL_law 1210 = .ok (.iconst 2, 1) := by decide +kernel
theorem dL_law_1211 : decode cL_law 1211 = .ok (.iadd, 1) := by decide +kernel
theorem dL_law_1212 : decode cL_law 1212 = .ok (.iaload, 1) := by decide +kernel
theorem dL_law_1213 : decode cL_law 1213 = .ok (.invokevirtual 209, 3) := by decide +kernel
theorem dL_law_1216 : decode cL_law 1216 = .ok (.istore 6, 2) := by decide +kernel
theorem dL_law_1218 : decode cL_law 1218 = .ok (.aload_n 2, 1) := by decide +kernel
theorem dL_law_1219 : decode cL_law 1219 = .ok (.invokevirtual 156, 3) := by decide +kernel
theorem dL_law_1222 : decode cL_law 1222 = .ok (.iload 5, 2) := by decide +kernel
theorem dL_law_1224 : decode cL_law 1224 = .ok (.if_icmp .eq 5, 3) := by decide +kernel
theorem dL_law_1227 : decode cL_law 1227 = .ok (.iconst 0, 1) := by decide +kernel
theorem dL_law_1228 : decode cL_law 1228 = .ok (.ireturn, 1) := by decide +kernel
theorem dL_law_1229 : decode cL_law 1229 = .ok (.iload 5, 2) := by decide +kernel
theorem dL_law_1231 : decode cL_law 1231 = .ok (.ifCond .ne 15, 3) := by decide +kernel
theorem dL_law_1234 : decode cL_law 1234 = .ok (.aload_n 3, 1) := by decide +kernel
theorem dL_law_1235 : decode cL_law 1235 = .ok (.iconst 0, 1) := by decide +kernel
theorem dL_law_1236 : decode cL_law 1236 = .ok (.laload, 1) := by decide +kernel
theorem dL_law_1237 : decode cL_law 1237 = .ok (.iload 6, 2) := by decide +kernel
theorem dL_law_1239 : decode cL_law 1239 = .ok (.i2l, 1) := by decide +kernel
theorem dL_law_1240 : decode cL_law 1240 = .ok (.lcmp, 1) := by decide +kernel
theorem dL_law_1241 : decode cL_law 1241 = .ok (.ifCond .eq 5, 3) := by decide +kernel
theorem dL_law_1244 : decode cL_law 1244 = .ok (.iconst 0, 1) := by decide +kernel
theorem dL_law_1245 : decode cL_law 1245 = .ok (.ireturn, 1) := by decide +kernel
theorem dL_law_1246 : decode cL_law 1246 = .ok (.goto 1770, 3) := by decide +kernel
theorem dL_law_1249 : decode cL_law 1249 = .ok (.aload_n 1, 1) := by decide +kernel
theorem dL_law_1250 : decode cL_law 1250 = .ok (.aload_n 0, 1) := by decide +kernel
theorem dL_law_1251 : decode cL_law 1251 = .ok (.iload 4, 2) := by decide +kernel
theorem dL_law_1253 : decode cL_law 1253 = .ok (.iconst 1, 1) := by decide +kernel
theorem dL_law_1254 : decode cL_law 1254 = .ok (.iadd, 1) := by decide +kernel
theorem dL_law_1255 : decode cL_law 1255 = .ok (.iaload, 1) := by decide +kernel
theorem dL_law_1256 : decode cL_law 1256 = .ok (.aload_n 0, 1) := by decide +kernel
theorem dL_law_1257 : decode cL_law 1257 = .ok (.iload 4, 2) := by decide +kernel
theorem dL_law_1259 : decode cL_law 1259 = .ok (.iconst 2, 1) := by decide +kernel
theorem dL_law_1260 : decode cL_law 1260 = .ok (.iadd, 1) := by decide +kernel
theorem dL_law_1261 : decode cL_law 1261 = .ok (.iaload, 1) := by decide +kernel
theorem dL_law_1262 : decode cL_law 1262 = .ok (.aload_n 3, 1) := by decide +kernel
theorem dL_law_1263 : decode cL_law 1263 = .ok (.invokestatic 210, 3) := by decide +kernel
theorem dL_law_1266 : decode cL_law 1266 = .ok (.istore 5, 2) := by decide +kernel
theorem dL_law_1268 : decode cL_law 1268 = .ok (.aload_n 2, 1) := by decide +kernel
theorem dL_law_1269 : decode cL_law 1269 = .ok (.aload_n 0, 1) := by decide +kernel
theorem dL_law_1270 : decode cL_law 1270 = .ok (.iload 4, 2) := by decide +kernel
theorem dL_law_1272 : decode cL_law 1272 = .ok (.iconst 1, 1) := by decide +kernel
theorem dL_law_1273 : decode cL_law 1273 = .ok (.iadd, 1) := by decide +kernel
theorem dL_law_1274 : decode cL_law 1274 = .ok (.iaload, 1) := by decide +kernel
theorem dL_law_1275 : decode cL_law 1275 = .ok (.aload_n 0, 1) := by decide +kernel
theorem dL_law_1276 : decode cL_law 1276 = .ok (.iload 4, 2) := by decide +kernel
theorem dL_law_1278 : decode cL_law 1278 = .ok (.iconst 2, 1) := by decide +kernel
theorem dL_law_1279 : decode cL_law 1279 = .ok (.iadd, 1) := by decide +kernel
theorem dL_law_1280 : decode cL_law 1280 = .ok (.iaload, 1) := by decide +kernel
theorem dL_law_1281 : decode cL_law 1281 = .ok (.invokevirtual 212, 3) := by decide +kernel
theorem dL_law_1284 : decode cL_law 1284 = .ok (.istore 6, 2) := by decide +kernel
theorem dL_law_1286 : decode cL_law 1286 = .ok (.aload_n 2, 1) := by decide +kernel
theorem dL_law_1287 : decode cL_law 1287 = .ok (.invokevirtual 156, 3) := by decide +kernel
theorem dL_law_1290 : decode cL_law 1290 = .ok (.iload 5, 2) := by decide +kernel
theorem dL_law_1292 : decode cL_law 1292 = .ok (.if_icmp .eq 5, 3) := by decide +kernel
theorem dL_law_1295 : decode cL_law 1295 = .ok (.iconst 0, 1) := by decide +kernel
theorem dL_law_1296 : decode cL_law 1296 = .ok (.ireturn, 1) := by decide +kernel
theorem dL_law_1297 : decode cL_law 1297 = .ok (.iload 5, 2) := by decide +kernel
theorem dL_law_1299 : decode cL_law 1299 = .ok (.ifCond .ne 15, 3) := by decide +kernel
theorem dL_law_1302 : decode cL_law 1302 = .ok (.aload_n 3, 1) := by decide +kernel
theorem dL_law_1303 : decode cL_law 1303 = .ok (.iconst 0, 1) := by decide +kernel
theorem dL_law_1304 : decode cL_law 1304 = .ok (.laload, 1) := by decide +kernel
theorem dL_law_1305 : decode cL_law 1305 = .ok (.iload 6, 2) := by decide +kernel
theorem dL_law_1307 : decode cL_law 1307 = .ok (.i2l, 1) := by decide +kernel
theorem dL_law_1308 : decode cL_law 1308 = .ok (.lcmp, 1) := by decide +kernel
theorem dL_law_1309 : decode cL_law 1309 = .ok (.ifCond .eq 5, 3) := by decide +kernel
theorem dL_law_1312 : decode cL_law 1312 = .ok (.iconst 0, 1) := by decide +kernel
theorem dL_law_1313 : decode cL_law 1313 = .ok (.ireturn, 1) := by decide +kernel
theorem dL_law_1314 : decode cL_law 1314 = .ok (.goto 1702, 3) := by decide +kernel
theorem dL_law_1317 : decode cL_law 1317 = .ok (.aload_n 1, 1) := by decide +kernel
theorem dL_law_1318 : decode cL_law 1318 = .ok (.aload_n 0, 1) := by decide +kernel
theorem dL_law_1319 : decode cL_law 1319 = .ok (.iload 4, 2) := by decide +kernel
theorem dL_law_1321 : decode cL_law 1321 = .ok (.iconst 1, 1) := by decide +kernel
theorem dL_law_1322 : decode cL_law 1322 = .ok (.iadd, 1) := by decide +kernel
theorem dL_law_1323 : decode cL_law 1323 = .ok (.iaload, 1) := by decide +kernel
theorem dL_law_1324 : decode cL_law 1324 = .ok (.aload_n 0, 1) := by decide +kernel
theorem dL_law_1325 : decode cL_law 1325 = .ok (.iload 4, 2) := by decide +kernel
theorem dL_law_1327 : decode cL_law 1327 = .ok (.iconst 2, 1) := by decide +kernel
theorem dL_law_1328 : decode cL_law 1328 = .ok (.iadd, 1) := by decide +kernel
theorem dL_law_1329 : decode cL_law 1329 = .ok (.iaload, 1) := by decide +kernel
theorem dL_law_1330 : decode cL_law 1330 = .ok (.aload_n 0, 1) := by decide +kernel
theorem dL_law_1331 : decode cL_law 1331 = .ok (.iload 4, 2) := by decide +kernel
theorem dL_law_1333 : decode cL_law 1333 = .ok (.iconst 3, 1) := by decide +kernel
theorem dL_law_1334 : decode cL_law 1334 = .ok (.iadd, 1) := by decide +kernel
theorem dL_law_1335 : decode cL_law 1335 = .ok (.iaload, 1) := by decide +kernel
theorem dL_law_1336 : decode cL_law 1336 = .ok (.aload_n 3, 1) := by decide +kernel
theorem dL_law_1337 : decode cL_law 1337 = .ok (.invokestatic 213, 3) := by decide +kernel
theorem dL_law_1340 : decode cL_law 1340 = .ok (.istore 5, 2) := by decide +kernel
theorem dL_law_1342 : decode cL_law 1342 = .ok (.aload_n 2, 1) := by decide +kernel
theorem dL_law_1343 : decode cL_law 1343 = .ok (.aload_n 0, 1) := by decide +kernel
theorem dL_law_1344 : decode cL_law 1344 = .ok (.iload 4, 2) := by decide +kernel
theorem dL_law_1346 : decode cL_law 1346 = .ok (.iconst 1, 1) := by decide +kernel
theorem dL_law_1347 : decode cL_law 1347 = .ok (.iadd, 1) := by decide +kernel
theorem dL_law_1348 : decode cL_law 1348 = .ok (.iaload, 1) := by decide +kernel
theorem dL_law_1349 : decode cL_law 1349 = .ok (.aload_n 0, 1) := by decide +kernel
theorem dL_law_1350 : decode cL_law 1350 = .ok (.iload 4, 2) := by decide +kernel
theorem dL_law_1352 : decode cL_law 1352 = .ok (.iconst 2, 1) := by decide +kernel
theorem dL_law_1353 : decode cL_law 1353 = .ok (.iadd, 1) := by decide +kernel
theorem dL_law_1354 : decode cL_law 1354 = .ok (.iaload, 1) := by decide +kernel
theorem dL_law_1355 : decode cL_law 1355 = .ok (.aload_n 0, 1) := by decide +kernel
theorem dL_law_1356 : decode cL_law 1356 = .ok (.iload 4, 2) := by decide +kernel
theorem dL_law_1358 : decode cL_law 1358 = .ok (.iconst 3, 1) := by decide +kernel
theorem dL_law_1359 : decode cL_law 1359 = .ok (.iadd, 1) := by decide +kernel
theorem dL_law_1360 : decode cL_law 1360 = .ok (.iaload, 1) := by decide +kernel
theorem dL_law_1361 : decode cL_law 1361 = .ok (.invokevirtual 216, 3) := by decide +kernel
theorem dL_law_1364 : decode cL_law 1364 = .ok (.istore 6, 2) := by decide +kernel
theorem dL_law_1366 : decode cL_law 1366 = .ok (.aload_n 2, 1) := by decide +kernel
theorem dL_law_1367 : decode cL_law 1367 = .ok (.invokevirtual 156, 3) := by decide +kernel
theorem dL_law_1370 : decode cL_law 1370 = .ok (.iload 5, 2) := by decide +kernel
theorem dL_law_1372 : decode cL_law 1372 = .ok (.if_icmp .eq 5, 3) := by decide +kernel
theorem dL_law_1375 : decode cL_law 1375 = .ok (.iconst 0, 1) := by decide +kernel
theorem dL_law_1376 : decode cL_law 1376 = .ok (.ireturn, 1) := by decide +kernel
theorem dL_law_1377 : decode cL_law 1377 = .ok (.iload 5, 2) := by decide +kernel
theorem dL_law_1379 : decode cL_law 1379 = .ok (.ifCond .ne 15, 3) := by decide +kernel
theorem dL_law_1382 : decode cL_law 1382 = .ok (.aload_n 3, 1) := by decide +kernel
theorem dL_law_1383 : decode cL_law 1383 = .ok (.iconst 0, 1) := by decide +kernel
theorem dL_law_1384 : decode cL_law 1384 = .ok (.laload, 1) := by decide +kernel
theorem dL_law_1385 : decode cL_law 1385 = .ok (.iload 6, 2) := by decide +kernel
theorem dL_law_1387 : decode cL_law 1387 = .ok (.i2l, 1) := by decide +kernel
theorem dL_law_1388 : decode cL_law 1388 = .ok (.lcmp, 1) := by decide +kernel
theorem dL_law_1389 : decode cL_law 1389 = .ok (.ifCond .eq 5, 3) := by decide +kernel
theorem dL_law_1392 : decode cL_law 1392 = .ok (.iconst 0, 1) := by decide +kernel
theorem dL_law_1393 : decode cL_law 1393 = .ok (.ireturn, 1) := by decide +kernel
theorem dL_law_1394 : decode cL_law 1394 = .ok (.goto 1622, 3) := by decide +kernel
theorem dL_law_1397 : decode cL_law 1397 = .ok (.aload_n 1, 1) := by decide +kernel
theorem dL_law_1398 : decode cL_law 1398 = .ok (.aload_n 0, 1) := by decide +kernel
theorem dL_law_1399 : decode cL_law 1399 = .ok (.iload 4, 2) := by decide +kernel
theorem dL_law_1401 : decode cL_law 1401 = .ok (.iconst 1, 1) := by decide +kernel
theorem dL_law_1402 : decode cL_law 1402 = .ok (.iadd, 1) := by decide +kernel
theorem dL_law_1403 : decode cL_law 1403 = .ok (.iaload, 1) := by decide +kernel
theorem dL_law_1404 : decode cL_law 1404 = .ok (.aload_n 0, 1) := by decide +kernel
theorem dL_law_1405 : decode cL_law 1405 = .ok (.iload 4, 2) := by decide +kernel
theorem dL_law_1407 : decode cL_law 1407 = .ok (.iconst 2, 1) := by decide +kernel
theorem dL_law_1408 : decode cL_law 1408 = .ok (.iadd, 1) := by decide +kernel
theorem dL_law_1409 : decode cL_law 1409 = .ok (.iaload, 1) := by decide +kernel
theorem dL_law_1410 : decode cL_law 1410 = .ok (.aload_n 3, 1) := by decide +kernel
theorem dL_law_1411 : decode cL_law 1411 = .ok (.invokestatic 217, 3) := by decide +kernel
theorem dL_law_1414 : decode cL_law 1414 = .ok (.istore 5, 2) := by decide +kernel
theorem dL_law_1416 : decode cL_law 1416 = .ok (.aload_n 2, 1) := by decide +kernel
theorem dL_law_1417 : decode cL_law 1417 = .ok (.aload_n 0, 1) := by decide +kernel
theorem dL_law_1418 : decode cL_law 1418 = .ok (.iload 4, 2) := by decide +kernel
theorem dL_law_1420 : decode cL_law 1420 = .ok (.iconst 1, 1) := by decide +kernel
theorem dL_law_1421 : decode cL_law 1421 = .ok (.iadd, 1) := by decide +kernel
theorem dL_law_1422 : decode cL_law 1422 = .ok (.iaload, 1) := by decide +kernel
theorem dL_law_1423 : decode cL_law 1423 = .ok (.aload_n 0, 1) := by decide +kernel
theorem dL_law_1424 : decode cL_law 1424 = .ok (.iload 4, 2) := by decide +kernel
theorem dL_law_1426 : decode cL_law 1426 = .ok (.iconst 2, 1) := by decide +kernel
theorem dL_law_1427 : decode cL_law 1427 = .ok (.iadd, 1) := by decide +kernel
theorem dL_law_1428 : decode cL_law 1428 = .ok (.iaload, 1) := by decide +kernel
theorem dL_law_1429 : decode cL_law 1429 = .ok (.invokevirtual 219, 3) := by decide +kernel
theorem dL_law_1432 : decode cL_law 1432 = .ok (.istore 6, 2) := by decide +kernel
theorem dL_law_1434 : decode cL_law 1434 = .ok (.aload_n 2, 1) := by decide +kernel
theorem dL_law_1435 : decode cL_law 1435 = .ok (.invokevirtual 156, 3) := by decide +kernel
theorem dL_law_1438 : decode cL_law 1438 = .ok (.iload 5, 2) := by decide +kernel
theorem dL_law_1440 : decode cL_law 1440 = .ok (.if_icmp .eq 5, 3) := by decide +kernel
theorem dL_law_1443 : decode cL_law 1443 = .ok (.iconst 0, 1) := by decide +kernel
theorem dL_law_1444 : decode cL_law 1444 = .ok (.ireturn, 1) := by decide +kernel
theorem dL_law_1445 : decode cL_law 1445 = .ok (.iload 5, 2) := by decide +kernel
theorem dL_law_1447 : decode cL_law 1447 = .ok (.ifCond .ne 15, 3) := by decide +kernel
theorem dL_law_1450 : decode cL_law 1450 = .ok (.aload_n 3, 1) := by decide +kernel
theorem dL_law_1451 : decode cL_law 1451 = .ok (.iconst 0, 1) := by decide +kernel
theorem dL_law_1452 : decode cL_law 1452 = .ok (.laload, 1) := by decide +kernel
theorem dL_law_1453 : decode cL_law 1453 = .ok (.iload 6, 2) := by decide +kernel
theorem dL_law_1455 : decode cL_law 1455 = .ok (.i2l, 1) := by decide +kernel
theorem dL_law_1456 : decode cL_law 1456 = .ok (.lcmp, 1) := by decide +kernel
theorem dL_law_1457 : decode cL_law 1457 = .ok (.ifCond .eq 5, 3) := by decide +kernel
theorem dL_law_1460 : decode cL_law 1460 = .ok (.iconst 0, 1) := by decide +kernel
theorem dL_law_1461 : decode cL_law 1461 = .ok (.ireturn, 1) := by decide +kernel
theorem dL_law_1462 : decode cL_law 1462 = .ok (.goto 1554, 3) := by decide +kernel
theorem dL_law_1465 : decode cL_law 1465 = .ok (.aload_n 1, 1) := by decide +kernel
theorem dL_law_1466 : decode cL_law 1466 = .ok (.aload_n 0, 1) := by decide +kernel
theorem dL_law_1467 : decode cL_law 1467 = .ok (.iload 4, 2) := by decide +kernel
theorem dL_law_1469 : decode cL_law 1469 = .ok (.iconst 1, 1) := by decide +kernel
theorem dL_law_1470 : decode cL_law 1470 = .ok (.iadd, 1) := by decide +kernel
theorem dL_law_1471 : decode cL_law 1471 = .ok (.iaload, 1) := by decide +kernel
theorem dL_law_1472 : decode cL_law 1472 = .ok (.aload_n 0, 1) := by decide +kernel
theorem dL_law_1473 : decode cL_law 1473 = .ok (.iload 4, 2) := by decide +kernel
theorem dL_law_1475 : decode cL_law 1475 = .ok (.iconst 2, 1) := by decide +kernel
theorem dL_law_1476 : decode cL_law 1476 = .ok (.iadd, 1) := by decide +kernel
theorem dL_law_1477 : decode cL_law 1477 = .ok (.iaload, 1) := by decide +kernel
theorem dL_law_1478 : decode cL_law 1478 = .ok (.aload_n 3, 1) := by decide +kernel
theorem dL_law_1479 : decode cL_law 1479 = .ok (.invokestatic 220, 3) := by decide +kernel
theorem dL_law_1482 : decode cL_law 1482 = .ok (.istore 5, 2) := by decide +kernel
theorem dL_law_1484 : decode cL_law 1484 = .ok (.aload_n 2, 1) := by decide +kernel
theorem dL_law_1485 : decode cL_law 1485 = .ok (.aload_n 0, 1) := by decide +kernel
theorem dL_law_1486 : decode cL_law 1486 = .ok (.iload 4, 2) := by decide +kernel
theorem dL_law_1488 : decode cL_law 1488 = .ok (.iconst 1, 1) := by decide +kernel
theorem dL_law_1489 : decode cL_law 1489 = .ok (.iadd, 1) := by decide +kernel
theorem dL_law_1490 : decode cL_law 1490 = .ok (.iaload, 1) := by decide +kernel
theorem dL_law_1491 : decode cL_law 1491 = .ok (.aload_n 0, 1) := by decide +kernel
theorem dL_law_1492 : decode cL_law 1492 = .ok (.iload 4, 2) := by decide +kernel
theorem dL_law_1494 : decode cL_law 1494 = .ok (.iconst 2, 1) := by decide +kernel
theorem dL_law_1495 : decode cL_law 1495 = .ok (.iadd, 1) := by decide +kernel
theorem dL_law_1496 : decode cL_law 1496 = .ok (.iaload, 1) := by decide +kernel
theorem dL_law_1497 : decode cL_law 1497 = .ok (.invokevirtual 222, 3) := by decide +kernel
theorem dL_law_1500 : decode cL_law 1500 = .ok (.istore 6, 2) := by decide +kernel
theorem dL_law_1502 : decode cL_law 1502 = .ok (.aload_n 2, 1) := by decide +kernel
theorem dL_law_1503 : decode cL_law 1503 = .ok (.invokevirtual 156, 3) := by decide +kernel
theorem dL_law_1506 : decode cL_law 1506 = .ok (.iload 5, 2) := by decide +kernel
theorem dL_law_1508 : decode cL_law 1508 = .ok (.if_icmp .eq 5, 3) := by decide +kernel
theorem dL_law_1511 : decode cL_law 1511 = .ok (.iconst 0, 1) := by decide +kernel
theorem dL_law_1512 : decode cL_law 1512 = .ok (.ireturn, 1) := by decide +kernel
theorem dL_law_1513 : decode cL_law 1513 = .ok (.iload 5, 2) := by decide +kernel
theorem dL_law_1515 : decode cL_law 1515 = .ok (.ifCond .ne 15, 3) := by decide +kernel
theorem dL_law_1518 : decode cL_law 1518 = .ok (.aload_n 3, 1) := by decide +kernel
theorem dL_law_1519 : decode cL_law 1519 = .ok (.iconst 0, 1) := by decide +kernel
theorem dL_law_1520 : decode cL_law 1520 = .ok (.laload, 1) := by decide +kernel
theorem dL_law_1521 : decode cL_law 1521 = .ok (.iload 6, 2) := by decide +kernel
theorem dL_law_1523 : decode cL_law 1523 = .ok (.i2l, 1) := by decide +kernel
theorem dL_law_1524 : decode cL_law 1524 = .ok (.lcmp, 1) := by decide +kernel
theorem dL_law_1525 : decode cL_law 1525 = .ok (.ifCond .eq 5, 3) := by decide +kernel
theorem dL_law_1528 : decode cL_law 1528 = .ok (.iconst 0, 1) := by decide +kernel
theorem dL_law_1529 : decode cL_law 1529 = .ok (.ireturn, 1) := by decide +kernel
theorem dL_law_1530 : decode cL_law 1530 = .ok (.goto 1486, 3) := by decide +kernel
theorem dL_law_1533 : decode cL_law 1533 = .ok (.aload_n 1, 1) := by decide +kernel
theorem dL_law_1534 : decode cL_law 1534 = .ok (.aload_n 0, 1) := by decide +kernel
theorem dL_law_1535 : decode cL_law 1535 = .ok (.iload 4, 2) := by decide +kernel
theorem dL_law_1537 : decode cL_law 1537 = .ok (.iconst 1, 1) := by decide +kernel
theorem dL_law_1538 : decode cL_law 1538 = .ok (.iadd, 1) := by decide +kernel
theorem dL_law_1539 : decode cL_law 1539 = .ok (.iaload, 1) := by decide +kernel
theorem dL_law_1540 : decode cL_law 1540 = .ok (.aload_n 3, 1) := by decide +kernel
theorem dL_law_1541 : decode cL_law 1541 = .ok (.invokestatic 223, 3) := by decide +kernel
theorem dL_law_1544 : decode cL_law 1544 = .ok (.istore 5, 2) := by decide +kernel
theorem dL_law_1546 : decode cL_law 1546 = .ok (.aload_n 2, 1) := by decide +kernel
theorem dL_law_1547 : decode cL_law 1547 = .ok (.aload_n 0, 1) := by decide +kernel
theorem dL_law_1548 : decode cL_law 1548 = .ok (.iload 4, 2) := by decide +kernel
theorem dL_law_1550 : decode cL_law 1550 = .ok (.iconst 1, 1) := by decide +kernel
theorem dL_law_1551 : decode cL_law 1551 = .ok (.iadd, 1) := by decide +kernel
theorem dL_law_1552 : decode cL_law 1552 = .ok (.iaload, 1) := by decide +kernel
theorem dL_law_1553 : decode cL_law 1553 = .ok (.invokevirtual 225, 3) := by decide +kernel
theorem dL_law_1556 : decode cL_law 1556 = .ok (.istore 6, 2) := by decide +kernel
theorem dL_law_1558 : decode cL_law 1558 = .ok (.aload_n 2, 1) := by decide +kernel
theorem dL_law_1559 : decode cL_law 1559 = .ok (.invokevirtual 156, 3) := by decide +kernel
theorem dL_law_1562 : decode cL_law 1562 = .ok (.iload 5, 2) := by decide +kernel
theorem dL_law_1564 : decode cL_law 1564 = .ok (.if_icmp .eq 5, 3) := by decide +kernel
theorem dL_law_1567 : decode cL_law 1567 = .ok (.iconst 0, 1) := by decide +kernel
theorem dL_law_1568 : decode cL_law 1568 = .ok (.ireturn, 1) := by decide +kernel
theorem dL_law_1569 : decode cL_law 1569 = .ok (.iload 5, 2) := by decide +kernel
theorem dL_law_1571 : decode cL_law 1571 = .ok (.ifCond .ne 15, 3) := by decide +kernel
theorem dL_law_1574 : decode cL_law 1574 = .ok (.aload_n 3, 1) := by decide +kernel
theorem dL_law_1575 : decode cL_law 1575 = .ok (.iconst 0, 1) := by decide +kernel
theorem dL_law_1576 : decode cL_law 1576 = .ok (.laload, 1) := by decide +kernel
theorem dL_law_1577 : decode cL_law 1577 = .ok (.iload 6, 2) := by decide +kernel
theorem dL_law_1579 : decode cL_law 1579 = .ok (.i2l, 1) := by decide +kernel
theorem dL_law_1580 : decode cL_law 1580 = .ok (.lcmp, 1) := by decide +kernel
theorem dL_law_1581 : decode cL_law 1581 = .ok (.ifCond .eq 5, 3) := by decide +kernel
theorem dL_law_1584 : decode cL_law 1584 = .ok (.iconst 0, 1) := by decide +kernel
theorem dL_law_1585 : decode cL_law 1585 = .ok (.ireturn, 1) := by decide +kernel
theorem dL_law_1586 : decode cL_law 1586 = .ok (.goto 1430, 3) := by decide +kernel
theorem dL_law_1589 : decode cL_law 1589 = .ok (.aload_n 1, 1) := by decide +kernel
theorem dL_law_1590 : decode cL_law 1590 = .ok (.aload_n 0, 1) := by decide +kernel
theorem dL_law_1591 : decode cL_law 1591 = .ok (.iload 4, 2) := by decide +kernel
theorem dL_law_1593 : decode cL_law 1593 = .ok (.iconst 1, 1) := by decide +kernel
theorem dL_law_1594 : decode cL_law 1594 = .ok (.iadd, 1) := by decide +kernel
theorem dL_law_1595 : decode cL_law 1595 = .ok (.iaload, 1) := by decide +kernel
theorem dL_law_1596 : decode cL_law 1596 = .ok (.aload_n 0, 1) := by decide +kernel
theorem dL_law_1597 : decode cL_law 1597 = .ok (.iload 4, 2) := by decide +kernel
theorem dL_law_1599 : decode cL_law 1599 = .ok (.iconst 2, 1) := by decide +kernel
theorem dL_law_1600 : decode cL_law 1600 = .ok (.iadd, 1) := by decide +kernel
theorem dL_law_1601 : decode cL_law 1601 = .ok (.iaload, 1) := by decide +kernel
theorem dL_law_1602 : decode cL_law 1602 = .ok (.aload_n 0, 1) := by decide +kernel
theorem dL_law_1603 : decode cL_law 1603 = .ok (.iload 4, 2) := by decide +kernel
theorem dL_law_1605 : decode cL_law 1605 = .ok (.iconst 3, 1) := by decide +kernel
theorem dL_law_1606 : decode cL_law 1606 = .ok (.iadd, 1) := by decide +kernel
theorem dL_law_1607 : decode cL_law 1607 = .ok (.iaload, 1) := by decide +kernel
theorem dL_law_1608 : decode cL_law 1608 = .ok (.aload_n 0, 1) := by decide +kernel
theorem dL_law_1609 : decode cL_law 1609 = .ok (.iload 4, 2) := by decide +kernel
theorem dL_law_1611 : decode cL_law 1611 = .ok (.iconst 4, 1) := by decide +kernel
theorem dL_law_1612 : decode cL_law 1612 = .ok (.iadd, 1) := by decide +kernel
theorem dL_law_1613 : decode cL_law 1613 = .ok (.iaload, 1) := by decide +kernel
theorem dL_law_1614 : decode cL_law 1614 = .ok (.aload_n 0, 1) := by decide +kernel
theorem dL_law_1615 : decode cL_law 1615 = .ok (.iload 4, 2) := by decide +kernel
theorem dL_law_1617 : decode cL_law 1617 = .ok (.iconst 5, 1) := by decide +kernel
theorem dL_law_1618 : decode cL_law 1618 = .ok (.iadd, 1) := by decide +kernel
theorem dL_law_1619 : decode cL_law 1619 = .ok (.iaload, 1) := by decide +kernel
theorem dL_law_1620 : decode cL_law 1620 = .ok (.invokevirtual 226, 3) := by decide +kernel
theorem dL_law_1623 : decode cL_law 1623 = .ok (.aload_n 2, 1) := by decide +kernel
theorem dL_law_1624 : decode cL_law 1624 = .ok (.aload_n 0, 1) := by decide +kernel
theorem dL_law_1625 : decode cL_law 1625 = .ok (.iload 4, 2) := by decide +kernel
theorem dL_law_1627 : decode cL_law 1627 = .ok (.iconst 1, 1) := by decide +kernel
theorem dL_law_1628 : decode cL_law 1628 = .ok (.iadd, 1) := by decide +kernel
theorem dL_law_1629 : decode cL_law 1629 = .ok (.iaload, 1) := by decide +kernel
theorem dL_law_1630 : decode cL_law 1630 = .ok (.aload_n 0, 1) := by decide +kernel
theorem dL_law_1631 : decode cL_law 1631 = .ok (.iload 4, 2) := by decide +kernel
theorem dL_law_1633 : decode cL_law 1633 = .ok (.iconst 2, 1) := by decide +kernel
theorem dL_law_1634 : decode cL_law 1634 = .ok (.iadd, 1) := by decide +kernel
theorem dL_law_1635 : decode cL_law 1635 = .ok (.iaload, 1) := by decide +kernel
theorem dL_law_1636 : decode cL_law 1636 = .ok (.aload_n 0, 1) := by decide +kernel
theorem dL_law_1637 : decode cL_law 1637 = .ok (.iload 4, 2) := by decide +kernel
theorem dL_law_1639 : decode cL_law 1639 = .ok (.iconst 3, 1) := by decide +kernel
theorem dL_law_1640 : decode cL_law 1640 = .ok (.iadd, 1) := by decide +kernel
theorem dL_law_1641 : decode cL_law 1641 = .ok (.iaload, 1) := by decide +kernel
theorem dL_law_1642 : decode cL_law 1642 = .ok (.aload_n 0, 1) := by decide +kernel
theorem dL_law_1643 : decode cL_law 1643 = .ok (.iload 4, 2) := by decide +kernel
theorem dL_law_1645 : decode cL_law 1645 = .ok (.iconst 4, 1) := by decide +kernel
theorem dL_law_1646 : decode cL_law 1646 = .ok (.iadd, 1) := by decide +kernel
theorem dL_law_1647 : decode cL_law 1647 = .ok (.iaload, 1) := by decide +kernel
theorem dL_law_1648 : decode cL_law 1648 = .ok (.aload_n 0, 1) := by decide +kernel
theorem dL_law_1649 : decode cL_law 1649 = .ok (.iload 4, 2) := by decide +kernel
theorem dL_law_1651 : decode cL_law 1651 = .ok (.iconst 5, 1) := by decide +kernel
theorem dL_law_1652 : decode cL_law 1652 = .ok (.iadd, 1) := by decide +kernel
theorem dL_law_1653 : decode cL_law 1653 = .ok (.iaload, 1) := by decide +kernel
theorem dL_law_1654 : decode cL_law 1654 = .ok (.invokevirtual 229, 3) := by decide +kernel
theorem dL_law_1657 : decode cL_law 1657 = .ok (.if_icmp .eq 1359, 3) := by decide +kernel
theorem dL_law_1660 : decode cL_law 1660 = .ok (.iconst 0, 1) := by decide +kernel
theorem dL_law_1661 : decode cL_law 1661 = .ok (.ireturn, 1) := by decide +kernel
theorem dL_law_1662 : decode cL_law 1662 = .ok (.aload_n 1, 1) := by decide +kernel
theorem dL_law_1663 : decode cL_law 1663 = .ok (.aload_n 0, 1) := by decide +kernel
theorem dL_law_1664 : decode cL_law 1664 = .ok (.iload 4, 2) := by decide +kernel
theorem dL_law_1666 : decode cL_law 1666 = .ok (.iconst 1, 1) := by decide +kernel
theorem dL_law_1667 : decode cL_law 1667 = .ok (.iadd, 1) := by decide +kernel
theorem dL_law_1668 : decode cL_law 1668 = .ok (.iaload, 1) := by decide +kernel
theorem dL_law_1669 : decode cL_law 1669 = .ok (.aload_n 3, 1) := by decide +kernel
theorem dL_law_1670 : decode cL_law 1670 = .ok (.invokestatic 230, 3) := by decide +kernel
theorem dL_law_1673 : decode cL_law 1673 = .ok (.istore 5, 2) := by decide +kernel
theorem dL_law_1675 : decode cL_law 1675 = .ok (.aload_n 2, 1) := by decide +kernel
theorem dL_law_1676 : decode cL_law 1676 = .ok (.aload_n 0, 1) := by decide +kernel
theorem dL_law_1677 : decode cL_law 1677 = .ok (.iload 4, 2) := by decide +kernel
theorem dL_law_1679 : decode cL_law 1679 = .ok (.iconst 1, 1) := by decide +kernel
theorem dL_law_1680 : decode cL_law 1680 = .ok (.iadd, 1) := by decide +kernel
theorem dL_law_1681 : decode cL_law 1681 = .ok (.iaload, 1) := by decide +kernel
theorem dL_law_1682 : decode cL_law 1682 = .ok (.invokevirtual 232, 3) := by decide +kernel
theorem dL_law_1685 : decode cL_law 1685 = .ok (.istore 6, 2) := by decide +kernel
theorem dL_law_1687 : decode cL_law 1687 = .ok (.aload_n 2, 1) := by decide +kernel
theorem dL_law_1688 : decode cL_law 1688 = .ok (.invokevirtual 156, 3) := by decide +kernel
theorem dL_law_1691 : decode cL_law 1691 = .ok (.iload 5, 2) := by decide +kernel
theorem dL_law_1693 : decode cL_law 1693 = .ok (.if_icmp .eq 5, 3) := by decide +kernel
theorem dL_law_1696 : decode cL_law 1696 = .ok (.iconst 0, 1) := by decide +kernel
theorem dL_law_1697 : decode cL_law 1697 = .ok (.ireturn, 1) := by decide +kernel
theorem dL_law_1698 : decode cL_law 1698 = .ok (.iload 5, 2) := by decide +kernel
theorem dL_law_1700 : decode cL_law 1700 = .ok (.ifCond .ne 15, 3) := by decide +kernel
theorem dL_law_1703 : decode cL_law 1703 = .ok (.aload_n 3, 1) := by decide +kernel
theorem dL_law_1704 : decode cL_law 1704 = .ok (.iconst 0, 1) := by decide +kernel
theorem dL_law_1705 : decode cL_law 1705 = .ok (.laload, 1) := by decide +kernel
theorem dL_law_1706 : decode cL_law 1706 = .ok (.iload 6, 2) := by decide +kernel
theorem dL_law_1708 : decode cL_law 1708 = .ok (.i2l, 1) := by decide +kernel
theorem dL_law_1709 : decode cL_law 1709 = .ok (.lcmp, 1) := by decide +kernel
theorem dL_law_1710 : decode cL_law 1710 = .ok (.ifCond .eq 5, 3) := by decide +kernel
theorem dL_law_1713 : decode cL_law 1713 = .ok (.iconst 0, 1) := by decide +kernel
theorem dL_law_1714 : decode cL_law 1714 = .ok (.ireturn, 1) := by decide +kernel
theorem dL_law_1715 : decode cL_law 1715 = .ok (.goto 1301, 3) := by decide +kernel
theorem dL_law_1718 : decode cL_law 1718 = .ok (.aload_n 1, 1) := by decide +kernel
theorem dL_law_1719 : decode cL_law 1719 = .ok (.invokevirtual 233, 3) := by decide +kernel
theorem dL_law_1722 : decode cL_law 1722 = .ok (.aload_n 2, 1) := by decide +kernel
theorem dL_law_1723 : decode cL_law 1723 = .ok (.invokevirtual 236, 3) := by decide +kernel
theorem dL_law_1726 : decode cL_law 1726 = .ok (.if_icmp .eq 1290, 3) := by decide +kernel
theorem dL_law_1729 : decode cL_law 1729 = .ok (.iconst 0, 1) := by decide +kernel
theorem dL_law_1730 : decode cL_law 1730 = .ok (.ireturn, 1) := by decide +kernel
theorem dL_law_1731 : decode cL_law 1731 = .ok (.aload_n 1, 1) := by decide +kernel
theorem dL_law_1732 : decode cL_law 1732 = .ok (.invokevirtual 237, 3) := by decide +kernel
theorem dL_law_1735 : decode cL_law 1735 = .ok (.aload_n 2, 1) := by decide +kernel
theorem dL_law_1736 : decode cL_law 1736 = .ok (.invokevirtual 240, 3) := by decide +kernel
theorem dL_law_1739 : decode cL_law 1739 = .ok (.if_icmp .eq 1277, 3) := by decide +kernel
theorem dL_law_1742 : decode cL_law 1742 = .ok (.iconst 0, 1) := by decide +kernel
theorem dL_law_1743 : decode cL_law 1743 = .ok (.ireturn, 1) := by decide +kernel
theorem dL_law_1744 : decode cL_law 1744 = .ok (.aload_n 1, 1) := by decide +kernel
theorem dL_law_1745 : decode cL_law 1745 = .ok (.aload_n 0, 1) := by decide +kernel
theorem dL_law_1746 : decode cL_law 1746 = .ok (.iload 4, 2) := by decide +kernel
theorem dL_law_1748 : decode cL_law 1748 = .ok (.iconst 1, 1) := by decide +kernel
theorem dL_law_1749 : decode cL_law 1749 = .ok (.iadd, 1) := by decide +kernel
theorem dL_law_1750 : decode cL_law 1750 = .ok (.iaload, 1) := by decide +kernel
theorem dL_law_1751 : decode cL_law 1751 = .ok (.aload_n 0, 1) := by decide +kernel
theorem dL_law_1752 : decode cL_law 1752 = .ok (.iload 4, 2) := by decide +kernel
theorem dL_law_1754 : decode cL_law 1754 = .ok (.iconst 2, 1) := by decide +kernel
theorem dL_law_1755 : decode cL_law 1755 = .ok (.iadd, 1) := by decide +kernel
theorem dL_law_1756 : decode cL_law 1756 = .ok (.iaload, 1) := by decide +kernel
theorem dL_law_1757 : decode cL_law 1757 = .ok (.aload_n 3, 1) := by decide +kernel
theorem dL_law_1758 : decode cL_law 1758 = .ok (.invokestatic 241, 3) := by decide +kernel
theorem dL_law_1761 : decode cL_law 1761 = .ok (.istore 5, 2) := by decide +kernel
theorem dL_law_1763 : decode cL_law 1763 = .ok (.aload_n 2, 1) := by decide +kernel
theorem dL_law_1764 : decode cL_law 1764 = .ok (.aload_n 0, 1) := by decide +kernel
theorem dL_law_1765 : decode cL_law 1765 = .ok (.iload 4, 2) := by decide +kernel
theorem dL_law_1767 : decode cL_law 1767 = .ok (.iconst 1, 1) := by decide +kernel
theorem dL_law_1768 : decode cL_law 1768 = .ok (.iadd, 1) := by decide +kernel
theorem dL_law_1769 : decode cL_law 1769 = .ok (.iaload, 1) := by decide +kernel
theorem dL_law_1770 : decode cL_law 1770 = .ok (.aload_n 0, 1) := by decide +kernel
theorem dL_law_1771 : decode cL_law 1771 = .ok (.iload 4, 2) := by decide +kernel
theorem dL_law_1773 : decode cL_law 1773 = .ok (.iconst 2, 1) := by decide +kernel
theorem dL_law_1774 : decode cL_law 1774 = .ok (.iadd, 1) := by decide +kernel
theorem dL_law_1775 : decode cL_law 1775 = .ok (.iaload, 1) := by decide +kernel
theorem dL_law_1776 : decode cL_law 1776 = .ok (.invokevirtual 243, 3) := by decide +kernel
theorem dL_law_1779 : decode cL_law 1779 = .ok (.istore 6, 2) := by decide +kernel
theorem dL_law_1781 : decode cL_law 1781 = .ok (.aload_n 2, 1) := by decide +kernel
theorem dL_law_1782 : decode cL_law 1782 = .ok (.invokevirtual 156, 3) := by decide +kernel
theorem dL_law_1785 : decode cL_law 1785 = .ok (.iload 5, 2) := by decide +kernel
theorem dL_law_1787 : decode cL_law 1787 = .ok (.if_icmp .eq 5, 3) := by decide +kernel
theorem dL_law_1790 : decode cL_law 1790 = .ok (.iconst 0, 1) := by decide +kernel
theorem dL_law_1791 : decode cL_law 1791 = .ok (.ireturn, 1) := by decide +kernel
theorem dL_law_1792 : decode cL_law 1792 = .ok (.iload 5, 2) := by decide +kernel
theorem dL_law_1794 : decode cL_law 1794 = .ok (.ifCond .ne 15, 3) := by decide +kernel
theorem dL_law_1797 : decode cL_law 1797 = .ok (.aload_n 3, 1) := by decide +kernel
theorem dL_law_1798 : decode cL_law 1798 = .ok (.iconst 0, 1) := by decide +kernel
theorem dL_law_1799 : decode cL_law 1799 = .ok (.laload, 1) := by decide +kernel
theorem dL_law_1800 : decode cL_law 1800 = .ok (.iload 6, 2) := by decide +kernel
theorem dL_law_1802 : decode cL_law 1802 = .ok (.i2l, 1) := by decide +kernel
theorem dL_law_1803 : decode cL_law 1803 = .ok (.lcmp, 1) := by decide +kernel
theorem dL_law_1804 : decode cL_law 1804 = .ok (.ifCond .eq 5, 3) := by decide +kernel
theorem dL_law_1807 : decode cL_law 1807 = .ok (.iconst 0, 1) := by decide +kernel
theorem dL_law_1808 : decode cL_law 1808 = .ok (.ireturn, 1) := by decide +kernel
theorem dL_law_1809 : decode cL_law 1809 = .ok (.goto 1207, 3) := by decide +kernel
theorem dL_law_1812 : decode cL_law 1812 = .ok (.aload_n 1, 1) := by decide +kernel
theorem dL_law_1813 : decode cL_law 1813 = .ok (.aload_n 0, 1) := by decide +kernel
theorem dL_law_1814 : decode cL_law 1814 = .ok (.iload 4, 2) := by decide +kernel
theorem dL_law_1816 : decode cL_law 1816 = .ok (.iconst 1, 1) := by decide +kernel
theorem dL_law_1817 : decode cL_law 1817 = .ok (.iadd, 1) := by decide +kernel
theorem dL_law_1818 : decode cL_law 1818 = .ok (.iaload, 1) := by decide +kernel
theorem dL_law_1819 : decode cL_law 1819 = .ok (.aload_n 3, 1) := by decide +kernel
theorem dL_law_1820 : decode cL_law 1820 = .ok (.invokestatic 244, 3) := by decide +kernel
theorem dL_law_1823 : decode cL_law 1823 = .ok (.istore 5, 2) := by decide +kernel
theorem dL_law_1825 : decode cL_law 1825 = .ok (.aload_n 2, 1) := by decide +kernel
theorem dL_law_1826 : decode cL_law 1826 = .ok (.aload_n 0, 1) := by decide +kernel
theorem dL_law_1827 : decode cL_law 1827 = .ok (.iload 4, 2) := by decide +kernel
theorem dL_law_1829 : decode cL_law 1829 = .ok (.iconst 1, 1) := by decide +kernel
theorem dL_law_1830 : decode cL_law 1830 = .ok (.iadd, 1) := by decide +kernel
theorem dL_law_1831 : decode cL_law 1831 = .ok (.iaload, 1) := by decide +kernel
theorem dL_law_1832 : decode cL_law 1832 = .ok (.invokevirtual 246, 3) := by decide +kernel
theorem dL_law_1835 : decode cL_law 1835 = .ok (.istore 6, 2) := by decide +kernel
theorem dL_law_1837 : decode cL_law 1837 = .ok (.aload_n 2, 1) := by decide +kernel
theorem dL_law_1838 : decode cL_law 1838 = .ok (.invokevirtual 156, 3) := by decide +kernel
theorem dL_law_1841 : decode cL_law 1841 = .ok (.iload 5, 2) := by decide +kernel
theorem dL_law_1843 : decode cL_law 1843 = .ok (.if_icmp .eq 5, 3) := by decide +kernel
theorem dL_law_1846 : decode cL_law 1846 = .ok (.iconst 0, 1) := by decide +kernel
theorem dL_law_1847 : decode cL_law 1847 = .ok (.ireturn, 1) := by decide +kernel
theorem dL_law_1848 : decode cL_law 1848 = .ok (.iload 5, 2) := by decide +kernel
theorem dL_law_1850 : decode cL_law 1850 = .ok (.ifCond .ne 15, 3) := by decide +kernel
theorem dL_law_1853 : decode cL_law 1853 = .ok (.aload_n 3, 1) := by decide +kernel
theorem dL_law_1854 : decode cL_law 1854 = .ok (.iconst 0, 1) := by decide +kernel
theorem dL_law_1855 : decode cL_law 1855 = .ok (.laload, 1) := by decide +kernel
theorem dL_law_1856 : decode cL_law 1856 = .ok (.iload 6, 2) := by decide +kernel
theorem dL_law_1858 : decode cL_law 1858 = .ok (.i2l, 1) := by decide +kernel
theorem dL_law_1859 : decode cL_law 1859 = .ok (.lcmp, 1) := by decide +kernel
theorem dL_law_1860 : decode cL_law 1860 = .ok (.ifCond .eq 5, 3) := by decide +kernel
theorem dL_law_1863 : decode cL_law 1863 = .ok (.iconst 0, 1) := by decide +kernel
theorem dL_law_1864 : decode cL_law 1864 = .ok (.ireturn, 1) := by decide +kernel
theorem dL_law_1865 : decode cL_law 1865 = .ok (.goto 1151, 3) := by decide +kernel
theorem dL_law_1868 : decode cL_law 1868 = .ok (.aload_n 1, 1) := by decide +kernel
theorem dL_law_1869 : decode cL_law 1869 = .ok (.aload_n 0, 1) := by decide +kernel
theorem dL_law_1870 : decode cL_law 1870 = .ok (.iload 4, 2) := by decide +kernel
theorem dL_law_1872 : decode cL_law 1872 = .ok (.iconst 1, 1) := by decide +kernel
theorem dL_law_1873 : decode cL_law 1873 = .ok (.iadd, 1) := by decide +kernel
theorem dL_law_1874 : decode cL_law 1874 = .ok (.iaload, 1) := by decide +kernel
theorem dL_law_1875 : decode cL_law 1875 = .ok (.aload_n 0, 1) := by decide +kernel
theorem dL_law_1876 : decode cL_law 1876 = .ok (.iload 4, 2) := by decide +kernel
theorem dL_law_1878 : decode cL_law 1878 = .ok (.iconst 2, 1) := by decide +kernel
theorem dL_law_1879 : decode cL_law 1879 = .ok (.iadd, 1) := by decide +kernel
theorem dL_law_1880 : decode cL_law 1880 = .ok (.iaload, 1) := by decide +kernel
theorem dL_law_1881 : decode cL_law 1881 = .ok (.aload_n 3, 1) := by decide +kernel
theorem dL_law_1882 : decode cL_law 1882 = .ok (.invokestatic 247, 3) := by decide +kernel
theorem dL_law_1885 : decode cL_law 1885 = .ok (.istore 5, 2) := by decide +kernel
theorem dL_law_1887 : decode cL_law 1887 = .ok (.aload_n 2, 1) := by decide +kernel
theorem dL_law_1888 : decode cL_law 1888 = .ok (.aload_n 0, 1) := by decide +kernel
theorem dL_law_1889 : decode cL_law 1889 = .ok (.iload 4, 2) := by decide +kernel
theorem dL_law_1891 : decode cL_law 1891 = .ok (.iconst 1, 1) := by decide +kernel
theorem dL_law_1892 : decode cL_law 1892 = .ok (.iadd, 1) := by decide +kernel
theorem dL_law_1893 : decode cL_law 1893 = .ok (.iaload, 1) := by decide +kernel
theorem dL_law_1894 : decode cL_law 1894 = .ok (.aload_n 0, 1) := by decide +kernel
theorem dL_law_1895 : decode cL_law 1895 = .ok (.iload 4, 2) := by decide +kernel
theorem dL_law_1897 : decode cL_law 1897 = .ok (.iconst 2, 1) := by decide +kernel
theorem dL_law_1898 : decode cL_law 1898 = .ok (.iadd, 1) := by decide +kernel
theorem dL_law_1899 : decode cL_law 1899 = .ok (.iaload, 1) := by decide +kernel
theorem dL_law_1900 : decode cL_law 1900 = .ok (.invokevirtual 249, 3) := by decide +kernel
theorem dL_law_1903 : decode cL_law 1903 = .ok (.istore 6, 2) := by decide +kernel
theorem dL_law_1905 : decode cL_law 1905 = .ok (.aload_n 2, 1) := by decide +kernel
theorem dL_law_1906 : decode cL_law 1906 = .ok (.invokevirtual 156, 3) := by decide +kernel
theorem dL_law_1909 : decode cL_law 1909 = .ok (.iload 5, 2) := by decide +kernel
theorem dL_law_1911 : decode cL_law 1911 = .ok (.if_icmp .eq 5, 3) := by decide +kernel
theorem dL_law_1914 : decode cL_law 1914 = .ok (.iconst 0, 1) := by decide +kernel
theorem dL_law_1915 : decode cL_law 1915 = .ok (.ireturn, 1) := by decide +kernel
theorem dL_law_1916 : decode cL_law 1916 = .ok (.iload 5, 2) := by decide +kernel
theorem dL_law_1918 : decode cL_law 1918 = .ok (.ifCond .ne 15, 3) := by decide +kernel
theorem dL_law_1921 : decode cL_law 1921 = .ok (.aload_n 3, 1) := by decide +kernel
theorem dL_law_1922 : decode cL_law 1922 = .ok (.iconst 0, 1) := by decide +kernel
theorem dL_law_1923 : decode cL_law 1923 = .ok (.laload, 1) := by decide +kernel
theorem dL_law_1924 : decode cL_law 1924 = .ok (.iload 6, 2) := by decide +kernel
theorem dL_law_1926 : decode cL_law 1926 = .ok (.i2l, 1) := by decide +kernel
theorem dL_law_1927 : decode cL_law 1927 = .ok (.lcmp, 1) := by decide +kernel
theorem dL_law_1928 : decode cL_law 1928 = .ok (.ifCond .eq 5, 3) := by decide +kernel
theorem dL_law_1931 : decode cL_law 1931 = .ok (.iconst 0, 1) := by decide +kernel
theorem dL_law_1932 : decode cL_law 1932 = .ok (.ireturn, 1) := by decide +kernel
theorem dL_law_1933 : decode cL_law 1933 = .ok (.goto 1083, 3) := by decide +kernel
theorem dL_law_1936 : decode cL_law 1936 = .ok (.aload_n 1, 1) := by decide +kernel
theorem dL_law_1937 : decode cL_law 1937 = .ok (.aload_n 0, 1) := by decide +kernel
theorem dL_law_1938 : decode cL_law 1938 = .ok (.iload 4, 2) := by decide +kernel
theorem dL_law_1940 : decode cL_law 1940 = .ok (.iconst 1, 1) := by decide +kernel
theorem dL_law_1941 : decode cL_law 1941 = .ok (.iadd, 1) := by decide +kernel
theorem dL_law_1942 : decode cL_law 1942 = .ok (.iaload, 1) := by decide +kernel
theorem dL_law_1943 : decode cL_law 1943 = .ok (.aload_n 0, 1) := by decide +kernel
theorem dL_law_1944 : decode cL_law 1944 = .ok (.iload 4, 2) := by decide +kernel
theorem dL_law_1946 : decode cL_law 1946 = .ok (.iconst 2, 1) := by decide +kernel
theorem dL_law_1947 : decode cL_law 1947 = .ok (.iadd, 1) := by decide +kernel
theorem dL_law_1948 : decode cL_law 1948 = .ok (.iaload, 1) := by decide +kernel
theorem dL_law_1949 : decode cL_law 1949 = .ok (.aload_n 3, 1) := by decide +kernel
theorem dL_law_1950 : decode cL_law 1950 = .ok (.invokestatic 250, 3) := by decide +kernel
theorem dL_law_1953 : decode cL_law 1953 = .ok (.istore 5, 2) := by decide +kernel
theorem dL_law_1955 : decode cL_law 1955 = .ok (.aload_n 2, 1) := by decide +kernel
theorem dL_law_1956 : decode cL_law 1956 = .ok (.aload_n 0, 1) := by decide +kernel
theorem dL_law_1957 : decode cL_law 1957 = .ok (.iload 4, 2) := by decide +kernel
theorem dL_law_1959 : decode cL_law 1959 = .ok (.iconst 1, 1) := by decide +kernel
theorem dL_law_1960 : decode cL_law 1960 = .ok (.iadd, 1) := by decide +kernel
theorem dL_law_1961 : decode cL_law 1961 = .ok (.iaload, 1) := by decide +kernel
theorem dL_law_1962 : decode cL_law 1962 = .ok (.aload_n 0, 1) := by decide +kernel
theorem dL_law_1963 : decode cL_law 1963 = .ok (.iload 4, 2) := by decide +kernel
theorem dL_law_1965 : decode cL_law 1965 = .ok (.iconst 2, 1) := by decide +kernel
theorem dL_law_1966 : decode cL_law 1966 = .ok (.iadd, 1) := by decide +kernel
theorem dL_law_1967 : decode cL_law 1967 = .ok (.iaload, 1) := by decide +kernel
theorem dL_law_1968 : decode cL_law 1968 = .ok (.invokevirtual 252, 3) := by decide +kernel
theorem dL_law_1971 : decode cL_law 1971 = .ok (.istore 6, 2) := by decide +kernel
theorem dL_law_1973 : decode cL_law 1973 = .ok (.aload_n 2, 1) := by decide +kernel
theorem dL_law_1974 : decode cL_law 1974 = .ok (.invokevirtual 156, 3) := by decide +kernel
theorem dL_law_1977 : decode cL_law 1977 = .ok (.iload 5, 2) := by decide +kernel
theorem dL_law_1979 : decode cL_law 1979 = .ok (.if_icmp .eq 5, 3) := by decide +kernel
theorem dL_law_1982 : decode cL_law 1982 = .ok (.iconst 0, 1) := by decide +kernel
theorem dL_law_1983 : decode cL_law 1983 = .ok (.ireturn, 1) := by decide +kernel
theorem dL_law_1984 : decode cL_law 1984 = .ok (.iload 5, 2) := by decide +kernel
theorem dL_law_1986 : decode cL_law 1986 = .ok (.ifCond .ne 15, 3) := by decide +kernel
theorem dL_law_1989 : decode cL_law 1989 = .ok (.aload_n 3, 1) := by decide +kernel
theorem dL_law_1990 : decode cL_law 1990 = .ok (.iconst 0, 1) := by decide +kernel
theorem dL_law_1991 : decode cL_law 1991 = .ok (.laload, 1) := by decide +kernel
theorem dL_law_1992 : decode cL_law 1992 = .ok (.iload 6, 2) := by decide +kernel
theorem dL_law_1994 : decode cL_law 1994 = .ok (.i2l, 1) := by decide +kernel
theorem dL_law_1995 : decode cL_law 1995 = .ok (.lcmp, 1) := by decide +kernel
theorem dL_law_1996 : decode cL_law 1996 = .ok (.ifCond .eq 5, 3) := by decide +kernel
theorem dL_law_1999 : decode cL_law 1999 = .ok (.iconst 0, 1) := by decide +kernel
theorem dL_law_2000 : decode cL_law 2000 = .ok (.ireturn, 1) := by decide +kernel
theorem dL_law_2001 : decode cL_law 2001 = .ok (.goto 1015, 3) := by decide +kernel
theorem dL_law_2004 : decode cL_law 2004 = .ok (.aload_n 1, 1) := by decide +kernel
theorem dL_law_2005 : decode cL_law 2005 = .ok (.aload_n 0, 1) := by decide +kernel
theorem dL_law_2006 : decode cL_law 2006 = .ok (.iload 4, 2) := by decide +kernel
theorem dL_law_2008 : decode cL_law 2008 = .ok (.iconst 1, 1) := by decide +kernel
theorem dL_law_2009 : decode cL_law 2009 = .ok (.iadd, 1) := by decide +kernel
theorem dL_law_2010 : decode cL_law 2010 = .ok (.iaload, 1) := by decide +kernel
theorem dL_law_2011 : decode cL_law 2011 = .ok (.aload_n 0, 1) := by decide +kernel
theorem dL_law_2012 : decode cL_law 2012 = .ok (.iload 4, 2) := by decide +kernel
theorem dL_law_2014 : decode cL_law 2014 = .ok (.iconst 2, 1) := by decide +kernel
theorem dL_law_2015 : decode cL_law 2015 = .ok (.iadd, 1) := by decide +kernel
theorem dL_law_2016 : decode cL_law 2016 = .ok (.iaload, 1) := by decide +kernel
theorem dL_law_2017 : decode cL_law 2017 = .ok (.aload_n 0, 1) := by decide +kernel
theorem dL_law_2018 : decode cL_law 2018 = .ok (.iload 4, 2) := by decide +kernel
theorem dL_law_2020 : decode cL_law 2020 = .ok (.iconst 3, 1) := by decide +kernel
theorem dL_law_2021 : decode cL_law 2021 = .ok (.iadd, 1) := by decide +kernel
theorem dL_law_2022 : decode cL_law 2022 = .ok (.iaload, 1) := by decide +kernel
theorem dL_law_2023 : decode cL_law 2023 = .ok (.aload_n 3, 1) := by decide +kernel
theorem dL_law_2024 : decode cL_law 2024 = .ok (.invokestatic 253, 3) := by decide +kernel
theorem dL_law_2027 : decode cL_law 2027 = .ok (.istore 5, 2) := by decide +kernel
theorem dL_law_2029 : decode cL_law 2029 = .ok (.aload_n 2, 1) := by decide +kernel
theorem dL_law_2030 : decode cL_law 2030 = .ok (.aload_n 0, 1) := by decide +kernel
theorem dL_law_2031 : decode cL_law 2031 = .ok (.iload 4, 2) := by decide +kernel
theorem dL_law_2033 : decode cL_law 2033 = .ok (.iconst 1, 1) := by decide +kernel
theorem dL_law_2034 : decode cL_law 2034 = .ok (.iadd, 1) := by decide +kernel
theorem dL_law_2035 : decode cL_law 2035 = .ok (.iaload, 1) := by decide +kernel
theorem dL_law_2036 : decode cL_law 2036 = .ok (.aload_n 0, 1) := by decide +kernel
theorem dL_law_2037 : decode cL_law 2037 = .ok (.iload 4, 2) := by decide +kernel
theorem dL_law_2039 : decode cL_law 2039 = .ok (.iconst 2, 1) := by decide +kernel
theorem dL_law_2040 : decode cL_law 2040 = .ok (.iadd, 1) := by decide +kernel
theorem dL_law_2041 : decode cL_law 2041 = .ok (.iaload, 1) := by decide +kernel
theorem dL_law_2042 : decode cL_law 2042 = .ok (.aload_n 0, 1) := by decide +kernel
theorem dL_law_2043 : decode cL_law 2043 = .ok (.iload 4, 2) := by decide +kernel
theorem dL_law_2045 : decode cL_law 2045 = .ok (.iconst 3, 1) := by decide +kernel
theorem dL_law_2046 : decode cL_law 2046 = .ok (.iadd, 1) := by decide +kernel
theorem dL_law_2047 : decode cL_law 2047 = .ok (.iaload, 1) := by decide +kernel
theorem dL_law_2048 : decode cL_law 2048 = .ok (.invokevirtual 255, 3) := by decide +kernel
theorem dL_law_2051 : decode cL_law 2051 = .ok (.istore 6, 2) := by decide +kernel
theorem dL_law_2053 : decode cL_law 2053 = .ok (.aload_n 2, 1) := by decide +kernel
theorem dL_law_2054 : decode cL_law 2054 = .ok (.invokevirtual 156, 3) := by decide +kernel
theorem dL_law_2057 : decode cL_law 2057 = .ok (.iload 5, 2) := by decide +kernel
theorem dL_law_2059 : decode cL_law 2059 = .ok (.if_icmp .eq 5, 3) := by decide +kernel
theorem dL_law_2062 : decode cL_law 2062 = .ok (.iconst 0, 1) := by decide +kernel
theorem dL_law_2063 : decode cL_law 2063 = .ok (.ireturn, 1) := by decide +kernel
theorem dL_law_2064 : decode cL_law 2064 = .ok (.iload 5, 2) := by decide +kernel
theorem dL_law_2066 : decode cL_law 2066 = .ok (.ifCond .ne 15, 3) := by decide +kernel
theorem dL_law_2069 : decode cL_law 2069 = .ok (.aload_n 3, 1) := by decide +kernel
theorem dL_law_2070 : decode cL_law 2070 = .ok (.iconst 0, 1) := by decide +kernel
theorem dL_law_2071 : decode cL_law 2071 = .ok (.laload, 1) := by decide +kernel
theorem dL_law_2072 : decode cL_law 2072 = .ok (.iload 6, 2) := by decide +kernel
theorem dL_law_2074 : decode cL_law 2074 = .ok (.i2l, 1) := by decide +kernel
theorem dL_law_2075 : decode cL_law 2075 = .ok (.lcmp, 1) := by decide +kernel
theorem dL_law_2076 : decode cL_law 2076 = .ok (.ifCond .eq 5, 3) := by decide +kernel
theorem dL_law_2079 : decode cL_law 2079 = .ok (.iconst 0, 1) := by decide +kernel
theorem dL_law_2080 : decode cL_law 2080 = .ok (.ireturn, 1) := by decide +kernel
theorem dL_law_2081 : decode cL_law 2081 = .ok (.goto 935, 3) := by decide +kernel
theorem dL_law_2084 : decode cL_law 2084 = .ok (.aload_n 1, 1) := by decide +kernel
theorem dL_law_2085 : decode cL_law 2085 = .ok (.aload_n 0, 1) := by decide +kernel
theorem dL_law_2086 : decode cL_law 2086 = .ok (.iload 4, 2) := by decide +kernel
theorem dL_law_2088 : decode cL_law 2088 = .ok (.iconst 1, 1) := by decide +kernel
theorem dL_law_2089 : decode cL_law 2089 = .ok (.iadd, 1) := by decide +kernel
theorem dL_law_2090 : decode cL_law 2090 = .ok (.iaload, 1) := by decide +kernel
theorem dL_law_2091 : decode cL_law 2091 = .ok (.aload_n 3, 1) := by decide +kernel
theorem dL_law_2092 : decode cL_law 2092 = .ok (.invokestatic 256, 3) := by decide +kernel
theorem dL_law_2095 : decode cL_law 2095 = .ok (.istore 5, 2) := by decide +kernel
theorem dL_law_2097 : decode cL_law 2097 = .ok (.aload_n 2, 1) := by decide +kernel
theorem dL_law_2098 : decode cL_law 2098 = .ok (.aload_n 0, 1) := by decide +kernel
theorem dL_law_2099 : decode cL_law 2099 = .ok (.iload 4, 2) := by decide +kernel
theorem dL_law_2101 : decode cL_law 2101 = .ok (.iconst 1, 1) := by decide +kernel
theorem dL_law_2102 : decode cL_law 2102 = .ok (.iadd, 1) := by decide +kernel
theorem dL_law_2103 : decode cL_law 2103 = .ok (.iaload, 1) := by decide +kernel
theorem dL_law_2104 : decode cL_law 2104 = .ok (.invokevirtual 258, 3) := by decide +kernel
theorem dL_law_2107 : decode cL_law 2107 = .ok (.istore 6, 2) := by decide +kernel
theorem dL_law_2109 : decode cL_law 2109 = .ok (.aload_n 2, 1) := by decide +kernel
theorem dL_law_2110 : decode cL_law 2110 = .ok (.invokevirtual 156, 3) := by decide +kernel
theorem dL_law_2113 : decode cL_law 2113 = .ok (.iload 5, 2) := by decide +kernel
theorem dL_law_2115 : decode cL_law 2115 = .ok (.if_icmp .eq 5, 3) := by decide +kernel
theorem dL_law_2118 : decode cL_law 2118 = .ok (.iconst 0, 1) := by decide +kernel
theorem dL_law_2119 : decode cL_law 2119 = .ok (.ireturn, 1) := by decide +kernel
theorem dL_law_2120 : decode cL_law 2120 = .ok (.iload 5, 2) := by decide +kernel
theorem dL_law_2122 : decode cL_law 2122 = .ok (.ifCond .ne 15, 3) := by decide +kernel
theorem dL_law_2125 : decode cL_law 2125 = .ok (.aload_n 3, 1) := by decide +kernel
theorem dL_law_2126 : decode cL_law 2126 = .ok (.iconst 0, 1) := by decide +kernel
theorem dL_law_2127 : decode cL_law 2127 = .ok (.laload, 1) := by decide +kernel
theorem dL_law_2128 : decode cL_law 2128 = .ok (.iload 6, 2) := by decide +kernel
theorem dL_law_2130 : decode cL_law 2130 = .ok (.i2l, 1) := by decide +kernel
theorem dL_law_2131 : decode cL_law 2131 = .ok (.lcmp, 1) := by decide +kernel
theorem dL_law_2132 : decode cL_law 2132 = .ok (.ifCond .eq 5, 3) := by decide +kernel
theorem dL_law_2135 : decode cL_law 2135 = .ok (.iconst 0, 1) := by decide +kernel
theorem dL_law_2136 : decode cL_law 2136 = .ok (.ireturn, 1) := by decide +kernel
theorem dL_law_2137 : decode cL_law 2137 = .ok (.goto 879, 3) := by decide +kernel
theorem dL_law_2140 : decode cL_law 2140 = .ok (.aload_n 1, 1) := by decide +kernel
theorem dL_law_2141 : decode cL_law 2141 = .ok (.aload_n 0, 1) := by decide +kernel
theorem dL_law_2142 : decode cL_law 2142 = .ok (.iload 4, 2) := by decide +kernel
theorem dL_law_2144 : decode cL_law 2144 = .ok (.iconst 1, 1) := by decide +kernel
theorem dL_law_2145 : decode cL_law 2145 = .ok (.iadd, 1) := by decide +kernel
theorem dL_law_2146 : decode cL_law 2146 = .ok (.iaload, 1) := by decide +kernel
theorem dL_law_2147 : decode cL_law 2147 = .ok (.aload_n 0, 1) := by decide +kernel
theorem dL_law_2148 : decode cL_law 2148 = .ok (.iload 4, 2) := by decide +kernel
theorem dL_law_2150 : decode cL_law 2150 = .ok (.iconst 2, 1) := by decide +kernel
theorem dL_law_2151 : decode cL_law 2151 = .ok (.iadd, 1) := by decide +kernel
theorem dL_law_2152 : decode cL_law 2152 = .ok (.iaload, 1) := by decide +kernel
theorem dL_law_2153 : decode cL_law 2153 = .ok (.aload_n 3, 1) := by decide +kernel
theorem dL_law_2154 : decode cL_law 2154 = .ok (.invokestatic 259, 3) := by decide +kernel
theorem dL_law_2157 : decode cL_law 2157 = .ok (.istore 5, 2) := by decide +kernel
theorem dL_law_2159 : decode cL_law 2159 = .ok (.aload_n 2, 1) := by decide +kernel
theorem dL_law_2160 : decode cL_law 2160 = .ok (.aload_n 0, 1) := by decide +kernel
theorem dL_law_2161 : decode cL_law 2161 = .ok (.iload 4, 2) := by decide +kernel
theorem dL_law_2163 : decode cL_law 2163 = .ok (.iconst 1, 1) := by decide +kernel
theorem dL_law_2164 : decode cL_law 2164 = .ok (.iadd, 1) := by decide +kernel
theorem dL_law_2165 : decode cL_law 2165 = .ok (.iaload, 1) := by decide +kernel
theorem dL_law_2166 : decode cL_law 2166 = .ok (.aload_n 0, 1) := by decide +kernel
theorem dL_law_2167 : decode cL_law 2167 = .ok (.iload 4, 2) := by decide +kernel
theorem dL_law_2169 : decode cL_law 2169 = .ok (.iconst 2, 1) := by decide +kernel
theorem dL_law_2170 : decode cL_law 2170 = .ok (.iadd, 1) := by decide +kernel
theorem dL_law_2171 : decode cL_law 2171 = .ok (.iaload, 1) := by decide +kernel
theorem dL_law_2172 : decode cL_law 2172 = .ok (.invokevirtual 261, 3) := by decide +kernel
theorem dL_law_2175 : decode cL_law 2175 = .ok (.istore 6, 2) := by decide +kernel
theorem dL_law_2177 : decode cL_law 2177 = .ok (.aload_n 2, 1) := by decide +kernel
theorem dL_law_2178 : decode cL_law 2178 = .ok (.invokevirtual 156, 3) := by decide +kernel
theorem dL_law_2181 : decode cL_law 2181 = .ok (.iload 5, 2) := by decide +kernel
theorem dL_law_2183 : decode cL_law 2183 = .ok (.if_icmp .eq 5, 3) := by decide +kernel
theorem dL_law_2186 : decode cL_law 2186 = .ok (.iconst 0, 1) := by decide +kernel
theorem dL_law_2187 : decode cL_law 2187 = .ok (.ireturn, 1) := by decide +kernel
theorem dL_law_2188 : decode cL_law 2188 = .ok (.iload 5, 2) := by decide +kernel
theorem dL_law_2190 : decode cL_law 2190 = .ok (.ifCond .ne 15, 3) := by decide +kernel
theorem dL_law_2193 : decode cL_law 2193 = .ok (.aload_n 3, 1) := by decide +kernel
theorem dL_law_2194 : decode cL_law 2194 = .ok (.iconst 0, 1) := by decide +kernel
theorem dL_law_2195 : decode cL_law 2195 = .ok (.laload, 1) := by decide +kernel
theorem dL_law_2196 : decode cL_law 2196 = .ok (.iload 6, 2) := by decide +kernel
theorem dL_law_2198 : decode cL_law 2198 = .ok (.i2l, 1) := by decide +kernel
theorem dL_law_2199 : decode cL_law 2199 = .ok (.lcmp, 1) := by decide +kernel
theorem dL_law_2200 : decode cL_law 2200 = .ok (.ifCond .eq 5, 3) := by decide +kernel
theorem dL_law_2203 : decode cL_law 2203 = .ok (.iconst 0, 1) := by decide +kernel
theorem dL_law_2204 : decode cL_law 2204 = .ok (.ireturn, 1) := by decide +kernel
theorem dL_law_2205 : decode cL_law 2205 = .ok (.goto 811, 3) := by decide +kernel
theorem dL_law_2208 : decode cL_law 2208 = .ok (.aload_n 1, 1) := by decide +kernel
theorem dL_law_2209 : decode cL_law 2209 = .ok (.aload_n 0, 1) := by decide +kernel
theorem dL_law_2210 : decode cL_law 2210 = .ok (.iload 4, 2) := by decide +kernel
theorem dL_law_2212 : decode cL_law 2212 = .ok (.iconst 1, 1) := by decide +kernel
theorem dL_law_2213 : decode cL_law 2213 = .ok (.iadd, 1) := by decide +kernel
theorem dL_law_2214 : decode cL_law 2214 = .ok (.iaload, 1) := by decide +kernel
theorem dL_law_2215 : decode cL_law 2215 = .ok (.aload_n 3, 1) := by decide +kernel
theorem dL_law_2216 : decode cL_law 2216 = .ok (.invokestatic 262, 3) := by decide +kernel
theorem dL_law_2219 : decode cL_law 2219 = .ok (.istore 5, 2) := by decide +kernel
theorem dL_law_2221 : decode cL_law 2221 = .ok (.aload_n 2, 1) := by decide +kernel
theorem dL_law_2222 : decode cL_law 2222 = .ok (.aload_n 0, 1) := by decide +kernel
theorem dL_law_2223 : decode cL_law 2223 = .ok (.iload 4, 2) := by decide +kernel
theorem dL_law_2225 : decode cL_law 2225 = .ok (.iconst 1, 1) := by decide +kernel
theorem dL_law_2226 : decode cL_law 2226 = .ok (.iadd, 1) := by decide +kernel
theorem dL_law_2227 : decode cL_law 2227 = .ok (.iaload, 1) := by decide +kernel
theorem dL_law_2228 : decode cL_law 2228 = .ok (.invokevirtual 264, 3) := by decide +kernel
theorem dL_law_2231 : decode cL_law 2231 = .ok (.istore 6, 2) := by decide +kernel
theorem dL_law_2233 : decode cL_law 2233 = .ok (.aload_n 2, 1) := by decide +kernel
theorem dL_law_2234 : decode cL_law 2234 = .ok (.invokevirtual 156, 3) := by decide +kernel
theorem dL_law_2237 : decode cL_law 2237 = .ok (.iload 5, 2) := by decide +kernel
theorem dL_law_2239 : decode cL_law 2239 = .ok (.if_icmp .eq 5, 3) := by decide +kernel
theorem dL_law_2242 : decode cL_law 2242 = .ok (.iconst 0, 1) := by decide +kernel
theorem dL_law_2243 : decode cL_law 2243 = .ok (.ireturn, 1) := by decide +kernel
theorem dL_law_2244 : decode cL_law 2244 = .ok (.iload 5, 2) := by decide +kernel
theorem dL_law_2246 : decode cL_law 2246 = .ok (.ifCond .ne 15, 3) := by decide +kernel
theorem dL_law_2249 : decode cL_law 2249 = .ok (.aload_n 3, 1) := by decide +kernel
theorem dL_law_2250 : decode cL_law 2250 = .ok (.iconst 0, 1) := by decide +kernel
theorem dL_law_2251 : decode cL_law 2251 = .ok (.laload, 1) := by decide +kernel
theorem dL_law_2252 : decode cL_law 2252 = .ok (.iload 6, 2) := by decide +kernel
theorem dL_law_2254 : decode cL_law 2254 = .ok (.i2l, 1) := by decide +kernel
theorem dL_law_2255 : decode cL_law 2255 = .ok (.lcmp, 1) := by decide +kernel
theorem dL_law_2256 : decode cL_law 2256 = .ok (.ifCond .eq 5, 3) := by decide +kernel
theorem dL_law_2259 : decode cL_law 2259 = .ok (.iconst 0, 1) := by decide +kernel
theorem dL_law_2260 : decode cL_law 2260 = .ok (.ireturn, 1) := by decide +kernel
theorem dL_law_2261 : decode cL_law 2261 = .ok (.goto 755, 3) := by decide +kernel
theorem dL_law_2264 : decode cL_law 2264 = .ok (.aload_n 1, 1) := by decide +kernel
theorem dL_law_2265 : decode cL_law 2265 = .ok (.aload_n 0, 1) := by decide +kernel
theorem dL_law_2266 : decode cL_law 2266 = .ok (.iload 4, 2) := by decide +kernel
theorem dL_law_2268 : decode cL_law 2268 = .ok (.iconst 1, 1) := by decide +kernel
theorem dL_law_2269 : decode cL_law 2269 = .ok (.iadd, 1) := by decide +kernel
theorem dL_law_2270 : decode cL_law 2270 = .ok (.iaload, 1) := by decide +kernel
theorem dL_law_2271 : decode cL_law 2271 = .ok (.aload_n 0, 1) := by decide +kernel
theorem dL_law_2272 : decode cL_law 2272 = .ok (.iload 4, 2) := by decide +kernel
theorem dL_law_2274 : decode cL_law 2274 = .ok (.iconst 2, 1) := by decide +kernel
theorem dL_law_2275 : decode cL_law 2275 = .ok (.iadd, 1) := by decide +kernel
theorem dL_law_2276 : decode cL_law 2276 = .ok (.iaload, 1) := by decide +kernel
theorem dL_law_2277 : decode cL_law 2277 = .ok (.aload_n 0, 1) := by decide +kernel
theorem dL_law_2278 : decode cL_law 2278 = .ok (.iload 4, 2) := by decide +kernel
theorem dL_law_2280 : decode cL_law 2280 = .ok (.iconst 3, 1) := by decide +kernel
theorem dL_law_2281 : decode cL_law 2281 = .ok (.iadd, 1) := by decide +kernel
theorem dL_law_2282 : decode cL_law 2282 = .ok (.iaload, 1) := by decide +kernel
theorem dL_law_2283 : decode cL_law 2283 = .ok (.ifCond .eq 7, 3) := by decide +kernel
theorem dL_law_2286 : decode cL_law 2286 = .ok (.iconst 1, 1) := by decide +kernel
theorem dL_law_2287 : decode cL_law 2287 = .ok (.goto 4, 3) := by decide +kernel
theorem dL_law_2290 : decode cL_law 2290 = .ok (.iconst 0, 1) := by decide +kernel
theorem dL_law_2291 : decode cL_law 2291 = .ok (.aload_n 3, 1) := by decide +kernel
theorem dL_law_2292 : decode cL_law 2292 = .ok (.invokestatic 265, 3) := by decide +kernel
theorem dL_law_2295 : decode cL_law 2295 = .ok (.istore 5, 2) := by decide +kernel
theorem dL_law_2297 : decode cL_law 2297 = .ok (.aload_n 2, 1) := by decide +kernel
theorem dL_law_2298 : decode cL_law 2298 = .ok (.aload_n 0, 1) := by decide +kernel
theorem dL_law_2299 : decode cL_law 2299 = .ok (.iload 4, 2) := by decide +kernel
theorem dL_law_2301 : decode cL_law 2301 = .ok (.iconst 1, 1) := by decide +kernel
theorem dL_law_2302 : decode cL_law 2302 = .ok (.iadd, 1) := by decide +kernel
theorem dL_law_2303 : decode cL_law 2303 = .ok (.iaload, 1) := by decide +kernel
theorem dL_law_2304 : decode cL_law 2304 = .ok (.aload_n 0, 1) := by decide +kernel
theorem dL_law_2305 : decode cL_law 2305 = .ok (.iload 4, 2) := by decide +kernel
theorem dL_law_2307 : decode cL_law 2307 = .ok (.iconst 2, 1) := by decide +kernel
theorem dL_law_2308 : decode cL_law 2308 = .ok (.iadd, 1) := by decide +kernel
theorem dL_law_2309 : decode cL_law 2309 = .ok (.iaload, 1) := by decide +kernel
theorem dL_law_2310 : decode cL_law 2310 = .ok (.aload_n 0, 1) := by decide +kernel
theorem dL_law_2311 : decode cL_law 2311 = .ok (.iload 4, 2) := by decide +kernel
theorem dL_law_2313 : decode cL_law 2313 = .ok (.iconst 3, 1) := by decide +kernel
theorem dL_law_2314 : decode cL_law 2314 = .ok (.iadd, 1) := by decide +kernel
theorem dL_law_2315 : decode cL_law 2315 = .ok (.iaload, 1) := by decide +kernel
theorem dL_law_2316 : decode cL_law 2316 = .ok (.ifCond .eq 7, 3) := by decide +kernel
theorem dL_law_2319 : decode cL_law 2319 = .ok (.iconst 1, 1) := by decide +kernel
theorem dL_law_2320 : decode cL_law 2320 = .ok (.goto 4, 3) := by decide +kernel
theorem dL_law_2323 : decode cL_law 2323 = .ok (.iconst 0, 1) := by decide +kernel
theorem dL_law_2324 : decode cL_law 2324 = .ok (.invokevirtual 268, 3) := by decide +kernel
theorem dL_law_2327 : decode cL_law 2327 = .ok (.istore 6, 2) := by decide +kernel
theorem dL_law_2329 : decode cL_law 2329 = .ok (.aload_n 2, 1) := by decide +kernel
theorem dL_law_2330 : decode cL_law 2330 = .ok (.invokevirtual 156, 3) := by decide +kernel
theorem dL_law_2333 : decode cL_law 2333 = .ok (.iload 5, 2) := by decide +kernel
theorem dL_law_2335 : decode cL_law 2335 = .ok (.if_icmp .eq 5, 3) := by decide +kernel
theorem dL_law_2338 : decode cL_law 2338 = .ok (.iconst 0, 1) := by decide +kernel
theorem dL_law_2339 : decode cL_law 2339 = .ok (.ireturn, 1) := by decide +kernel
theorem dL_law_2340 : decode cL_law 2340 = .ok (.iload 5, 2) := by decide +kernel
theorem dL_law_2342 : decode cL_law 2342 = .ok (.ifCond .ne 15, 3) := by decide +kernel
theorem dL_law_2345 : decode cL_law 2345 = .ok (.aload_n 3, 1) := by decide +kernel
theorem dL_law_2346 : decode cL_law 2346 = .ok (.iconst 0, 1) := by decide +kernel
theorem dL_law_2347 : decode cL_law 2347 = .ok (.laload, 1) := by decide +kernel
theorem dL_law_2348 : decode cL_law 2348 = .ok (.iload 6, 2) := by decide +kernel
theorem dL_law_2350 : decode cL_law 2350 = .ok (.i2l, 1) := by decide +kernel
theorem dL_law_2351 : decode cL_law 2351 = .ok (.lcmp, 1) := by decide +kernel
theorem dL_law_2352 : decode cL_law 2352 = .ok (.ifCond .eq 5, 3) := by decide +kernel
theorem dL_law_2355 : decode cL_law 2355 = .ok (.iconst 0, 1) := by decide +kernel
theorem dL_law_2356 : decode cL_law 2356 = .ok (.ireturn, 1) := by decide +kernel
theorem dL_law_2357 : decode cL_law 2357 = .ok (.goto 659, 3) := by decide +kernel
theorem dL_law_2360 : decode cL_law 2360 = .ok (.aload_n 1, 1) := by decide +kernel
theorem dL_law_2361 : decode cL_law 2361 = .ok (.aload_n 0, 1) := by decide +kernel
theorem dL_law_2362 : decode cL_law 2362 = .ok (.iload 4, 2) := by decide +kernel
theorem dL_law_2364 : decode cL_law 2364 = .ok (.iconst 1, 1) := by decide +kernel
theorem dL_law_2365 : decode cL_law 2365 = .ok (.iadd, 1) := by decide +kernel
theorem dL_law_2366 : decode cL_law 2366 = .ok (.iaload, 1) := by decide +kernel
theorem dL_law_2367 : decode cL_law 2367 = .ok (.aload_n 0, 1) := by decide +kernel
theorem dL_law_2368 : decode cL_law 2368 = .ok (.iload 4, 2) := by decide +kernel
theorem dL_law_2370 : decode cL_law 2370 = .ok (.iconst 2, 1) := by decide +kernel
theorem dL_law_2371 : decode cL_law 2371 = .ok (.iadd, 1) := by decide +kernel
theorem dL_law_2372 : decode cL_law 2372 = .ok (.iaload, 1) := by decide +kernel
theorem dL_law_2373 : decode cL_law 2373 = .ok (.aload_n 0, 1) := by decide +kernel
theorem dL_law_2374 : decode cL_law 2374 = .ok (.iload 4, 2) := by decide +kernel
theorem dL_law_2376 : decode cL_law 2376 = .ok (.iconst 3, 1) := by decide +kernel
theorem dL_law_2377 : decode cL_law 2377 = .ok (.iadd, 1) := by decide +kernel
theorem dL_law_2378 : decode cL_law 2378 = .ok (.iaload, 1) := by decide +kernel
theorem dL_law_2379 : decode cL_law 2379 = .ok (.invokestatic 269, 3) := by decide +kernel
theorem dL_law_2382 : decode cL_law 2382 = .ok (.istore 5, 2) := by decide +kernel
theorem dL_law_2384 : decode cL_law 2384 = .ok (.aload_n 2, 1) := by decide +kernel
theorem dL_law_2385 : decode cL_law 2385 = .ok (.aload_n 0, 1) := by decide +kernel
theorem dL_law_2386 : decode cL_law 2386 = .ok (.iload 4, 2) := by decide +kernel
theorem dL_law_2388 : decode cL_law 2388 = .ok (.iconst 1, 1) := by decide +kernel
theorem dL_law_2389 : decode cL_law 2389 = .ok (.iadd, 1) := by decide +kernel
theorem dL_law_2390 : decode cL_law 2390 = .ok (.iaload, 1) := by decide +kernel
theorem dL_law_2391 : decode cL_law 2391 = .ok (.aload_n 0, 1) := by decide +kernel
theorem dL_law_2392 : decode cL_law 2392 = .ok (.iload 4, 2) := by decide +kernel
theorem dL_law_2394 : decode cL_law 2394 = .ok (.iconst 2, 1) := by decide +kernel
theorem dL_law_2395 : decode cL_law 2395 = .ok (.iadd, 1) := by decide +kernel
theorem dL_law_2396 : decode cL_law 2396 = .ok (.iaload, 1) := by decide +kernel
theorem dL_law_2397 : decode cL_law 2397 = .ok (.aload_n 0, 1) := by decide +kernel
theorem dL_law_2398 : decode cL_law 2398 = .ok (.iload 4, 2) := by decide +kernel
theorem dL_law_2400 : decode cL_law 2400 = .ok (.iconst 3, 1) := by decide +kernel
theorem dL_law_2401 : decode cL_law 2401 = .ok (.iadd, 1) := by decide +kernel
theorem dL_law_2402 : decode cL_law 2402 = .ok (.iaload, 1) := by decide +kernel
theorem dL_law_2403 : decode cL_law 2403 = .ok (.invokevirtual 272, 3) := by decide +kernel
theorem dL_law_2406 : decode cL_law 2406 = .ok (.aload_n 2, 1) := by decide +kernel
theorem dL_law_2407 : decode cL_law 2407 = .ok (.invokevirtual 156, 3) := by decide +kernel
theorem dL_law_2410 : decode cL_law 2410 = .ok (.iload 5, 2) := by decide +kernel
theorem dL_law_2412 : decode cL_law 2412 = .ok (.if_icmp .eq 5, 3) := by decide +kernel
theorem dL_law_2415 : decode cL_law 2415 = .ok (.iconst 0, 1) := by decide +kernel
theorem dL_law_2416 : decode cL_law 2416 = .ok (.ireturn, 1) := by decide +kernel
theorem dL_law_2417 : decode cL_law 2417 = .ok (.goto 599, 3) := by decide +kernel
theorem dL_law_2420 : decode cL_law 2420 = .ok (.aload_n 1, 1) := by decide +kernel
theorem dL_law_2421 : decode cL_law 2421 = .ok (.aload_n 0, 1) := by decide +kernel
theorem dL_law_2422 : decode cL_law 2422 = .ok (.iload 4, 2) := by decide +kernel
theorem dL_law_2424 : decode cL_law 2424 = .ok (.iconst 1, 1) := by decide +kernel
theorem dL_law_2425 : decode cL_law 2425 = .ok (.iadd, 1) := by decide +kernel
theorem dL_law_2426 : decode cL_law 2426 = .ok (.iaload, 1) := by decide +kernel
theorem dL_law_2427 : decode cL_law 2427 = .ok (.aload_n 0, 1) := by decide +kernel
theorem dL_law_2428 : decode cL_law 2428 = .ok (.iload 4, 2) := by decide +kernel
theorem dL_law_2430 : decode cL_law 2430 = .ok (.iconst 2, 1) := by decide +kernel
theorem dL_law_2431 : decode cL_law 2431 = .ok (.iadd, 1) := by decide +kernel
theorem dL_law_2432 : decode cL_law 2432 = .ok (.iaload, 1) := by decide +kernel
theorem dL_law_2433 : decode cL_law 2433 = .ok (.aload_n 3, 1) := by decide +kernel
theorem dL_law_2434 : decode cL_law 2434 = .ok (.invokestatic 273, 3) := by decide +kernel
theorem dL_law_2437 : decode cL_law 2437 = .ok (.istore 5, 2) := by decide +kernel
theorem dL_law_2439 : decode cL_law 2439 = .ok (.aload_n 2, 1) := by decide +kernel
theorem dL_law_2440 : decode cL_law 2440 = .ok (.aload_n 0, 1) := by decide +kernel
theorem dL_law_2441 : decode cL_law 2441 = .ok (.iload 4, 2) := by decide +kernel
theorem dL_law_2443 : decode cL_law 2443 = .ok (.iconst 1, 1) := by decide +kernel
theorem dL_law_2444 : decode cL_law 2444 = .ok (.iadd, 1) := by decide +kernel
theorem dL_law_2445 : decode cL_law 2445 = .ok (.iaload, 1) := by decide +kernel
theorem dL_law_2446 : decode cL_law 2446 = .ok (.aload_n 0, 1) := by decide +kernel
theorem dL_law_2447 : decode cL_law 2447 = .ok (.iload 4, 2) := by decide +kernel
theorem dL_law_2449 : decode cL_law 2449 = .ok (.iconst 2, 1) := by decide +kernel
theorem dL_law_2450 : decode cL_law 2450 = .ok (.iadd, 1) := by decide +kernel
theorem dL_law_2451 : decode cL_law 2451 = .ok (.iaload, 1) := by decide +kernel
theorem dL_law_2452 : decode cL_law 2452 = .ok (.invokevirtual 275, 3) := by decide +kernel
theorem dL_law_2455 : decode cL_law 2455 = .ok (.istore 6, 2) := by decide +kernel
theorem dL_law_2457 : decode cL_law 2457 = .ok (.aload_n 2, 1) := by decide +kernel
theorem dL_law_2458 : decode cL_law 2458 = .ok (.invokevirtual 156, 3) := by decide +kernel
theorem dL_law_2461 : decode cL_law 2461 = .ok (.iload 5, 2) := by decide +kernel
theorem dL_law_2463 : decode cL_law 2463 = .ok (.if_icmp .eq 5, 3) := by decide +kernel
theorem dL_law_2466 : decode cL_law 2466 = .ok (.iconst 0, 1) := by decide +kernel
theorem dL_law_2467 : decode cL_law 2467 = .ok (.ireturn, 1) := by decide +kernel
theorem dL_law_2468 : decode cL_law 2468 = .ok (.iload 5, 2) := by decide +kernel
theorem dL_law_2470 : decode cL_law 2470 = .ok (.ifCond .ne 15, 3) := by decide +kernel
theorem dL_law_2473 : decode cL_law 2473 = .ok (.aload_n 3, 1) := by decide +kernel
theorem dL_law_2474 : decode cL_law 2474 = .ok (.iconst 0, 1) := by decide +kernel
theorem dL_law_2475 : decode cL_law 2475 = .ok (.laload, 1) := by decide +kernel
theorem dL_law_2476 : decode cL_law 2476 = .ok (.iload 6, 2) := by decide +kernel
theorem dL_law_2478 : decode cL_law 2478 = .ok (.i2l, 1) := by decide +kernel
theorem dL_law_2479 : decode cL_law 2479 = .ok (.lcmp, 1) := by decide +kernel
theorem dL_law_2480 : decode cL_law 2480 = .ok (.ifCond .eq 5, 3) := by decide +kernel
theorem dL_law_2483 : decode cL_law 2483 = .ok (.iconst 0, 1) := by decide +kernel
theorem dL_law_2484 : decode cL_law 2484 = .ok (.ireturn, 1) := by decide +kernel
theorem dL_law_2485 : decode cL_law 2485 = .ok (.goto 531, 3) := by decide +kernel
theorem dL_law_2488 : decode cL_law 2488 = .ok (.aload_n 1, 1) := by decide +kernel
theorem dL_law_2489 : decode cL_law 2489 = .ok (.invokevirtual 276, 3) := by decide +kernel
theorem dL_law_2492 : decode cL_law 2492 = .ok (.aload_n 2, 1) := by decide +kernel
theorem dL_law_2493 : decode cL_law 2493 = .ok (.invokevirtual 280, 3) := by decide +kernel
theorem dL_law_2496 : decode cL_law 2496 = .ok (.if_icmp .eq 520, 3) := by decide +kernel
theorem dL_law_2499 : decode cL_law 2499 = .ok (.iconst 0, 1) := by decide +kernel
theorem dL_law_2500 : decode cL_law 2500 = .ok (.ireturn, 1) := by decide +kernel
theorem dL_law_2501 : decode cL_law 2501 = .ok (.aload_n 1, 1) := by decide +kernel
theorem dL_law_2502 : decode cL_law 2502 = .ok (.aload_n 0, 1) := by decide +kernel
theorem dL_law_2503 : decode cL_law 2503 = .ok (.iload 4, 2) := by decide +kernel
theorem dL_law_2505 : decode cL_law 2505 = .ok (.iconst 1, 1) := by decide +kernel
theorem dL_law_2506 : decode cL_law 2506 = .ok (.iadd, 1) := by decide +kernel
theorem dL_law_2507 : decode cL_law 2507 = .ok (.iaload, 1) := by decide +kernel
theorem dL_law_2508 : decode cL_law 2508 = .ok (.aload_n 3, 1) := by decide +kernel
theorem dL_law_2509 : decode cL_law 2509 = .ok (.invokestatic 281, 3) := by decide +kernel
theorem dL_law_2512 : decode cL_law 2512 = .ok (.istore 5, 2) := by decide +kernel
theorem dL_law_2514 : decode cL_law 2514 = .ok (.aload_n 2, 1) := by decide +kernel
theorem dL_law_2515 : decode cL_law 2515 = .ok (.aload_n 0, 1) := by decide +kernel
theorem dL_law_2516 : decode cL_law 2516 = .ok (.iload 4, 2) := by decide +kernel
theorem dL_law_2518 : decode cL_law 2518 = .ok (.iconst 1, 1) := by decide +kernel
theorem dL_law_2519 : decode cL_law 2519 = .ok (.iadd, 1) := by decide +kernel
theorem dL_law_2520 : decode cL_law 2520 = .ok (.iaload, 1) := by decide +kernel
theorem dL_law_2521 : decode cL_law 2521 = .ok (.invokevirtual 283, 3) := by decide +kernel
theorem dL_law_2524 : decode cL_law 2524 = .ok (.istore 6, 2) := by decide +kernel
theorem dL_law_2526 : decode cL_law 2526 = .ok (.aload_n 2, 1) := by decide +kernel
theorem dL_law_2527 : decode cL_law 2527 = .ok (.invokevirtual 156, 3) := by decide +kernel
theorem dL_law_2530 : decode cL_law 2530 = .ok (.iload 5, 2) := by decide +kernel
theorem dL_law_2532 : decode cL_law 2532 = .ok (.if_icmp .eq 5, 3) := by decide +kernel
theorem dL_law_2535 : decode cL_law 2535 = .ok (.iconst 0, 1) := by decide +kernel
theorem dL_law_2536 : decode cL_law 2536 = .ok (.ireturn, 1) := by decide +kernel
theorem dL_law_2537 : decode cL_law 2537 = .ok (.iload 5, 2) := by decide +kernel
theorem dL_law_2539 : decode cL_law 2539 = .ok (.ifCond .ne 22, 3) := by decide +kernel
theorem dL_law_2542 : decode cL_law 2542 = .ok (.aload_n 3, 1) := by decide +kernel
theorem dL_law_2543 : decode cL_law 2543 = .ok (.iconst 0, 1) := by decide +kernel
theorem dL_law_2544 : decode cL_law 2544 = .ok (.laload, 1) := by decide +kernel
theorem dL_law_2545 : decode cL_law 2545 = .ok (.iload 6, 2) := by decide +kernel
theorem dL_law_2547 : decode cL_law 2547 = .ok (.ifCond .eq 7, 3) := by decide +kernel
theorem dL_law_2550 : decode cL_law 2550 = .ok (.lconst 1, 1) := by decide +kernel
theorem dL_law_2551 : decode cL_law 2551 = .ok (.goto 4, 3) := by decide +kernel
theorem dL_law_2554 : decode cL_law 2554 = .ok (.lconst 0, 1) := by decide +kernel
theorem dL_law_2555 : decode cL_law 2555 = .ok (.lcmp, 1) := by decide +kernel
theorem dL_law_2556 : decode cL_law 2556 = .ok (.ifCond .eq 5, 3) := by decide +kernel
theorem dL_law_2559 : decode cL_law 2559 = .ok (.iconst 0, 1) := by decide +kernel
theorem dL_law_2560 : decode cL_law 2560 = .ok (.ireturn, 1) := by decide +kernel
theorem dL_law_2561 : decode cL_law 2561 = .ok (.goto 455, 3) := by decide +kernel
theorem dL_law_2564 : decode cL_law 2564 = .ok (.aload_n 1, 1) := by decide +kernel
theorem dL_law_2565 : decode cL_law 2565 = .ok (.aload_n 0, 1) := by decide +kernel
theorem dL_law_2566 : decode cL_law 2566 = .ok (.iload 4, 2) := by decide +kernel
theorem dL_law_2568 : decode cL_law 2568 = .ok (.iconst 1, 1) := by decide +kernel
theorem dL_law_2569 : decode cL_law 2569 = .ok (.iadd, 1) := by decide +kernel
theorem dL_law_2570 : decode cL_law 2570 = .ok (.iaload, 1) := by decide +kernel
theorem dL_law_2571 : decode cL_law 2571 = .ok (.aload_n 3, 1) := by decide +kernel
theorem dL_law_2572 : decode cL_law 2572 = .ok (.invokestatic 284, 3) := by decide +kernel
theorem dL_law_2575 : decode cL_law 2575 = .ok (.istore 5, 2) := by decide +kernel
theorem dL_law_2577 : decode cL_law 2577 = .ok (.aload_n 2, 1) := by decide +kernel
theorem dL_law_2578 : decode cL_law 2578 = .ok (.aload_n 0, 1) := by decide +kernel
theorem dL_law_2579 : decode cL_law 2579 = .ok (.iload 4, 2) := by decide +kernel
theorem dL_law_2581 : decode cL_law 2581 = .ok (.iconst 1, 1) := by decide +kernel
theorem dL_law_2582 : decode cL_law 2582 = .ok (.iadd, 1) := by decide +kernel
theorem dL_law_2583 : decode cL_law 2583 = .ok (.iaload, 1) := by decide +kernel
theorem dL_law_2584 : decode cL_law 2584 = .ok (.invokevirtual 286, 3) := by decide +kernel
theorem dL_law_2587 : decode cL_law 2587 = .ok (.istore 6, 2) := by decide +kernel
theorem dL_law_2589 : decode cL_law 2589 = .ok (.aload_n 2, 1) := by decide +kernel
theorem dL_law_2590 : decode cL_law 2590 = .ok (.invokevirtual 156, 3) := by decide +kernel
theorem dL_law_2593 : decode cL_law 2593 = .ok (.iload 5, 2) := by decide +kernel
theorem dL_law_2595 : decode cL_law 2595 = .ok (.if_icmp .eq 5, 3) := by decide +kernel
theorem dL_law_2598 : decode cL_law 2598 = .ok (.iconst 0, 1) := by decide +kernel
theorem dL_law_2599 : decode cL_law 2599 = .ok (.ireturn, 1) := by decide +kernel
theorem dL_law_2600 : decode cL_law 2600 = .ok (.iload 5, 2) := by decide +kernel
theorem dL_law_2602 : decode cL_law 2602 = .ok (.ifCond .ne 22, 3) := by decide +kernel
theorem dL_law_2605 : decode cL_law 2605 = .ok (.aload_n 3, 1) := by decide +kernel
theorem dL_law_2606 : decode cL_law 2606 = .ok (.iconst 0, 1) := by decide +kernel
theorem dL_law_2607 : decode cL_law 2607 = .ok (.laload, 1) := by decide +kernel
theorem dL_law_2608 : decode cL_law 2608 = .ok (.iload 6, 2) := by decide +kernel
theorem dL_law_2610 : decode cL_law 2610 = .ok (.ifCond .eq 7, 3) := by decide +kernel
theorem dL_law_2613 : decode cL_law 2613 = .ok (.lconst 1, 1) := by decide +kernel
theorem dL_law_2614 : decode cL_law 2614 = .ok (.goto 4, 3) := by decide +kernel
theorem dL_law_2617 : decode cL_law 2617 = .ok (.lconst 0, 1) := by decide +kernel
theorem dL_law_2618 : decode cL_law 2618 = .ok (.lcmp, 1) := by decide +kernel
theorem dL_law_2619 : decode cL_law 2619 = .ok (.ifCond .eq 5, 3) := by decide +kernel
theorem dL_law_2622 : decode cL_law 2622 = .ok (.iconst 0, 1) := by decide +kernel
theorem dL_law_2623 : decode cL_law 2623 = .ok (.ireturn, 1) := by decide +kernel
theorem dL_law_2624 : decode cL_law 2624 = .ok (.goto 392, 3) := by decide +kernel
theorem dL_law_2627 : decode cL_law 2627 = .ok (.aload_n 1, 1) := by decide +kernel
theorem dL_law_2628 : decode cL_law 2628 = .ok (.aload_n 0, 1) := by decide +kernel
theorem dL_law_2629 : decode cL_law 2629 = .ok (.iload 4, 2) := by decide +kernel
theorem dL_law_2631 : decode cL_law 2631 = .ok (.iconst 1, 1) := by decide +kernel
theorem dL_law_2632 : decode cL_law 2632 = .ok (.iadd, 1) := by decide +kernel
theorem dL_law_2633 : decode cL_law 2633 = .ok (.iaload, 1) := by decide +kernel
theorem dL_law_2634 : decode cL_law 2634 = .ok (.aload_n 3, 1) := by decide +kernel
theorem dL_law_2635 : decode cL_law 2635 = .ok (.invokestatic 287, 3) := by decide +kernel
theorem dL_law_2638 : decode cL_law 2638 = .ok (.istore 5, 2) := by decide +kernel
theorem dL_law_2640 : decode cL_law 2640 = .ok (.aload_n 2, 1) := by decide +kernel
theorem dL_law_2641 : decode cL_law 2641 = .ok (.aload_n 0, 1) := by decide +kernel
theorem dL_law_2642 : decode cL_law 2642 = .ok (.iload 4, 2) := by decide +kernel
theorem dL_law_2644 : decode cL_law 2644 = .ok (.iconst 1, 1) := by decide +kernel
theorem dL_law_2645 : decode cL_law 2645 = .ok (.iadd, 1) := by decide +kernel
theorem dL_law_2646 : decode cL_law 2646 = .ok (.iaload, 1) := by decide +kernel
theorem dL_law_2647 : decode cL_law 2647 = .ok (.invokevirtual 289, 3) := by decide +kernel
theorem dL_law_2650 : decode cL_law 2650 = .ok (.lstore 6, 2) := by decide +kernel
theorem dL_law_2652 : decode cL_law 2652 = .ok (.aload_n 2, 1) := by decide +kernel
theorem dL_law_2653 : decode cL_law 2653 = .ok (.invokevirtual 156, 3) := by decide +kernel
theorem dL_law_2656 : decode cL_law 2656 = .ok (.iload 5, 2) := by decide +kernel
theorem dL_law_2658 : decode cL_law 2658 = .ok (.if_icmp .eq 5, 3) := by decide +kernel
theorem dL_law_2661 : decode cL_law 2661 = .ok (.iconst 0, 1) := by decide +kernel
theorem dL_law_2662 : decode cL_law 2662 = .ok (.ireturn, 1) := by decide +kernel
theorem dL_law_2663 : decode cL_law 2663 = .ok (.iload 5, 2) := by decide +kernel
theorem dL_law_2665 : decode cL_law 2665 = .ok (.ifCond .ne 14, 3) := by decide +kernel
theorem dL_law_2668 : decode cL_law 2668 = .ok (.aload_n 3, 1) := by decide +kernel
theorem dL_law_2669 : decode cL_law 2669 = .ok (.iconst 0, 1) := by decide +kernel
theorem dL_law_2670 : decode cL_law 2670 = .ok (.laload, 1) := by decide +kernel
theorem dL_law_2671 : decode cL_law 2671 = .ok (.lload 6, 2) := by decide +kernel
theorem dL_law_2673 : decode cL_law 2673 = .ok (.lcmp, 1) := by decide +kernel
theorem dL_law_2674 : decode cL_law 2674 = .ok (.ifCond .eq 5, 3) := by decide +kernel
theorem dL_law_2677 : decode cL_law 2677 = .ok (.iconst 0, 1) := by decide +kernel
theorem dL_law_2678 : decode cL_law 2678 = .ok (.ireturn, 1) := by decide +kernel
theorem dL_law_2679 : decode cL_law 2679 = .ok (.goto 337, 3) := by decide +kernel
theorem dL_law_2682 : decode cL_law 2682 = .ok (.aload_n 1, 1) := by decide +kernel
theorem dL_law_2683 : decode cL_law 2683 = .ok (.invokevirtual 290, 3) := by decide +kernel
theorem dL_law_2686 : decode cL_law 2686 = .ok (.aload_n 2, 1) := by decide +kernel
theorem dL_law_2687 : decode cL_law 2687 = .ok (.invokevirtual 293, 3) := by decide +kernel
theorem dL_law_2690 : decode cL_law 2690 = .ok (.if_icmp .eq 326, 3) := by decide +kernel
theorem dL_law_2693 : decode cL_law 2693 = .ok (.iconst 0, 1) := by decide +kernel
theorem dL_law_2694 : decode cL_law 2694 = .ok (.ireturn, 1) := by decide +kernel
theorem dL_law_2695 : decode cL_law 2695 = .ok (.aload_n 1, 1) := by decide +kernel
theorem dL_law_2696 : decode cL_law 2696 = .ok (.aload_n 0, 1) := by decide +kernel
theorem dL_law_2697 : decode cL_law 2697 = .ok (.iload 4, 2) := by decide +kernel
theorem dL_law_2699 : decode cL_law 2699 = .ok (.iconst 1, 1) := by decide +kernel
theorem dL_law_2700 : decode cL_law 2700 = .ok (.iadd, 1) := by decide +kernel
theorem dL_law_2701 : decode cL_law 2701 = .ok (.iaload, 1) := by decide +kernel
theorem dL_law_2702 : decode cL_law 2702 = .ok (.aload_n 0, 1) := by decide +kernel
theorem dL_law_2703 : decode cL_law 2703 = .ok (.iload 4, 2) := by decide +kernel
theorem dL_law_2705 : decode cL_law 2705 = .ok (.iconst 2, 1) := by decide +kernel
theorem dL_law_2706 : decode cL_law 2706 = .ok (.iadd, 1) := by decide +kernel
theorem dL_law_2707 : decode cL_law 2707 = .ok (.iaload, 1) := by decide +kernel
theorem dL_law_2708 : decode cL_law 2708 = .ok (.aload_n 0, 1) := by decide +kernel
theorem dL_law_2709 : decode cL_law 2709 = .ok (.iload 4, 2) := by decide +kernel
theorem dL_law_2711 : decode cL_law 2711 = .ok (.iconst 3, 1) := by decide +kernel
theorem dL_law_2712 : decode cL_law 2712 = .ok (.iadd, 1) := by decide +kernel
theorem dL_law_2713 : decode cL_law 2713 = .ok (.iaload, 1) := by decide +kernel
theorem dL_law_2714 : decode cL_law 2714 = .ok (.aload_n 0, 1) := by decide +kernel
theorem dL_law_2715 : decode cL_law 2715 = .ok (.iload 4, 2) := by decide +kernel
theorem dL_law_2717 : decode cL_law 2717 = .ok (.iconst 4, 1) := by decide +kernel
theorem dL_law_2718 : decode cL_law 2718 = .ok (.iadd, 1) := by decide +kernel
theorem dL_law_2719 : decode cL_law 2719 = .ok (.iaload, 1) := by decide +kernel
theorem dL_law_2720 : decode cL_law 2720 = .ok (.aload_n 3, 1) := by decide +kernel
theorem dL_law_2721 : decode cL_law 2721 = .ok (.invokestatic 294, 3) := by decide +kernel
theorem dL_law_2724 : decode cL_law 2724 = .ok (.istore 5, 2) := by decide +kernel
theorem dL_law_2726 : decode cL_law 2726 = .ok (.aload_n 2, 1) := by decide +kernel
theorem dL_law_2727 : decode cL_law 2727 = .ok (.aload_n 0, 1) := by decide +kernel
theorem dL_law_2728 : decode cL_law 2728 = .ok (.iload 4, 2) := by decide +kernel
theorem dL_law_2730 : decode cL_law 2730 = .ok (.iconst 1, 1) := by decide +kernel
theorem dL_law_2731 : decode cL_law 2731 = .ok (.iadd, 1) := by decide +kernel
theorem dL_law_2732 : decode cL_law 2732 = .ok (.iaload, 1) := by decide +kernel
theorem dL_law_2733 : decode cL_law 2733 = .ok (.aload_n 0, 1) := by decide +kernel
theorem dL_law_2734 : decode cL_law 2734 = .ok (.iload 4, 2) := by decide +kernel
theorem dL_law_2736 : decode cL_law 2736 = .ok (.iconst 2, 1) := by decide +kernel
theorem dL_law_2737 : decode cL_law 2737 = .ok (.iadd, 1) := by decide +kernel
theorem dL_law_2738 : decode cL_law 2738 = .ok (.iaload, 1) := by decide +kernel
theorem dL_law_2739 : decode cL_law 2739 = .ok (.aload_n 0, 1) := by decide +kernel
theorem dL_law_2740 : decode cL_law 2740 = .ok (.iload 4, 2) := by decide +kernel
theorem dL_law_2742 : decode cL_law 2742 = .ok (.iconst 3, 1) := by decide +kernel
theorem dL_law_2743 : decode cL_law 2743 = .ok (.iadd, 1) := by decide +kernel
theorem dL_law_2744 : decode cL_law 2744 = .ok (.iaload, 1) := by decide +kernel
theorem dL_law_2745 : decode cL_law 2745 = .ok (.aload_n 0, 1) := by decide +kernel
theorem dL_law_2746 : decode cL_law 2746 = .ok (.iload 4, 2) := by decide +kernel
theorem dL_law_2748 : decode cL_law 2748 = .ok (.iconst 4, 1) := by decide +kernel
theorem dL_law_2749 : decode cL_law 2749 = .ok (.iadd, 1) := by decide +kernel
theorem dL_law_2750 : decode cL_law 2750 = .ok (.iaload, 1) := by decide +kernel
theorem dL_law_2751 : decode cL_law 2751 = .ok (.invokevirtual 297, 3) := by decide +kernel
theorem dL_law_2754 : decode cL_law 2754 = .ok (.istore 6, 2) := by decide +kernel
theorem dL_law_2756 : decode cL_law 2756 = .ok (.aload_n 2, 1) := by decide +kernel
theorem dL_law_2757 : decode cL_law 2757 = .ok (.invokevirtual 156, 3) := by decide +kernel
theorem dL_law_2760 : decode cL_law 2760 = .ok (.iload 5, 2) := by decide +kernel
theorem dL_law_2762 : decode cL_law 2762 = .ok (.if_icmp .eq 5, 3) := by decide +kernel
theorem dL_law_2765 : decode cL_law 2765 = .ok (.iconst 0, 1) := by decide +kernel
theorem dL_law_2766 : decode cL_law 2766 = .ok (.ireturn, 1) := by decide +kernel
theorem dL_law_2767 : decode cL_law 2767 = .ok (.iload 5, 2) := by decide +kernel
theorem dL_law_2769 : decode cL_law 2769 = .ok (.ifCond .ne 15, 3) := by decide +kernel
theorem dL_law_2772 : decode cL_law 2772 = .ok (.aload_n 3, 1) := by decide +kernel
theorem dL_law_2773 : decode cL_law 2773 = .ok (.iconst 0, 1) := by decide +kernel
theorem dL_law_2774 : decode cL_law 2774 = .ok (.laload, 1) := by decide +kernel
theorem dL_law_2775 : decode cL_law 2775 = .ok (.iload 6, 2) := by decide +kernel
theorem dL_law_2777 : decode cL_law 2777 = .ok (.i2l, 1) := by decide +kernel
theorem dL_law_2778 : decode cL_law 2778 = .ok (.lcmp, 1) := by decide +kernel
theorem dL_law_2779 : decode cL_law 2779 = .ok (.ifCond .eq 5, 3) := by decide +kernel
theorem dL_law_2782 : decode cL_law 2782 = .ok (.iconst 0, 1) := by decide +kernel
theorem dL_law_2783 : decode cL_law 2783 = .ok (.ireturn, 1) := by decide +kernel
theorem dL_law_2784 : decode cL_law 2784 = .ok (.goto 232, 3) := by decide +kernel
theorem dL_law_2787 : decode cL_law 2787 = .ok (.aload_n 1, 1) := by decide +kernel
theorem dL_law_2788 : decode cL_law 2788 = .ok (.aload_n 0, 1) := by decide +kernel
theorem dL_law_2789 : decode cL_law 2789 = .ok (.iload 4, 2) := by decide +kernel
theorem dL_law_2791 : decode cL_law 2791 = .ok (.iconst 1, 1) := by decide +kernel
theorem dL_law_2792 : decode cL_law 2792 = .ok (.iadd, 1) := by decide +kernel
theorem dL_law_2793 : decode cL_law 2793 = .ok (.iaload, 1) := by decide +kernel
theorem dL_law_2794 : decode cL_law 2794 = .ok (.aload_n 0, 1) := by decide +kernel
theorem dL_law_2795 : decode cL_law 2795 = .ok (.iload 4, 2) := by decide +kernel
theorem dL_law_2797 : decode cL_law 2797 = .ok (.iconst 2, 1) := by decide +kernel
theorem dL_law_2798 : decode cL_law 2798 = .ok (.iadd, 1) := by decide +kernel
theorem dL_law_2799 : decode cL_law 2799 = .ok (.iaload, 1) := by decide +kernel
theorem dL_law_2800 : decode cL_law 2800 = .ok (.aload_n 0, 1) := by decide +kernel
theorem dL_law_2801 : decode cL_law 2801 = .ok (.iload 4, 2) := by decide +kernel
theorem dL_law_2803 : decode cL_law 2803 = .ok (.iconst 3, 1) := by decide +kernel
theorem dL_law_2804 : decode cL_law 2804 = .ok (.iadd, 1) := by decide +kernel
theorem dL_law_2805 : decode cL_law 2805 = .ok (.iaload, 1) := by decide +kernel
theorem dL_law_2806 : decode cL_law 2806 = .ok (.aload_n 3, 1) := by decide +kernel
theorem dL_law_2807 : decode cL_law 2807 = .ok (.invokestatic 298, 3) := by decide +kernel
theorem dL_law_2810 : decode cL_law 2810 = .ok (.istore 5, 2) := by decide +kernel
theorem dL_law_2812 : decode cL_law 2812 = .ok (.aload_n 2, 1) := by decide +kernel
theorem dL_law_2813 : decode cL_law 2813 = .ok (.aload_n 0, 1) := by decide +kernel
theorem dL_law_2814 : decode cL_law 2814 = .ok (.iload 4, 2) := by decide +kernel
theorem dL_law_2816 : decode cL_law 2816 = .ok (.iconst 1, 1) := by decide +kernel
theorem dL_law_2817 : decode cL_law 2817 = .ok (.iadd, 1) := by decide +kernel
theorem dL_law_2818 : decode cL_law 2818 = .ok (.iaload, 1) := by decide +kernel
theorem dL_law_2819 : decode cL_law 2819 = .ok (.aload_n 0, 1) := by decide +kernel
theorem dL_law_2820 : decode cL_law 2820 = .ok (.iload 4, 2) := by decide +kernel
theorem dL_law_2822 : decode cL_law 2822 = .ok (.iconst 2, 1) := by decide +kernel
theorem dL_law_2823 : decode cL_law 2823 = .ok (.iadd, 1) := by decide +kernel
theorem dL_law_2824 : decode cL_law 2824 = .ok (.iaload, 1) := by decide +kernel
theorem dL_law_2825 : decode cL_law 2825 = .ok (.aload_n 0, 1) := by decide +kernel
theorem dL_law_2826 : decode cL_law 2826 = .ok (.iload 4, 2) := by decide +kernel
theorem dL_law_2828 : decode cL_law 2828 = .ok (.iconst 3, 1) := by decide +kernel
theorem dL_law_2829 : decode cL_law 2829 = .ok (.iadd, 1) := by decide +kernel
theorem dL_law_2830 : decode cL_law 2830 = .ok (.iaload, 1) := by decide +kernel
theorem dL_law_2831 : decode cL_law 2831 = .ok (.invokevirtual 300, 3) := by decide +kernel
theorem dL_law_2834 : decode cL_law 2834 = .ok (.istore 6, 2) := by decide +kernel
theorem dL_law_2836 : decode cL_law 2836 = .ok (.aload_n 2, 1) := by decide +kernel
theorem dL_law_2837 : decode cL_law 2837 = .ok (.invokevirtual 156, 3) := by decide +kernel
theorem dL_law_2840 : decode cL_law 2840 = .ok (.iload 5, 2) := by decide +kernel
theorem dL_law_2842 : decode cL_law 2842 = .ok (.if_icmp .eq 5, 3) := by decide +kernel
theorem dL_law_2845 : decode cL_law 2845 = .ok (.iconst 0, 1) := by decide +kernel
theorem dL_law_2846 : decode cL_law 2846 = .ok (.ireturn, 1) := by decide +kernel
theorem dL_law_2847 : decode cL_law 2847 = .ok (.iload 5, 2) := by decide +kernel
theorem dL_law_2849 : decode cL_law 2849 = .ok (.ifCond .ne 15, 3) := by decide +kernel
theorem dL_law_2852 : decode cL_law 2852 = .ok (.aload_n 3, 1) := by decide +kernel
theorem dL_law_2853 : decode cL_law 2853 = .ok (.iconst 0, 1) := by decide +kernel
theorem dL_law_2854 : decode cL_law 2854 = .ok (.laload, 1) := by decide +kernel
theorem dL_law_2855 : decode cL_law 2855 = .ok (.iload 6, 2) := by decide +kernel
theorem dL_law_2857 : decode cL_law 2857 = .ok (.i2l, 1) := by decide +kernel
theorem dL_law_2858 : decode cL_law 2858 = .ok (.lcmp, 1) := by decide +kernel
theorem dL_law_2859 : decode cL_law 2859 = .ok (.ifCond .eq 5, 3) := by decide +kernel
theorem dL_law_2862 : decode cL_law 2862 = .ok (.iconst 0, 1) := by decide +kernel
theorem dL_law_2863 : decode cL_law 2863 = .ok (.ireturn, 1) := by decide +kernel
theorem dL_law_2864 : decode cL_law 2864 = .ok (.goto 152, 3) := by decide +kernel
theorem dL_law_2867 : decode cL_law 2867 = .ok (.aload_n 1, 1) := by decide +kernel
theorem dL_law_2868 : decode cL_law 2868 = .ok (.aload_n 0, 1) := by decide +kernel
theorem dL_law_2869 : decode cL_law 2869 = .ok (.iload 4, 2) := by decide +kernel
theorem dL_law_2871 : decode cL_law 2871 = .ok (.iconst 1, 1) := by decide +kernel
theorem dL_law_2872 : decode cL_law 2872 = .ok (.iadd, 1) := by decide +kernel
theorem dL_law_2873 : decode cL_law 2873 = .ok (.iaload, 1) := by decide +kernel
theorem dL_law_2874 : decode cL_law 2874 = .ok (.aload_n 0, 1) := by decide +kernel
theorem dL_law_2875 : decode cL_law 2875 = .ok (.iload 4, 2) := by decide +kernel
theorem dL_law_2877 : decode cL_law 2877 = .ok (.iconst 2, 1) := by decide +kernel
theorem dL_law_2878 : decode cL_law 2878 = .ok (.iadd, 1) := by decide +kernel
theorem dL_law_2879 : decode cL_law 2879 = .ok (.iaload, 1) := by decide +kernel
theorem dL_law_2880 : decode cL_law 2880 = .ok (.aload_n 3, 1) := by decide +kernel
theorem dL_law_2881 : decode cL_law 2881 = .ok (.invokestatic 301, 3) := by decide +kernel
theorem dL_law_2884 : decode cL_law 2884 = .ok (.istore 5, 2) := by decide +kernel
theorem dL_law_2886 : decode cL_law 2886 = .ok (.aload_n 2, 1) := by decide +kernel
theorem dL_law_2887 : decode cL_law 2887 = .ok (.aload_n 0, 1) := by decide +kernel
theorem dL_law_2888 : decode cL_law 2888 = .ok (.iload 4, 2) := by decide +kernel
theorem dL_law_2890 : decode cL_law 2890 = .ok (.iconst 1, 1) := by decide +kernel
theorem dL_law_2891 : decode cL_law 2891 = .ok (.iadd, 1) := by decide +kernel
theorem dL_law_2892 : decode cL_law 2892 = .ok (.iaload, 1) := by decide +kernel
theorem dL_law_2893 : decode cL_law 2893 = .ok (.aload_n 0, 1) := by decide +kernel
theorem dL_law_2894 : decode cL_law 2894 = .ok (.iload 4, 2) := by decide +kernel
theorem dL_law_2896 : decode cL_law 2896 = .ok (.iconst 2, 1) := by decide +kernel
theorem dL_law_2897 : decode cL_law 2897 = .ok (.iadd, 1) := by decide +kernel
theorem dL_law_2898 : decode cL_law 2898 = .ok (.iaload, 1) := by decide +kernel
theorem dL_law_2899 : decode cL_law 2899 = .ok (.invokevirtual 303, 3) := by decide +kernel
theorem dL_law_2902 : decode cL_law 2902 = .ok (.istore 6, 2) := by decide +kernel
theorem dL_law_2904 : decode cL_law 2904 = .ok (.aload_n 2, 1) := by decide +kernel
theorem dL_law_2905 : decode cL_law 2905 = .ok (.invokevirtual 156, 3) := by decide +kernel
theorem dL_law_2908 : decode cL_law 2908 = .ok (.iload 5, 2) := by decide +kernel
theorem dL_law_2910 : decode cL_law 2910 = .ok (.if_icmp .eq 5, 3) := by decide +kernel
theorem dL_law_2913 : decode cL_law 2913 = .ok (.iconst 0, 1) := by decide +kernel
theorem dL_law_2914 : decode cL_law 2914 = .ok (.ireturn, 1) := by decide +kernel
theorem dL_law_2915 : decode cL_law 2915 = .ok (.iload 5, 2) := by decide +kernel
theorem dL_law_2917 : decode cL_law 2917 = .ok (.ifCond .ne 15, 3) := by decide +kernel
theorem dL_law_2920 : decode cL_law 2920 = .ok (.aload_n 3, 1) := by decide +kernel
theorem dL_law_2921 : decode cL_law 2921 = .ok (.iconst 0, 1) := by decide +kernel
theorem dL_law_2922 : decode cL_law 2922 = .ok (.laload, 1) := by decide +kernel
theorem dL_law_2923 : decode cL_law 2923 = .ok (.iload 6, 2) := by decide +kernel
theorem dL_law_2925 : decode cL_law 2925 = .ok (.i2l, 1) := by decide +kernel
theorem dL_law_2926 : decode cL_law 2926 = .ok (.lcmp, 1) := by decide +kernel
theorem dL_law_2927 : decode cL_law 2927 = .ok (.ifCond .eq 5, 3) := by decide +kernel
theorem dL_law_2930 : decode cL_law 2930 = .ok (.iconst 0, 1) := by decide +kernel
theorem dL_law_2931 : decode cL_law 2931 = .ok (.ireturn, 1) := by decide +kernel
theorem dL_law_2932 : decode cL_law 2932 = .ok (.goto 84, 3) := by decide +kernel
theorem dL_law_2935 : decode cL_law 2935 = .ok (.aload_n 1, 1) := by decide +kernel
theorem dL_law_2936 : decode cL_law 2936 = .ok (.aload_n 0, 1) := by decide +kernel
theorem dL_law_2937 : decode cL_law 2937 = .ok (.iload 4, 2) := by decide +kernel
theorem dL_law_2939 : decode cL_law 2939 = .ok (.iconst 1, 1) := by decide +kernel
theorem dL_law_2940 : decode cL_law 2940 = .ok (.iadd, 1) := by decide +kernel
theorem dL_law_2941 : decode cL_law 2941 = .ok (.iaload, 1) := by decide +kernel
theorem dL_law_2942 : decode cL_law 2942 = .ok (.aload_n 3, 1) := by decide +kernel
theorem dL_law_2943 : decode cL_law 2943 = .ok (.invokestatic 304, 3) := by decide +kernel
theorem dL_law_2946 : decode cL_law 2946 = .ok (.istore 5, 2) := by decide +kernel
theorem dL_law_2948 : decode cL_law 2948 = .ok (.aload_n 2, 1) := by decide +kernel
theorem dL_law_2949 : decode cL_law 2949 = .ok (.aload_n 0, 1) := by decide +kernel
theorem dL_law_2950 : decode cL_law 2950 = .ok (.iload 4, 2) := by decide +kernel
theorem dL_law_2952 : decode cL_law 2952 = .ok (.iconst 1, 1) := by decide +kernel
theorem dL_law_2953 : decode cL_law 2953 = .ok (.iadd, 1) := by decide +kernel
theorem dL_law_2954 : decode cL_law 2954 = .ok (.iaload, 1) := by decide +kernel
theorem dL_law_2955 : decode cL_law 2955 = .ok (.invokevirtual 306, 3) := by decide +kernel
theorem dL_law_2958 : decode cL_law 2958 = .ok (.istore 6, 2) := by decide +kernel
theorem dL_law_2960 : decode cL_law 2960 = .ok (.aload_n 2, 1) := by decide +kernel
theorem dL_law_2961 : decode cL_law 2961 = .ok (.invokevirtual 156, 3) := by decide +kernel
theorem dL_law_2964 : decode cL_law 2964 = .ok (.iload 5, 2) := by decide +kernel
theorem dL_law_2966 : decode cL_law 2966 = .ok (.if_icmp .eq 5, 3) := by decide +kernel
theorem dL_law_2969 : decode cL_law 2969 = .ok (.iconst 0, 1) := by decide +kernel
theorem dL_law_2970 : decode cL_law 2970 = .ok (.ireturn, 1) := by decide +kernel
theorem dL_law_2971 : decode cL_law 2971 = .ok (.iload 5, 2) := by decide +kernel
theorem dL_law_2973 : decode cL_law 2973 = .ok (.ifCond .ne 15, 3) := by decide +kernel
theorem dL_law_2976 : decode cL_law 2976 = .ok (.aload_n 3, 1) := by decide +kernel
theorem dL_law_2977 : decode cL_law 2977 = .ok (.iconst 0, 1) := by decide +kernel
theorem dL_law_2978 : decode cL_law 2978 = .ok (.laload, 1) := by decide +kernel
theorem dL_law_2979 : decode cL_law 2979 = .ok (.iload 6, 2) := by decide +kernel
theorem dL_law_2981 : decode cL_law 2981 = .ok (.i2l, 1) := by decide +kernel
theorem dL_law_2982 : decode cL_law 2982 = .ok (.lcmp, 1) := by decide +kernel
theorem dL_law_2983 : decode cL_law 2983 = .ok (.ifCond .eq 5, 3) := by decide +kernel
theorem dL_law_2986 : decode cL_law 2986 = .ok (.iconst 0, 1) := by decide +kernel
theorem dL_law_2987 : decode cL_law 2987 = .ok (.ireturn, 1) := by decide +kernel
theorem dL_law_2988 : decode cL_law 2988 = .ok (.goto 28, 3) := by decide +kernel
theorem dL_law_2991 : decode cL_law 2991 = .ok (.aload_n 1, 1) := by decide +kernel
theorem dL_law_2992 : decode cL_law 2992 = .ok (.aload_n 0, 1) := by decide +kernel
theorem dL_law_2993 : decode cL_law 2993 = .ok (.iload 4, 2) := by decide +kernel
theorem dL_law_2995 : decode cL_law 2995 = .ok (.iconst 1, 1) := by decide +kernel
theorem dL_law_2996 : decode cL_law 2996 = .ok (.iadd, 1) := by decide +kernel
theorem dL_law_2997 : decode cL_law 2997 = .ok (.iaload, 1) := by decide +kernel
theorem dL_law_2998 : decode cL_law 2998 = .ok (.invokevirtual 307, 3) := by decide +kernel
theorem dL_law_3001 : decode cL_law 3001 = .ok (.aload_n 2, 1) := by decide +kernel
theorem dL_law_3002 : decode cL_law 3002 = .ok (.aload_n 0, 1) := by decide +kernel
theorem dL_law_3003 : decode cL_law 3003 = .ok (.iload 4, 2) := by decide +kernel
theorem dL_law_3005 : decode cL_law 3005 = .ok (.iconst 1, 1) := by decide +kernel
theorem dL_law_3006 : decode cL_law 3006 = .ok (.iadd, 1) := by decide +kernel
theorem dL_law_3007 : decode cL_law 3007 = .ok (.iaload, 1) := by decide +kernel
theorem dL_law_3008 : decode cL_law 3008 = .ok (.invokevirtual 310, 3) := by decide +kernel
theorem dL_law_3011 : decode cL_law 3011 = .ok (.if_icmp .eq 5, 3) := by decide +kernel
theorem dL_law_3014 : decode cL_law 3014 = .ok (.iconst 0, 1) := by decide +kernel
theorem dL_law_3015 : decode cL_law 3015 = .ok (.ireturn, 1) := by decide +kernel
theorem dL_law_3016 : decode cL_law 3016 = .ok (.iinc 4 6, 3) := by decide +kernel
theorem dL_law_3019 : decode cL_law 3019 = .ok (.goto (-2996), 3) := by decide +kernel
theorem dL_law_3022 : decode cL_law 3022 = .ok (.iconst 1, 1) := by decide +kernel
theorem dL_law_3023 : decode cL_law 3023 = .ok (.ireturn, 1) := by decide +kernel
