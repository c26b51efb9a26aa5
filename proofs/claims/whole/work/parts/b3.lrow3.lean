theorem dLw_1112 : decode code 1112 = .ok (.if_icmp .eq 586, 3) := by decide +kernel
theorem dLw_1115 : decode code 1115 = .ok (.iconst 0, 1) := by decide +kernel
theorem dLw_1116 : decode code 1116 = .ok (.ireturn, 1) := by decide +kernel
theorem dLw_1117 : decode code 1117 = .ok (.aload_n 1, 1) := by decide +kernel
theorem dLw_1118 : decode code 1118 = .ok (.aload_n 0, 1) := by decide +kernel
theorem dLw_1119 : decode code 1119 = .ok (.iload_n 3, 1) := by decide +kernel
theorem dLw_1120 : decode code 1120 = .ok (.iconst 1, 1) := by decide +kernel
theorem dLw_1121 : decode code 1121 = .ok (.iadd, 1) := by decide +kernel
theorem dLw_1122 : decode code 1122 = .ok (.iaload, 1) := by decide +kernel
theorem dLw_1123 : decode code 1123 = .ok (.aload_n 0, 1) := by decide +kernel
theorem dLw_1124 : decode code 1124 = .ok (.iload_n 3, 1) := by decide +kernel
theorem dLw_1125 : decode code 1125 = .ok (.iconst 2, 1) := by decide +kernel
theorem dLw_1126 : decode code 1126 = .ok (.iadd, 1) := by decide +kernel
theorem dLw_1127 : decode code 1127 = .ok (.iaload, 1) := by decide +kernel
theorem dLw_1128 : decode code 1128 = .ok (.aload_n 0, 1) := by decide +kernel
theorem dLw_1129 : decode code 1129 = .ok (.iload_n 3, 1) := by decide +kernel
theorem dLw_1130 : decode code 1130 = .ok (.iconst 3, 1) := by decide +kernel
theorem dLw_1131 : decode code 1131 = .ok (.iadd, 1) := by decide +kernel
theorem dLw_1132 : decode code 1132 = .ok (.iaload, 1) := by decide +kernel
theorem dLw_1133 : decode code 1133 = .ok (.invokevirtual 123, 3) := by decide +kernel
theorem dLw_1136 : decode code 1136 = .ok (.aload_n 2, 1) := by decide +kernel
theorem dLw_1137 : decode code 1137 = .ok (.aload_n 0, 1) := by decide +kernel
theorem dLw_1138 : decode code 1138 = .ok (.iload_n 3, 1) := by decide +kernel
theorem dLw_1139 : decode code 1139 = .ok (.iconst 1, 1) := by decide +kernel
theorem dLw_1140 : decode code 1140 = .ok (.iadd, 1) := by decide +kernel
theorem dLw_1141 : decode code 1141 = .ok (.iaload, 1) := by decide +kernel
theorem dLw_1142 : decode code 1142 = .ok (.aload_n 0, 1) := by decide +kernel
theorem dLw_1143 : decode code 1143 = .ok (.iload_n 3, 1) := by decide +kernel
theorem dLw_1144 : decode code 1144 = .ok (.iconst 2, 1) := by decide +kernel
theorem dLw_1145 : decode code 1145 = .ok (.iadd, 1) := by decide +kernel
theorem dLw_1146 : decode code 1146 = .ok (.iaload, 1) := by decide +kernel
theorem dLw_1147 : decode code 1147 = .ok (.aload_n 0, 1) := by decide +kernel
theorem dLw_1148 : decode code 1148 = .ok (.iload_n 3, 1) := by decide +kernel
theorem dLw_1149 : decode code 1149 = .ok (.iconst 3, 1) := by decide +kernel
theorem dLw_1150 : decode code 1150 = .ok (.iadd, 1) := by decide +kernel
theorem dLw_1151 : decode code 1151 = .ok (.iaload, 1) := by decide +kernel
theorem dLw_1152 : decode code 1152 = .ok (.invokevirtual 126, 3) := by decide +kernel
theorem dLw_1155 : decode code 1155 = .ok (.if_icmp .eq 543, 3) := by decide +kernel
theorem dLw_1158 : decode code 1158 = .ok (.iconst 0, 1) := by decide +kernel
theorem dLw_1159 : decode code 1159 = .ok (.ireturn, 1) := by decide +kernel
theorem dLw_1160 : decode code 1160 = .ok (.aload_n 1, 1) := by decide +kernel
theorem dLw_1161 : decode code 1161 = .ok (.aload_n 0, 1) := by decide +kernel
theorem dLw_1162 : decode code 1162 = .ok (.iload_n 3, 1) := by decide +kernel
theorem dLw_1163 : decode code 1163 = .ok (.iconst 1, 1) := by decide +kernel
theorem dLw_1164 : decode code 1164 = .ok (.iadd, 1) := by decide +kernel
theorem dLw_1165 : decode code 1165 = .ok (.iaload, 1) := by decide +kernel
theorem dLw_1166 : decode code 1166 = .ok (.aload_n 0, 1) := by decide +kernel
theorem dLw_1167 : decode code 1167 = .ok (.iload_n 3, 1) := by decide +kernel
theorem dLw_1168 : decode code 1168 = .ok (.iconst 2, 1) := by decide +kernel
theorem dLw_1169 : decode code 1169 = .ok (.iadd, 1) := by decide +kernel
theorem dLw_1170 : decode code 1170 = .ok (.iaload, 1) := by decide +kernel
theorem dLw_1171 : decode code 1171 = .ok (.invokevirtual 127, 3) := by decide +kernel
theorem dLw_1174 : decode code 1174 = .ok (.aload_n 2, 1) := by decide +kernel
theorem dLw_1175 : decode code 1175 = .ok (.aload_n 0, 1) := by decide +kernel
theorem dLw_1176 : decode code 1176 = .ok (.iload_n 3, 1) := by decide +kernel
theorem dLw_1177 : decode code 1177 = .ok (.iconst 1, 1) := by decide +kernel
theorem dLw_1178 : decode code 1178 = .ok (.iadd, 1) := by decide +kernel
theorem dLw_1179 : decode code 1179 = .ok (.iaload, 1) := by decide +kernel
theorem dLw_1180 : decode code 1180 = .ok (.aload_n 0, 1) := by decide +kernel
theorem dLw_1181 : decode code 1181 = .ok (.iload_n 3, 1) := by decide +kernel
theorem dLw_1182 : decode code 1182 = .ok (.iconst 2, 1) := by decide +kernel
theorem dLw_1183 : decode code 1183 = .ok (.iadd, 1) := by decide +kernel
theorem dLw_1184 : decode code 1184 = .ok (.iaload, 1) := by decide +kernel
theorem dLw_1185 : decode code 1185 = .ok (.invokevirtual 130, 3) := by decide +kernel
theorem dLw_1188 : decode code 1188 = .ok (.if_icmp .eq 510, 3) := by decide +kernel
theorem dLw_1191 : decode code 1191 = .ok (.iconst 0, 1) := by decide +kernel
theorem dLw_1192 : decode code 1192 = .ok (.ireturn, 1) := by decide +kernel
theorem dLw_1193 : decode code 1193 = .ok (.aload_n 1, 1) := by decide +kernel
theorem dLw_1194 : decode code 1194 = .ok (.aload_n 0, 1) := by decide +kernel
theorem dLw_1195 : decode code 1195 = .ok (.iload_n 3, 1) := by decide +kernel
theorem dLw_1196 : decode code 1196 = .ok (.iconst 1, 1) := by decide +kernel
theorem dLw_1197 : decode code 1197 = .ok (.iadd, 1) := by decide +kernel
theorem dLw_1198 : decode code 1198 = .ok (.iaload, 1) := by decide +kernel
theorem dLw_1199 : decode code 1199 = .ok (.aload_n 0, 1) := by decide +kernel
theorem dLw_1200 : decode code 1200 = .ok (.iload_n 3, 1) := by decide +kernel
theorem dLw_1201 : decode code 1201 = .ok (.iconst 2, 1) := by decide +kernel
theorem dLw_1202 : decode code 1202 = .ok (.iadd, 1) := by decide +kernel
theorem dLw_1203 : decode code 1203 = .ok (.iaload, 1) := by decide +kernel
theorem dLw_1204 : decode code 1204 = .ok (.invokevirtual 131, 3) := by decide +kernel
theorem dLw_1207 : decode code 1207 = .ok (.aload_n 2, 1) := by decide +kernel
theorem dLw_1208 : decode code 1208 = .ok (.aload_n 0, 1) := by decide +kernel
theorem dLw_1209 : decode code 1209 = .ok (.iload_n 3, 1) := by decide +kernel
theorem dLw_1210 : decode code 1210 = .ok (.iconst 1, 1) := by decide +kernel
theorem dLw_1211 : decode code 1211 = .ok (.iadd, 1) := by decide +kernel
theorem dLw_1212 : decode code 1212 = .ok (.iaload, 1) := by decide +kernel
theorem dLw_1213 : decode code 1213 = .ok (.aload_n 0, 1) := by decide +kernel
theorem dLw_1214 : decode code 1214 = .ok (.iload_n 3, 1) := by decide +kernel
theorem dLw_1215 : decode code 1215 = .ok (.iconst 2, 1) := by decide +kernel
theorem dLw_1216 : decode code 1216 = .ok (.iadd, 1) := by decide +kernel
theorem dLw_1217 : decode code 1217 = .ok (.iaload, 1) := by decide +kernel
theorem dLw_1218 : decode code 1218 = .ok (.invokevirtual 134, 3) := by decide +kernel
theorem dLw_1221 : decode code 1221 = .ok (.if_icmp .eq 477, 3) := by decide +kernel
theorem dLw_1224 : decode code 1224 = .ok (.iconst 0, 1) := by decide +kernel
theorem dLw_1225 : decode code 1225 = .ok (.ireturn, 1) := by decide +kernel
theorem dLw_1226 : decode code 1226 = .ok (.aload_n 1, 1) := by decide +kernel
theorem dLw_1227 : decode code 1227 = .ok (.aload_n 0, 1) := by decide +kernel
theorem dLw_1228 : decode code 1228 = .ok (.iload_n 3, 1) := by decide +kernel
theorem dLw_1229 : decode code 1229 = .ok (.iconst 1, 1) := by decide +kernel
theorem dLw_1230 : decode code 1230 = .ok (.iadd, 1) := by decide +kernel
theorem dLw_1231 : decode code 1231 = .ok (.iaload, 1) := by decide +kernel
theorem dLw_1232 : decode code 1232 = .ok (.aload_n 0, 1) := by decide +kernel
theorem dLw_1233 : decode code 1233 = .ok (.iload_n 3, 1) := by decide +kernel
theorem dLw_1234 : decode code 1234 = .ok (.iconst 2, 1) := by decide +kernel
theorem dLw_1235 : decode code 1235 = .ok (.iadd, 1) := by decide +kernel
theorem dLw_1236 : decode code 1236 = .ok (.iaload, 1) := by decide +kernel
theorem dLw_1237 : decode code 1237 = .ok (.aload_n 0, 1) := by decide +kernel
theorem dLw_1238 : decode code 1238 = .ok (.iload_n 3, 1) := by decide +kernel
theorem dLw_1239 : decode code 1239 = .ok (.iconst 3, 1) := by decide +kernel
theorem dLw_1240 : decode code 1240 = .ok (.iadd, 1) := by decide +kernel
theorem dLw_1241 : decode code 1241 = .ok (.iaload, 1) := by decide +kernel
theorem dLw_1242 : decode code 1242 = .ok (.invokevirtual 135, 3) := by decide +kernel
theorem dLw_1245 : decode code 1245 = .ok (.aload_n 2, 1) := by decide +kernel
theorem dLw_1246 : decode code 1246 = .ok (.aload_n 0, 1) := by decide +kernel
theorem dLw_1247 : decode code 1247 = .ok (.iload_n 3, 1) := by decide +kernel
theorem dLw_1248 : decode code 1248 = .ok (.iconst 1, 1) := by decide +kernel
theorem dLw_1249 : decode code 1249 = .ok (.iadd, 1) := by decide +kernel
theorem dLw_1250 : decode code 1250 = .ok (.iaload, 1) := by decide +kernel
theorem dLw_1251 : decode code 1251 = .ok (.aload_n 0, 1) := by decide +kernel
theorem dLw_1252 : decode code 1252 = .ok (.iload_n 3, 1) := by decide +kernel
theorem dLw_1253 : decode code 1253 = .ok (.iconst 2, 1) := by decide +kernel
theorem dLw_1254 : decode code 1254 = .ok (.iadd, 1) := by decide +kernel
theorem dLw_1255 : decode code 1255 = .ok (.iaload, 1) := by decide +kernel
theorem dLw_1256 : decode code 1256 = .ok (.aload_n 0, 1) := by decide +kernel
theorem dLw_1257 : decode code 1257 = .ok (.iload_n 3, 1) := by decide +kernel
theorem dLw_1258 : decode code 1258 = .ok (.iconst 3, 1) := by decide +kernel
theorem dLw_1259 : decode code 1259 = .ok (.iadd, 1) := by decide +kernel
theorem dLw_1260 : decode code 1260 = .ok (.iaload, 1) := by decide +kernel
theorem dLw_1261 : decode code 1261 = .ok (.invokevirtual 138, 3) := by decide +kernel
theorem dLw_1264 : decode code 1264 = .ok (.if_icmp .eq 434, 3) := by decide +kernel
theorem dLw_1267 : decode code 1267 = .ok (.iconst 0, 1) := by decide +kernel
theorem dLw_1268 : decode code 1268 = .ok (.ireturn, 1) := by decide +kernel
theorem dLw_1269 : decode code 1269 = .ok (.aload_n 1, 1) := by decide +kernel
theorem dLw_1270 : decode code 1270 = .ok (.aload_n 0, 1) := by decide +kernel
theorem dLw_1271 : decode code 1271 = .ok (.iload_n 3, 1) := by decide +kernel
theorem dLw_1272 : decode code 1272 = .ok (.iconst 1, 1) := by decide +kernel
theorem dLw_1273 : decode code 1273 = .ok (.iadd, 1) := by decide +kernel
theorem dLw_1274 : decode code 1274 = .ok (.iaload, 1) := by decide +kernel
theorem dLw_1275 : decode code 1275 = .ok (.aload_n 0, 1) := by decide +kernel
theorem dLw_1276 : decode code 1276 = .ok (.iload_n 3, 1) := by decide +kernel
theorem dLw_1277 : decode code 1277 = .ok (.iconst 2, 1) := by decide +kernel
theorem dLw_1278 : decode code 1278 = .ok (.iadd, 1) := by decide +kernel
theorem dLw_1279 : decode code 1279 = .ok (.iaload, 1) := by decide +kernel
theorem dLw_1280 : decode code 1280 = .ok (.invokevirtual 139, 3) := by decide +kernel
theorem dLw_1283 : decode code 1283 = .ok (.aload_n 2, 1) := by decide +kernel
theorem dLw_1284 : decode code 1284 = .ok (.aload_n 0, 1) := by decide +kernel
theorem dLw_1285 : decode code 1285 = .ok (.iload_n 3, 1) := by decide +kernel
theorem dLw_1286 : decode code 1286 = .ok (.iconst 1, 1) := by decide +kernel
theorem dLw_1287 : decode code 1287 = .ok (.iadd, 1) := by decide +kernel
theorem dLw_1288 : decode code 1288 = .ok (.iaload, 1) := by decide +kernel
theorem dLw_1289 : decode code 1289 = .ok (.aload_n 0, 1) := by decide +kernel
theorem dLw_1290 : decode code 1290 = .ok (.iload_n 3, 1) := by decide +kernel
theorem dLw_1291 : decode code 1291 = .ok (.iconst 2, 1) := by decide +kernel
theorem dLw_1292 : decode code 1292 = .ok (.iadd, 1) := by decide +kernel
theorem dLw_1293 : decode code 1293 = .ok (.iaload, 1) := by decide +kernel
theorem dLw_1294 : decode code 1294 = .ok (.invokevirtual 142, 3) := by decide +kernel
theorem dLw_1297 : decode code 1297 = .ok (.if_icmp .eq 401, 3) := by decide +kernel
theorem dLw_1300 : decode code 1300 = .ok (.iconst 0, 1) := by decide +kernel
theorem dLw_1301 : decode code 1301 = .ok (.ireturn, 1) := by decide +kernel
theorem dLw_1302 : decode code 1302 = .ok (.aload_n 1, 1) := by decide +kernel
theorem dLw_1303 : decode code 1303 = .ok (.aload_n 0, 1) := by decide +kernel
theorem dLw_1304 : decode code 1304 = .ok (.iload_n 3, 1) := by decide +kernel
theorem dLw_1305 : decode code 1305 = .ok (.iconst 1, 1) := by decide +kernel
theorem dLw_1306 : decode code 1306 = .ok (.iadd, 1) := by decide +kernel
theorem dLw_1307 : decode code 1307 = .ok (.iaload, 1) := by decide +kernel
theorem dLw_1308 : decode code 1308 = .ok (.invokevirtual 143, 3) := by decide +kernel
theorem dLw_1311 : decode code 1311 = .ok (.aload_n 2, 1) := by decide +kernel
theorem dLw_1312 : decode code 1312 = .ok (.aload_n 0, 1) := by decide +kernel
theorem dLw_1313 : decode code 1313 = .ok (.iload_n 3, 1) := by decide +kernel
theorem dLw_1314 : decode code 1314 = .ok (.iconst 1, 1) := by decide +kernel
theorem dLw_1315 : decode code 1315 = .ok (.iadd, 1) := by decide +kernel
theorem dLw_1316 : decode code 1316 = .ok (.iaload, 1) := by decide +kernel
theorem dLw_1317 : decode code 1317 = .ok (.invokevirtual 146, 3) := by decide +kernel
theorem dLw_1320 : decode code 1320 = .ok (.if_icmp .eq 378, 3) := by decide +kernel
theorem dLw_1323 : decode code 1323 = .ok (.iconst 0, 1) := by decide +kernel
theorem dLw_1324 : decode code 1324 = .ok (.ireturn, 1) := by decide +kernel
theorem dLw_1325 : decode code 1325 = .ok (.aload_n 1, 1) := by decide +kernel
theorem dLw_1326 : decode code 1326 = .ok (.aload_n 0, 1) := by decide +kernel
theorem dLw_1327 : decode code 1327 = .ok (.iload_n 3, 1) := by decide +kernel
theorem dLw_1328 : decode code 1328 = .ok (.iconst 1, 1) := by decide +kernel
theorem dLw_1329 : decode code 1329 = .ok (.iadd, 1) := by decide +kernel
theorem dLw_1330 : decode code 1330 = .ok (.iaload, 1) := by decide +kernel
theorem dLw_1331 : decode code 1331 = .ok (.aload_n 0, 1) := by decide +kernel
theorem dLw_1332 : decode code 1332 = .ok (.iload_n 3, 1) := by decide +kernel
theorem dLw_1333 : decode code 1333 = .ok (.iconst 2, 1) := by decide +kernel
theorem dLw_1334 : decode code 1334 = .ok (.iadd, 1) := by decide +kernel
theorem dLw_1335 : decode code 1335 = .ok (.iaload, 1) := by decide +kernel
theorem dLw_1336 : decode code 1336 = .ok (.invokevirtual 147, 3) := by decide +kernel
theorem dLw_1339 : decode code 1339 = .ok (.aload_n 2, 1) := by decide +kernel
theorem dLw_1340 : decode code 1340 = .ok (.aload_n 0, 1) := by decide +kernel
theorem dLw_1341 : decode code 1341 = .ok (.iload_n 3, 1) := by decide +kernel
theorem dLw_1342 : decode code 1342 = .ok (.iconst 1, 1) := by decide +kernel
theorem dLw_1343 : decode code 1343 = .ok (.iadd, 1) := by decide +kernel
theorem dLw_1344 : decode code 1344 = .ok (.iaload, 1) := by decide +kernel
theorem dLw_1345 : decode code 1345 = .ok (.aload_n 0, 1) := by decide +kernel
theorem dLw_1346 : decode code 1346 = .ok (.iload_n 3, 1) := by decide +kernel
theorem dLw_1347 : decode code 1347 = .ok (.iconst 2, 1) := by decide +kernel
theorem dLw_1348 : decode code 1348 = .ok (.iadd, 1) := by decide +kernel
theorem dLw_1349 : decode code 1349 = .ok (.iaload, 1) := by decide +kernel
theorem dLw_1350 : decode code 1350 = .ok (.invokevirtual 150, 3) := by decide +kernel
theorem dLw_1353 : decode code 1353 = .ok (.if_icmp .eq 345, 3) := by decide +kernel
theorem dLw_1356 : decode code 1356 = .ok (.iconst 0, 1) := by decide +kernel
theorem dLw_1357 : decode code 1357 = .ok (.ireturn, 1) := by decide +kernel
theorem dLw_1358 : decode code 1358 = .ok (.aload_n 1, 1) := by decide +kernel
theorem dLw_1359 : decode code 1359 = .ok (.aload_n 0, 1) := by decide +kernel
theorem dLw_1360 : decode code 1360 = .ok (.iload_n 3, 1) := by decide +kernel
theorem dLw_1361 : decode code 1361 = .ok (.iconst 1, 1) := by decide +kernel
theorem dLw_1362 : decode code 1362 = .ok (.iadd, 1) := by decide +kernel
theorem dLw_1363 : decode code 1363 = .ok (.iaload, 1) := by decide +kernel
theorem dLw_1364 : decode code 1364 = .ok (.aload_n 0, 1) := by decide +kernel
theorem dLw_1365 : decode code 1365 = .ok (.iload_n 3, 1) := by decide +kernel
theorem dLw_1366 : decode code 1366 = .ok (.iconst 2, 1) := by decide +kernel
theorem dLw_1367 : decode code 1367 = .ok (.iadd, 1) := by decide +kernel
theorem dLw_1368 : decode code 1368 = .ok (.iaload, 1) := by decide +kernel
theorem dLw_1369 : decode code 1369 = .ok (.invokevirtual 151, 3) := by decide +kernel
theorem dLw_1372 : decode code 1372 = .ok (.aload_n 2, 1) := by decide +kernel
theorem dLw_1373 : decode code 1373 = .ok (.aload_n 0, 1) := by decide +kernel
theorem dLw_1374 : decode code 1374 = .ok (.iload_n 3, 1) := by decide +kernel
theorem dLw_1375 : decode code 1375 = .ok (.iconst 1, 1) := by decide +kernel
theorem dLw_1376 : decode code 1376 = .ok (.iadd, 1) := by decide +kernel
theorem dLw_1377 : decode code 1377 = .ok (.iaload, 1) := by decide +kernel
theorem dLw_1378 : decode code 1378 = .ok (.aload_n 0, 1) := by decide +kernel
theorem dLw_1379 : decode code 1379 = .ok (.iload_n 3, 1) := by decide +kernel
theorem dLw_1380 : decode code 1380 = .ok (.iconst 2, 1) := by decide +kernel
theorem dLw_1381 : decode code 1381 = .ok (.iadd, 1) := by decide +kernel
theorem dLw_1382 : decode code 1382 = .ok (.iaload, 1) := by decide +kernel
theorem dLw_1383 : decode code 1383 = .ok (.invokevirtual 154, 3) := by decide +kernel
theorem dLw_1386 : decode code 1386 = .ok (.if_icmp .eq 312, 3) := by decide +kernel
theorem dLw_1389 : decode code 1389 = .ok (.iconst 0, 1) := by decide +kernel
theorem dLw_1390 : decode code 1390 = .ok (.ireturn, 1) := by decide +kernel
theorem dLw_1391 : decode code 1391 = .ok (.aload_n 1, 1) := by decide +kernel
theorem dLw_1392 : decode code 1392 = .ok (.aload_n 0, 1) := by decide +kernel
theorem dLw_1393 : decode code 1393 = .ok (.iload_n 3, 1) := by decide +kernel
theorem dLw_1394 : decode code 1394 = .ok (.iconst 1, 1) := by decide +kernel
theorem dLw_1395 : decode code 1395 = .ok (.iadd, 1) := by decide +kernel
theorem dLw_1396 : decode code 1396 = .ok (.iaload, 1) := by decide +kernel
theorem dLw_1397 : decode code 1397 = .ok (.aload_n 0, 1) := by decide +kernel
theorem dLw_1398 : decode code 1398 = .ok (.iload_n 3, 1) := by decide +kernel
theorem dLw_1399 : decode code 1399 = .ok (.iconst 2, 1) := by decide +kernel
theorem dLw_1400 : decode code 1400 = .ok (.iadd, 1) := by decide +kernel
theorem dLw_1401 : decode code 1401 = .ok (.iaload, 1) := by decide +kernel
theorem dLw_1402 : decode code 1402 = .ok (.aload_n 0, 1) := by decide +kernel
theorem dLw_1403 : decode code 1403 = .ok (.iload_n 3, 1) := by decide +kernel
theorem dLw_1404 : decode code 1404 = .ok (.iconst 3, 1) := by decide +kernel
theorem dLw_1405 : decode code 1405 = .ok (.iadd, 1) := by decide +kernel
theorem dLw_1406 : decode code 1406 = .ok (.iaload, 1) := by decide +kernel
theorem dLw_1407 : decode code 1407 = .ok (.ifCond .eq 7, 3) := by decide +kernel
theorem dLw_1410 : decode code 1410 = .ok (.iconst 1, 1) := by decide +kernel
theorem dLw_1411 : decode code 1411 = .ok (.goto 4, 3) := by decide +kernel
theorem dLw_1414 : decode code 1414 = .ok (.iconst 0, 1) := by decide +kernel
theorem dLw_1415 : decode code 1415 = .ok (.invokevirtual 155, 3) := by decide +kernel
