theorem dl_952 : decode code 952 = .ok (.iconst 0, 1) := by decide +kernel
theorem dl_953 : decode code 953 = .ok (.laload, 1) := by decide +kernel
theorem dl_954 : decode code 954 = .ok (.iload 6, 2) := by decide +kernel
theorem dl_956 : decode code 956 = .ok (.i2l, 1) := by decide +kernel
theorem dl_957 : decode code 957 = .ok (.lcmp, 1) := by decide +kernel
theorem dl_958 : decode code 958 = .ok (.ifCond .eq 5, 3) := by decide +kernel
theorem dl_961 : decode code 961 = .ok (.iconst 0, 1) := by decide +kernel
theorem dl_962 : decode code 962 = .ok (.ireturn, 1) := by decide +kernel
theorem dl_963 : decode code 963 = .ok (.goto 808, 3) := by decide +kernel
theorem dl_966 : decode code 966 = .ok (.aload_n 1, 1) := by decide +kernel
theorem dl_967 : decode code 967 = .ok (.aload_n 0, 1) := by decide +kernel
theorem dl_968 : decode code 968 = .ok (.iload 4, 2) := by decide +kernel
theorem dl_970 : decode code 970 = .ok (.iconst 1, 1) := by decide +kernel
theorem dl_971 : decode code 971 = .ok (.iadd, 1) := by decide +kernel
theorem dl_972 : decode code 972 = .ok (.iaload, 1) := by decide +kernel
theorem dl_973 : decode code 973 = .ok (.aload_n 3, 1) := by decide +kernel
theorem dl_974 : decode code 974 = .ok (.invokestatic 134, 3) := by decide +kernel
theorem dl_977 : decode code 977 = .ok (.istore 5, 2) := by decide +kernel
theorem dl_979 : decode code 979 = .ok (.aload_n 2, 1) := by decide +kernel
theorem dl_980 : decode code 980 = .ok (.aload_n 0, 1) := by decide +kernel
theorem dl_981 : decode code 981 = .ok (.iload 4, 2) := by decide +kernel
theorem dl_983 : decode code 983 = .ok (.iconst 1, 1) := by decide +kernel
theorem dl_984 : decode code 984 = .ok (.iadd, 1) := by decide +kernel
theorem dl_985 : decode code 985 = .ok (.iaload, 1) := by decide +kernel
theorem dl_986 : decode code 986 = .ok (.invokevirtual 136, 3) := by decide +kernel
theorem dl_989 : decode code 989 = .ok (.lstore 6, 2) := by decide +kernel
theorem dl_991 : decode code 991 = .ok (.aload_n 2, 1) := by decide +kernel
theorem dl_992 : decode code 992 = .ok (.invokevirtual 91, 3) := by decide +kernel
theorem dl_995 : decode code 995 = .ok (.iload 5, 2) := by decide +kernel
theorem dl_997 : decode code 997 = .ok (.if_icmp .eq 5, 3) := by decide +kernel
theorem dl_1000 : decode code 1000 = .ok (.iconst 0, 1) := by decide +kernel
theorem dl_1001 : decode code 1001 = .ok (.ireturn, 1) := by decide +kernel
theorem dl_1002 : decode code 1002 = .ok (.iload 5, 2) := by decide +kernel
theorem dl_1004 : decode code 1004 = .ok (.ifCond .ne 14, 3) := by decide +kernel
theorem dl_1007 : decode code 1007 = .ok (.aload_n 3, 1) := by decide +kernel
theorem dl_1008 : decode code 1008 = .ok (.iconst 0, 1) := by decide +kernel
theorem dl_1009 : decode code 1009 = .ok (.laload, 1) := by decide +kernel
theorem dl_1010 : decode code 1010 = .ok (.lload 6, 2) := by decide +kernel
theorem dl_1012 : decode code 1012 = .ok (.lcmp, 1) := by decide +kernel
theorem dl_1013 : decode code 1013 = .ok (.ifCond .eq 5, 3) := by decide +kernel
theorem dl_1016 : decode code 1016 = .ok (.iconst 0, 1) := by decide +kernel
theorem dl_1017 : decode code 1017 = .ok (.ireturn, 1) := by decide +kernel
theorem dl_1018 : decode code 1018 = .ok (.goto 753, 3) := by decide +kernel
theorem dl_1021 : decode code 1021 = .ok (.aload_n 1, 1) := by decide +kernel
theorem dl_1022 : decode code 1022 = .ok (.aload_n 0, 1) := by decide +kernel
theorem dl_1023 : decode code 1023 = .ok (.iload 4, 2) := by decide +kernel
theorem dl_1025 : decode code 1025 = .ok (.iconst 1, 1) := by decide +kernel
theorem dl_1026 : decode code 1026 = .ok (.iadd, 1) := by decide +kernel
theorem dl_1027 : decode code 1027 = .ok (.iaload, 1) := by decide +kernel
theorem dl_1028 : decode code 1028 = .ok (.invokevirtual 137, 3) := by decide +kernel
theorem dl_1031 : decode code 1031 = .ok (.aload_n 2, 1) := by decide +kernel
theorem dl_1032 : decode code 1032 = .ok (.aload_n 0, 1) := by decide +kernel
theorem dl_1033 : decode code 1033 = .ok (.iload 4, 2) := by decide +kernel
theorem dl_1035 : decode code 1035 = .ok (.iconst 1, 1) := by decide +kernel
theorem dl_1036 : decode code 1036 = .ok (.iadd, 1) := by decide +kernel
theorem dl_1037 : decode code 1037 = .ok (.iaload, 1) := by decide +kernel
theorem dl_1038 : decode code 1038 = .ok (.invokevirtual 140, 3) := by decide +kernel
theorem dl_1041 : decode code 1041 = .ok (.if_icmp .eq 730, 3) := by decide +kernel
theorem dl_1044 : decode code 1044 = .ok (.iconst 0, 1) := by decide +kernel
theorem dl_1045 : decode code 1045 = .ok (.ireturn, 1) := by decide +kernel
theorem dl_1046 : decode code 1046 = .ok (.aload_n 1, 1) := by decide +kernel
theorem dl_1047 : decode code 1047 = .ok (.aload_n 0, 1) := by decide +kernel
theorem dl_1048 : decode code 1048 = .ok (.iload 4, 2) := by decide +kernel
theorem dl_1050 : decode code 1050 = .ok (.iconst 1, 1) := by decide +kernel
theorem dl_1051 : decode code 1051 = .ok (.iadd, 1) := by decide +kernel
theorem dl_1052 : decode code 1052 = .ok (.iaload, 1) := by decide +kernel
theorem dl_1053 : decode code 1053 = .ok (.invokevirtual 141, 3) := by decide +kernel
theorem dl_1056 : decode code 1056 = .ok (.aload_n 2, 1) := by decide +kernel
theorem dl_1057 : decode code 1057 = .ok (.aload_n 0, 1) := by decide +kernel
theorem dl_1058 : decode code 1058 = .ok (.iload 4, 2) := by decide +kernel
theorem dl_1060 : decode code 1060 = .ok (.iconst 1, 1) := by decide +kernel
theorem dl_1061 : decode code 1061 = .ok (.iadd, 1) := by decide +kernel
theorem dl_1062 : decode code 1062 = .ok (.iaload, 1) := by decide +kernel
theorem dl_1063 : decode code 1063 = .ok (.invokevirtual 144, 3) := by decide +kernel
theorem dl_1066 : decode code 1066 = .ok (.if_icmp .eq 705, 3) := by decide +kernel
theorem dl_1069 : decode code 1069 = .ok (.iconst 0, 1) := by decide +kernel
theorem dl_1070 : decode code 1070 = .ok (.ireturn, 1) := by decide +kernel
theorem dl_1071 : decode code 1071 = .ok (.aload_n 1, 1) := by decide +kernel
theorem dl_1072 : decode code 1072 = .ok (.aload_n 0, 1) := by decide +kernel
theorem dl_1073 : decode code 1073 = .ok (.iload 4, 2) := by decide +kernel
theorem dl_1075 : decode code 1075 = .ok (.iconst 1, 1) := by decide +kernel
theorem dl_1076 : decode code 1076 = .ok (.iadd, 1) := by decide +kernel
theorem dl_1077 : decode code 1077 = .ok (.iaload, 1) := by decide +kernel
theorem dl_1078 : decode code 1078 = .ok (.aload_n 3, 1) := by decide +kernel
theorem dl_1079 : decode code 1079 = .ok (.invokestatic 145, 3) := by decide +kernel
theorem dl_1082 : decode code 1082 = .ok (.istore 5, 2) := by decide +kernel
theorem dl_1084 : decode code 1084 = .ok (.aload_n 2, 1) := by decide +kernel
theorem dl_1085 : decode code 1085 = .ok (.aload_n 0, 1) := by decide +kernel
theorem dl_1086 : decode code 1086 = .ok (.iload 4, 2) := by decide +kernel
theorem dl_1088 : decode code 1088 = .ok (.iconst 1, 1) := by decide +kernel
theorem dl_1089 : decode code 1089 = .ok (.iadd, 1) := by decide +kernel
theorem dl_1090 : decode code 1090 = .ok (.iaload, 1) := by decide +kernel
theorem dl_1091 : decode code 1091 = .ok (.invokevirtual 147, 3) := by decide +kernel
theorem dl_1094 : decode code 1094 = .ok (.istore 6, 2) := by decide +kernel
theorem dl_1096 : decode code 1096 = .ok (.aload_n 2, 1) := by decide +kernel
theorem dl_1097 : decode code 1097 = .ok (.invokevirtual 91, 3) := by decide +kernel
theorem dl_1100 : decode code 1100 = .ok (.iload 5, 2) := by decide +kernel
theorem dl_1102 : decode code 1102 = .ok (.if_icmp .eq 5, 3) := by decide +kernel
theorem dl_1105 : decode code 1105 = .ok (.iconst 0, 1) := by decide +kernel
theorem dl_1106 : decode code 1106 = .ok (.ireturn, 1) := by decide +kernel
theorem dl_1107 : decode code 1107 = .ok (.iload 5, 2) := by decide +kernel
theorem dl_1109 : decode code 1109 = .ok (.ifCond .ne 15, 3) := by decide +kernel
theorem dl_1112 : decode code 1112 = .ok (.aload_n 3, 1) := by decide +kernel
theorem dl_1113 : decode code 1113 = .ok (.iconst 0, 1) := by decide +kernel
theorem dl_1114 : decode code 1114 = .ok (.laload, 1) := by decide +kernel
theorem dl_1115 : decode code 1115 = .ok (.iload 6, 2) := by decide +kernel
theorem dl_1117 : decode code 1117 = .ok (.i2l, 1) := by decide +kernel
theorem dl_1118 : decode code 1118 = .ok (.lcmp, 1) := by decide +kernel
theorem dl_1119 : decode code 1119 = .ok (.ifCond .eq 5, 3) := by decide +kernel
theorem dl_1122 : decode code 1122 = .ok (.iconst 0, 1) := by decide +kernel
theorem dl_1123 : decode code 1123 = .ok (.ireturn, 1) := by decide +kernel
theorem dl_1124 : decode code 1124 = .ok (.goto 647, 3) := by decide +kernel
theorem dl_1127 : decode code 1127 = .ok (.aload_n 1, 1) := by decide +kernel
theorem dl_1128 : decode code 1128 = .ok (.aload_n 0, 1) := by decide +kernel
theorem dl_1129 : decode code 1129 = .ok (.iload 4, 2) := by decide +kernel
theorem dl_1131 : decode code 1131 = .ok (.iconst 1, 1) := by decide +kernel
theorem dl_1132 : decode code 1132 = .ok (.iadd, 1) := by decide +kernel
theorem dl_1133 : decode code 1133 = .ok (.iaload, 1) := by decide +kernel
theorem dl_1134 : decode code 1134 = .ok (.aload_n 3, 1) := by decide +kernel
theorem dl_1135 : decode code 1135 = .ok (.invokestatic 148, 3) := by decide +kernel
theorem dl_1138 : decode code 1138 = .ok (.istore 5, 2) := by decide +kernel
theorem dl_1140 : decode code 1140 = .ok (.aload_n 2, 1) := by decide +kernel
theorem dl_1141 : decode code 1141 = .ok (.aload_n 0, 1) := by decide +kernel
theorem dl_1142 : decode code 1142 = .ok (.iload 4, 2) := by decide +kernel
theorem dl_1144 : decode code 1144 = .ok (.iconst 1, 1) := by decide +kernel
theorem dl_1145 : decode code 1145 = .ok (.iadd, 1) := by decide +kernel
theorem dl_1146 : decode code 1146 = .ok (.iaload, 1) := by decide +kernel
theorem dl_1147 : decode code 1147 = .ok (.invokevirtual 150, 3) := by decide +kernel
theorem dl_1150 : decode code 1150 = .ok (.istore 6, 2) := by decide +kernel
theorem dl_1152 : decode code 1152 = .ok (.aload_n 2, 1) := by decide +kernel
theorem dl_1153 : decode code 1153 = .ok (.invokevirtual 91, 3) := by decide +kernel
theorem dl_1156 : decode code 1156 = .ok (.iload 5, 2) := by decide +kernel
theorem dl_1158 : decode code 1158 = .ok (.if_icmp .eq 5, 3) := by decide +kernel
theorem dl_1161 : decode code 1161 = .ok (.iconst 0, 1) := by decide +kernel
theorem dl_1162 : decode code 1162 = .ok (.ireturn, 1) := by decide +kernel
theorem dl_1163 : decode code 1163 = .ok (.iload 5, 2) := by decide +kernel
theorem dl_1165 : decode code 1165 = .ok (.ifCond .ne 15, 3) := by decide +kernel
theorem dl_1168 : decode code 1168 = .ok (.aload_n 3, 1) := by decide +kernel
theorem dl_1169 : decode code 1169 = .ok (.iconst 0, 1) := by decide +kernel
theorem dl_1170 : decode code 1170 = .ok (.laload, 1) := by decide +kernel
theorem dl_1171 : decode code 1171 = .ok (.iload 6, 2) := by decide +kernel
theorem dl_1173 : decode code 1173 = .ok (.i2l, 1) := by decide +kernel
theorem dl_1174 : decode code 1174 = .ok (.lcmp, 1) := by decide +kernel
theorem dl_1175 : decode code 1175 = .ok (.ifCond .eq 5, 3) := by decide +kernel
theorem dl_1178 : decode code 1178 = .ok (.iconst 0, 1) := by decide +kernel
theorem dl_1179 : decode code 1179 = .ok (.ireturn, 1) := by decide +kernel
theorem dl_1180 : decode code 1180 = .ok (.goto 591, 3) := by decide +kernel
theorem dl_1183 : decode code 1183 = .ok (.aload_n 1, 1) := by decide +kernel
theorem dl_1184 : decode code 1184 = .ok (.aload_n 0, 1) := by decide +kernel
theorem dl_1185 : decode code 1185 = .ok (.iload 4, 2) := by decide +kernel
theorem dl_1187 : decode code 1187 = .ok (.iconst 1, 1) := by decide +kernel
theorem dl_1188 : decode code 1188 = .ok (.iadd, 1) := by decide +kernel
theorem dl_1189 : decode code 1189 = .ok (.iaload, 1) := by decide +kernel
theorem dl_1190 : decode code 1190 = .ok (.aload_n 3, 1) := by decide +kernel
theorem dl_1191 : decode code 1191 = .ok (.invokestatic 151, 3) := by decide +kernel
theorem dl_1194 : decode code 1194 = .ok (.istore 5, 2) := by decide +kernel
theorem dl_1196 : decode code 1196 = .ok (.aload_n 2, 1) := by decide +kernel
theorem dl_1197 : decode code 1197 = .ok (.aload_n 0, 1) := by decide +kernel
theorem dl_1198 : decode code 1198 = .ok (.iload 4, 2) := by decide +kernel
theorem dl_1200 : decode code 1200 = .ok (.iconst 1, 1) := by decide +kernel
theorem dl_1201 : decode code 1201 = .ok (.iadd, 1) := by decide +kernel
theorem dl_1202 : decode code 1202 = .ok (.iaload, 1) := by decide +kernel
theorem dl_1203 : decode code 1203 = .ok (.invokevirtual 153, 3) := by decide +kernel
theorem dl_1206 : decode code 1206 = .ok (.istore 6, 2) := by decide +kernel
theorem dl_1208 : decode code 1208 = .ok (.aload_n 2, 1) := by decide +kernel
theorem dl_1209 : decode code 1209 = .ok (.invokevirtual 91, 3) := by decide +kernel
theorem dl_1212 : decode code 1212 = .ok (.iload 5, 2) := by decide +kernel
theorem dl_1214 : decode code 1214 = .ok (.if_icmp .eq 5, 3) := by decide +kernel
theorem dl_1217 : decode code 1217 = .ok (.iconst 0, 1) := by decide +kernel
theorem dl_1218 : decode code 1218 = .ok (.ireturn, 1) := by decide +kernel
theorem dl_1219 : decode code 1219 = .ok (.iload 5, 2) := by decide +kernel
theorem dl_1221 : decode code 1221 = .ok (.ifCond .ne 15, 3) := by decide +kernel
theorem dl_1224 : decode code 1224 = .ok (.aload_n 3, 1) := by decide +kernel
theorem dl_1225 : decode code 1225 = .ok (.iconst 0, 1) := by decide +kernel
theorem dl_1226 : decode code 1226 = .ok (.laload, 1) := by decide +kernel
theorem dl_1227 : decode code 1227 = .ok (.iload 6, 2) := by decide +kernel
theorem dl_1229 : decode code 1229 = .ok (.i2l, 1) := by decide +kernel
theorem dl_1230 : decode code 1230 = .ok (.lcmp, 1) := by decide +kernel
theorem dl_1231 : decode code 1231 = .ok (.ifCond .eq 5, 3) := by decide +kernel
theorem dl_1234 : decode code 1234 = .ok (.iconst 0, 1) := by decide +kernel
theorem dl_1235 : decode code 1235 = .ok (.ireturn, 1) := by decide +kernel
theorem dl_1236 : decode code 1236 = .ok (.goto 535, 3) := by decide +kernel
theorem dl_1239 : decode code 1239 = .ok (.aload_n 1, 1) := by decide +kernel
theorem dl_1240 : decode code 1240 = .ok (.aload_n 0, 1) := by decide +kernel
theorem dl_1241 : decode code 1241 = .ok (.iload 4, 2) := by decide +kernel
theorem dl_1243 : decode code 1243 = .ok (.iconst 1, 1) := by decide +kernel
theorem dl_1244 : decode code 1244 = .ok (.iadd, 1) := by decide +kernel
theorem dl_1245 : decode code 1245 = .ok (.iaload, 1) := by decide +kernel
theorem dl_1246 : decode code 1246 = .ok (.aload_n 0, 1) := by decide +kernel
theorem dl_1247 : decode code 1247 = .ok (.iload 4, 2) := by decide +kernel
theorem dl_1249 : decode code 1249 = .ok (.iconst 2, 1) := by decide +kernel
theorem dl_1250 : decode code 1250 = .ok (.iadd, 1) := by decide +kernel
theorem dl_1251 : decode code 1251 = .ok (.iaload, 1) := by decide +kernel
theorem dl_1252 : decode code 1252 = .ok (.aload_n 3, 1) := by decide +kernel
theorem dl_1253 : decode code 1253 = .ok (.invokestatic 154, 3) := by decide +kernel
theorem dl_1256 : decode code 1256 = .ok (.istore 5, 2) := by decide +kernel
theorem dl_1258 : decode code 1258 = .ok (.aload_n 2, 1) := by decide +kernel
theorem dl_1259 : decode code 1259 = .ok (.aload_n 0, 1) := by decide +kernel
theorem dl_1260 : decode code 1260 = .ok (.iload 4, 2) := by decide +kernel
theorem dl_1262 : decode code 1262 = .ok (.iconst 1, 1) := by decide +kernel
theorem dl_1263 : decode code 1263 = .ok (.iadd, 1) := by decide +kernel
theorem dl_1264 : decode code 1264 = .ok (.iaload, 1) := by decide +kernel
theorem dl_1265 : decode code 1265 = .ok (.aload_n 0, 1) := by decide +kernel
theorem dl_1266 : decode code 1266 = .ok (.iload 4, 2) := by decide +kernel
theorem dl_1268 : decode code 1268 = .ok (.iconst 2, 1) := by decide +kernel
theorem dl_1269 : decode code 1269 = .ok (.iadd, 1) := by decide +kernel
theorem dl_1270 : decode code 1270 = .ok (.iaload, 1) := by decide +kernel
theorem dl_1271 : decode code 1271 = .ok (.invokevirtual 156, 3) := by decide +kernel
theorem dl_1274 : decode code 1274 = .ok (.istore 6, 2) := by decide +kernel
theorem dl_1276 : decode code 1276 = .ok (.aload_n 2, 1) := by decide +kernel
theorem dl_1277 : decode code 1277 = .ok (.invokevirtual 91, 3) := by decide +kernel
theorem dl_1280 : decode code 1280 = .ok (.iload 5, 2) := by decide +kernel
theorem dl_1282 : decode code 1282 = .ok (.if_icmp .eq 5, 3) := by decide +kernel
theorem dl_1285 : decode code 1285 = .ok (.iconst 0, 1) := by decide +kernel
theorem dl_1286 : decode code 1286 = .ok (.ireturn, 1) := by decide +kernel
theorem dl_1287 : decode code 1287 = .ok (.iload 5, 2) := by decide +kernel
theorem dl_1289 : decode code 1289 = .ok (.ifCond .ne 15, 3) := by decide +kernel
theorem dl_1292 : decode code 1292 = .ok (.aload_n 3, 1) := by decide +kernel
theorem dl_1293 : decode code 1293 = .ok (.iconst 0, 1) := by decide +kernel
theorem dl_1294 : decode code 1294 = .ok (.laload, 1) := by decide +kernel
theorem dl_1295 : decode code 1295 = .ok (.iload 6, 2) := by decide +kernel
theorem dl_1297 : decode code 1297 = .ok (.i2l, 1) := by decide +kernel
theorem dl_1298 : decode code 1298 = .ok (.lcmp, 1) := by decide +kernel
theorem dl_1299 : decode code 1299 = .ok (.ifCond .eq 5, 3) := by decide +kernel
theorem dl_1302 : decode code 1302 = .ok (.iconst 0, 1) := by decide +kernel
theorem dl_1303 : decode code 1303 = .ok (.ireturn, 1) := by decide +kernel
theorem dl_1304 : decode code 1304 = .ok (.goto 467, 3) := by decide +kernel
theorem dl_1307 : decode code 1307 = .ok (.aload_n 1, 1) := by decide +kernel
theorem dl_1308 : decode code 1308 = .ok (.invokevirtual 157, 3) := by decide +kernel
theorem dl_1311 : decode code 1311 = .ok (.aload_n 2, 1) := by decide +kernel
theorem dl_1312 : decode code 1312 = .ok (.invokevirtual 160, 3) := by decide +kernel
theorem dl_1315 : decode code 1315 = .ok (.if_icmp .eq 456, 3) := by decide +kernel
theorem dl_1318 : decode code 1318 = .ok (.iconst 0, 1) := by decide +kernel
theorem dl_1319 : decode code 1319 = .ok (.ireturn, 1) := by decide +kernel
theorem dl_1320 : decode code 1320 = .ok (.aload_n 1, 1) := by decide +kernel
theorem dl_1321 : decode code 1321 = .ok (.invokevirtual 161, 3) := by decide +kernel
theorem dl_1324 : decode code 1324 = .ok (.aload_n 2, 1) := by decide +kernel
theorem dl_1325 : decode code 1325 = .ok (.invokevirtual 164, 3) := by decide +kernel
theorem dl_1328 : decode code 1328 = .ok (.if_icmp .eq 443, 3) := by decide +kernel
theorem dl_1331 : decode code 1331 = .ok (.iconst 0, 1) := by decide +kernel
theorem dl_1332 : decode code 1332 = .ok (.ireturn, 1) := by decide +kernel
theorem dl_1333 : decode code 1333 = .ok (.aload_n 1, 1) := by decide +kernel
theorem dl_1334 : decode code 1334 = .ok (.aload_n 0, 1) := by decide +kernel
theorem dl_1335 : decode code 1335 = .ok (.iload 4, 2) := by decide +kernel
theorem dl_1337 : decode code 1337 = .ok (.iconst 1, 1) := by decide +kernel
theorem dl_1338 : decode code 1338 = .ok (.iadd, 1) := by decide +kernel
theorem dl_1339 : decode code 1339 = .ok (.iaload, 1) := by decide +kernel
theorem dl_1340 : decode code 1340 = .ok (.aload_n 3, 1) := by decide +kernel
theorem dl_1341 : decode code 1341 = .ok (.invokestatic 165, 3) := by decide +kernel
theorem dl_1344 : decode code 1344 = .ok (.istore 5, 2) := by decide +kernel
theorem dl_1346 : decode code 1346 = .ok (.aload_n 2, 1) := by decide +kernel
theorem dl_1347 : decode code 1347 = .ok (.aload_n 0, 1) := by decide +kernel
theorem dl_1348 : decode code 1348 = .ok (.iload 4, 2) := by decide +kernel
theorem dl_1350 : decode code 1350 = .ok (.iconst 1, 1) := by decide +kernel
theorem dl_1351 : decode code 1351 = .ok (.iadd, 1) := by decide +kernel
theorem dl_1352 : decode code 1352 = .ok (.iaload, 1) := by decide +kernel
theorem dl_1353 : decode code 1353 = .ok (.invokevirtual 167, 3) := by decide +kernel
theorem dl_1356 : decode code 1356 = .ok (.istore 6, 2) := by decide +kernel
theorem dl_1358 : decode code 1358 = .ok (.aload_n 2, 1) := by decide +kernel
theorem dl_1359 : decode code 1359 = .ok (.invokevirtual 91, 3) := by decide +kernel
theorem dl_1362 : decode code 1362 = .ok (.iload 5, 2) := by decide +kernel
theorem dl_1364 : decode code 1364 = .ok (.if_icmp .eq 5, 3) := by decide +kernel
theorem dl_1367 : decode code 1367 = .ok (.iconst 0, 1) := by decide +kernel
theorem dl_1368 : decode code 1368 = .ok (.ireturn, 1) := by decide +kernel
theorem dl_1369 : decode code 1369 = .ok (.iload 5, 2) := by decide +kernel
theorem dl_1371 : decode code 1371 = .ok (.ifCond .ne 15, 3) := by decide +kernel
theorem dl_1374 : decode code 1374 = .ok (.aload_n 3, 1) := by decide +kernel
theorem dl_1375 : decode code 1375 = .ok (.iconst 0, 1) := by decide +kernel
theorem dl_1376 : decode code 1376 = .ok (.laload, 1) := by decide +kernel
theorem dl_1377 : decode code 1377 = .ok (.iload 6, 2) := by decide +kernel
