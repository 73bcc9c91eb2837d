theorem tw1141 : (Jvm.Cond.code ({ cls := "LeafFormula", name := "leaf", desc := "(III)I" } : Jvm.MethodName) prog_1_method_14_code (5 : Nat) (Option.some Jvm.ClassFile.FieldType.int)) ∈ gtbl := gt_of 1234 (by decide +kernel) (by decide +kernel)
theorem tw1142 : (Jvm.Cond.methodLink "LeafFormula" (156 : Nat) ({ cls := "LeafFormula", name := "bookWithLeaf", desc := "(II)LLeafFormula$Book;" } : Jvm.MethodName)) ∈ gtbl := gt_of 1235 (by decide +kernel) (by decide +kernel)
theorem tw1144 : (Jvm.Cond.instanceMethod ({ cls := "LeafFormula", name := "bookWithLeaf", desc := "(II)LLeafFormula$Book;" } : Jvm.MethodName)) ∈ gtbl := gt_of 1237 (by decide +kernel) (by decide +kernel)
theorem tw1145 : (Jvm.Cond.code ({ cls := "LeafFormula", name := "bookWithLeaf", desc := "(II)LLeafFormula$Book;" } : Jvm.MethodName) prog_1_method_33_code (4 : Nat) (Option.some (Jvm.ClassFile.FieldType.object "LeafFormula$Book"))) ∈ gtbl := gt_of 1238 (by decide +kernel) (by decide +kernel)
theorem tw1146 : (Jvm.Cond.methodLink "LeafFormula" (160 : Nat) ({ cls := "LeafFormula$Book", name := "aboutLeaf", desc := "(II)I" } : Jvm.MethodName)) ∈ gtbl := gt_of 1239 (by decide +kernel) (by decide +kernel)
theorem tw1147 : (Jvm.Cond.instanceMethod ({ cls := "LeafFormula$Book", name := "aboutLeaf", desc := "(II)I" } : Jvm.MethodName)) ∈ gtbl := gt_of 1240 (by decide +kernel) (by decide +kernel)
theorem tw1148 : (Jvm.Cond.selects "LeafFormula$Book" ({ cls := "LeafFormula$Book", name := "aboutLeaf", desc := "(II)I" } : Jvm.MethodName) ({ cls := "LeafFormula$Book", name := "aboutLeaf", desc := "(II)I" } : Jvm.MethodName)) ∈ gtbl := gt_of 1241 (by decide +kernel) (by decide +kernel)
theorem tw1149 : (Jvm.Cond.code ({ cls := "LeafFormula$Book", name := "aboutLeaf", desc := "(II)I" } : Jvm.MethodName) prog_2_method_8_code (3 : Nat) (Option.some Jvm.ClassFile.FieldType.int)) ∈ gtbl := gt_of 1242 (by decide +kernel) (by decide +kernel)
theorem tw1150 : (Jvm.Cond.methodLink "LeafFormula$Book" (99 : Nat) ({ cls := "LeafFormula$Book", name := "conjugateOf", desc := "(I)I" } : Jvm.MethodName)) ∈ gtbl := gt_of 1243 (by decide +kernel) (by decide +kernel)
theorem tw1154 : (Jvm.Cond.code ({ cls := "LeafFormula", name := "letter", desc := "(II)I" } : Jvm.MethodName) prog_1_method_15_code (4 : Nat) (Option.some Jvm.ClassFile.FieldType.int)) ∈ gtbl := gt_of 1247 (by decide +kernel) (by decide +kernel)
theorem tw1155 : (Jvm.Cond.methodLink "LeafFormula" (167 : Nat) ({ cls := "LeafFormula", name := "byteOf", desc := "(Ljava/lang/String;I)I" } : Jvm.MethodName)) ∈ gtbl := gt_of 1248 (by decide +kernel) (by decide +kernel)
theorem tw1157 : (Jvm.Cond.instanceMethod ({ cls := "LeafFormula", name := "byteOf", desc := "(Ljava/lang/String;I)I" } : Jvm.MethodName)) ∈ gtbl := gt_of 1250 (by decide +kernel) (by decide +kernel)
theorem tw1158 : (Jvm.Cond.code ({ cls := "LeafFormula", name := "byteOf", desc := "(Ljava/lang/String;I)I" } : Jvm.MethodName) prog_1_method_30_code (3 : Nat) (Option.some Jvm.ClassFile.FieldType.int)) ∈ gtbl := gt_of 1251 (by decide +kernel) (by decide +kernel)
theorem tw1159 : (Jvm.Cond.methodLink "LeafFormula" (234 : Nat) ({ cls := "java/lang/String", name := "length", desc := "()I" } : Jvm.MethodName)) ∈ gtbl := gt_of 1252 (by decide +kernel) (by decide +kernel)
theorem tw1160 : (Jvm.Cond.methodLink "LeafFormula" (236 : Nat) ({ cls := "java/lang/String", name := "charAt", desc := "(I)C" } : Jvm.MethodName)) ∈ gtbl := gt_of 1253 (by decide +kernel) (by decide +kernel)
theorem tw1164 : (Jvm.Cond.code ({ cls := "LeafFormula", name := "name", desc := "(III)I" } : Jvm.MethodName) prog_1_method_16_code (5 : Nat) (Option.some Jvm.ClassFile.FieldType.int)) ∈ gtbl := gt_of 1257 (by decide +kernel) (by decide +kernel)
theorem tw1165 : (Jvm.Cond.methodLink "LeafFormula" (171 : Nat) ({ cls := "LeafFormula$Scribe", name := "nameText", desc := "(LLeafFormula$Book;I)Ljava/lang/String;" } : Jvm.MethodName)) ∈ gtbl := gt_of 1258 (by decide +kernel) (by decide +kernel)
theorem tw1166 : (Jvm.Cond.instanceMethod ({ cls := "LeafFormula$Scribe", name := "nameText", desc := "(LLeafFormula$Book;I)Ljava/lang/String;" } : Jvm.MethodName)) ∈ gtbl := gt_of 1259 (by decide +kernel) (by decide +kernel)
theorem tw1167 : (Jvm.Cond.selects "LeafFormula$Scribe" ({ cls := "LeafFormula$Scribe", name := "nameText", desc := "(LLeafFormula$Book;I)Ljava/lang/String;" } : Jvm.MethodName) ({ cls := "LeafFormula$Scribe", name := "nameText", desc := "(LLeafFormula$Book;I)Ljava/lang/String;" } : Jvm.MethodName)) ∈ gtbl := gt_of 1260 (by decide +kernel) (by decide +kernel)
theorem tw1168 : (Jvm.Cond.code ({ cls := "LeafFormula$Scribe", name := "nameText", desc := "(LLeafFormula$Book;I)Ljava/lang/String;" } : Jvm.MethodName) prog_11_method_2_code (3 : Nat) (Option.some (Jvm.ClassFile.FieldType.object "java/lang/String"))) ∈ gtbl := gt_of 1261 (by decide +kernel) (by decide +kernel)
theorem tw1172 : (Jvm.Cond.code ({ cls := "LeafFormula", name := "same", desc := "(II)I" } : Jvm.MethodName) prog_1_method_17_code (5 : Nat) (Option.some Jvm.ClassFile.FieldType.int)) ∈ gtbl := gt_of 1265 (by decide +kernel) (by decide +kernel)
theorem tw1173 : (Jvm.Cond.methodLink "LeafFormula" (175 : Nat) ({ cls := "java/lang/String", name := "equals", desc := "(Ljava/lang/Object;)Z" } : Jvm.MethodName)) ∈ gtbl := gt_of 1266 (by decide +kernel) (by decide +kernel)
theorem tw1174 : (Jvm.Cond.instanceMethod ({ cls := "java/lang/String", name := "equals", desc := "(Ljava/lang/Object;)Z" } : Jvm.MethodName)) ∈ gtbl := gt_of 1267 (by decide +kernel) (by decide +kernel)
theorem tw1175 : (Jvm.Cond.selects "java/lang/String" ({ cls := "java/lang/String", name := "equals", desc := "(Ljava/lang/Object;)Z" } : Jvm.MethodName) ({ cls := "java/lang/String", name := "equals", desc := "(Ljava/lang/Object;)Z" } : Jvm.MethodName)) ∈ gtbl := gt_of 1268 (by decide +kernel) (by decide +kernel)
theorem tw1176 : (Jvm.Cond.code ({ cls := "java/lang/String", name := "equals", desc := "(Ljava/lang/Object;)Z" } : Jvm.MethodName) prog_21_method_66_code (3 : Nat) (Option.some Jvm.ClassFile.FieldType.boolean)) ∈ gtbl := gt_of 1269 (by decide +kernel) (by decide +kernel)
theorem tw1177 : (Jvm.Cond.classLink "java/lang/String" (10 : Nat) "java/lang/String") ∈ gtbl := gt_of 1270 (by decide +kernel) (by decide +kernel)
theorem tw1178 : (Jvm.Cond.methodLink "java/lang/String" (541 : Nat) ({ cls := "java/lang/StringLatin1", name := "equals", desc := "([B[B)Z" } : Jvm.MethodName)) ∈ gtbl := gt_of 1271 (by decide +kernel) (by decide +kernel)
theorem tw1179 : (Jvm.Cond.static ({ cls := "java/lang/StringLatin1", name := "equals", desc := "([B[B)Z" } : Jvm.MethodName)) ∈ gtbl := gt_of 1272 (by decide +kernel) (by decide +kernel)
theorem tw1180 : (Jvm.Cond.code ({ cls := "java/lang/StringLatin1", name := "equals", desc := "([B[B)Z" } : Jvm.MethodName) prog_23_method_13_code (3 : Nat) (Option.some Jvm.ClassFile.FieldType.boolean)) ∈ gtbl := gt_of 1273 (by decide +kernel) (by decide +kernel)
theorem tw1184 : (Jvm.Cond.code ({ cls := "LeafFormula", name := "sheets", desc := "(II)I" } : Jvm.MethodName) prog_1_method_18_code (4 : Nat) (Option.some Jvm.ClassFile.FieldType.int)) ∈ gtbl := gt_of 1277 (by decide +kernel) (by decide +kernel)
theorem tw1185 : (Jvm.Cond.methodLink "LeafFormula" (181 : Nat) ({ cls := "LeafFormula", name := "isFormat", desc := "(I)Z" } : Jvm.MethodName)) ∈ gtbl := gt_of 1278 (by decide +kernel) (by decide +kernel)
theorem tw1186 : (Jvm.Cond.static ({ cls := "LeafFormula", name := "isFormat", desc := "(I)Z" } : Jvm.MethodName)) ∈ gtbl := gt_of 1279 (by decide +kernel) (by decide +kernel)
theorem tw1187 : (Jvm.Cond.code ({ cls := "LeafFormula", name := "isFormat", desc := "(I)Z" } : Jvm.MethodName) prog_1_method_35_code (1 : Nat) (Option.some Jvm.ClassFile.FieldType.boolean)) ∈ gtbl := gt_of 1280 (by decide +kernel) (by decide +kernel)
theorem tw1188 : (Jvm.Cond.methodLink "LeafFormula" (184 : Nat) ({ cls := "LeafFormula$Book", name := "sheetsAhead", desc := "(II)I" } : Jvm.MethodName)) ∈ gtbl := gt_of 1281 (by decide +kernel) (by decide +kernel)
theorem tw1189 : (Jvm.Cond.instanceMethod ({ cls := "LeafFormula$Book", name := "sheetsAhead", desc := "(II)I" } : Jvm.MethodName)) ∈ gtbl := gt_of 1282 (by decide +kernel) (by decide +kernel)
theorem tw1190 : (Jvm.Cond.selects "LeafFormula$Book" ({ cls := "LeafFormula$Book", name := "sheetsAhead", desc := "(II)I" } : Jvm.MethodName) ({ cls := "LeafFormula$Book", name := "sheetsAhead", desc := "(II)I" } : Jvm.MethodName)) ∈ gtbl := gt_of 1283 (by decide +kernel) (by decide +kernel)
theorem tw1191 : (Jvm.Cond.code ({ cls := "LeafFormula$Book", name := "sheetsAhead", desc := "(II)I" } : Jvm.MethodName) prog_2_method_14_code (6 : Nat) (Option.some Jvm.ClassFile.FieldType.int)) ∈ gtbl := gt_of 1284 (by decide +kernel) (by decide +kernel)
theorem tw1192 : (Jvm.Cond.methodLink "LeafFormula$Book" (135 : Nat) ({ cls := "LeafFormula$Book", name := "sheetInGathering", desc := "(III)I" } : Jvm.MethodName)) ∈ gtbl := gt_of 1285 (by decide +kernel) (by decide +kernel)
theorem tw1193 : (Jvm.Cond.static ({ cls := "LeafFormula$Book", name := "sheetInGathering", desc := "(III)I" } : Jvm.MethodName)) ∈ gtbl := gt_of 1286 (by decide +kernel) (by decide +kernel)
theorem tw1194 : (Jvm.Cond.code ({ cls := "LeafFormula$Book", name := "sheetInGathering", desc := "(III)I" } : Jvm.MethodName) prog_2_method_18_code (4 : Nat) (Option.some Jvm.ClassFile.FieldType.int)) ∈ gtbl := gt_of 1287 (by decide +kernel) (by decide +kernel)
theorem tw1195 : (Jvm.Cond.methodLink "LeafFormula$Book" (145 : Nat) ({ cls := "java/lang/Math", name := "min", desc := "(II)I" } : Jvm.MethodName)) ∈ gtbl := gt_of 1288 (by decide +kernel) (by decide +kernel)
theorem tw1199 : (Jvm.Cond.code ({ cls := "LeafFormula", name := "sheet", desc := "(IIII)I" } : Jvm.MethodName) prog_1_method_19_code (6 : Nat) (Option.some Jvm.ClassFile.FieldType.int)) ∈ gtbl := gt_of 1292 (by decide +kernel) (by decide +kernel)
theorem tw1200 : (Jvm.Cond.methodLink "LeafFormula" (187 : Nat) ({ cls := "LeafFormula$Book", name := "sheetOf", desc := "(II)I" } : Jvm.MethodName)) ∈ gtbl := gt_of 1293 (by decide +kernel) (by decide +kernel)
theorem tw1201 : (Jvm.Cond.instanceMethod ({ cls := "LeafFormula$Book", name := "sheetOf", desc := "(II)I" } : Jvm.MethodName)) ∈ gtbl := gt_of 1294 (by decide +kernel) (by decide +kernel)
theorem tw1202 : (Jvm.Cond.selects "LeafFormula$Book" ({ cls := "LeafFormula$Book", name := "sheetOf", desc := "(II)I" } : Jvm.MethodName) ({ cls := "LeafFormula$Book", name := "sheetOf", desc := "(II)I" } : Jvm.MethodName)) ∈ gtbl := gt_of 1295 (by decide +kernel) (by decide +kernel)
theorem tw1203 : (Jvm.Cond.code ({ cls := "LeafFormula$Book", name := "sheetOf", desc := "(II)I" } : Jvm.MethodName) prog_2_method_15_code (4 : Nat) (Option.some Jvm.ClassFile.FieldType.int)) ∈ gtbl := gt_of 1296 (by decide +kernel) (by decide +kernel)
theorem tw1204 : (Jvm.Cond.methodLink "LeafFormula$Book" (139 : Nat) ({ cls := "LeafFormula$Book", name := "sheetsAhead", desc := "(II)I" } : Jvm.MethodName)) ∈ gtbl := gt_of 1297 (by decide +kernel) (by decide +kernel)
theorem tw1205 : (Jvm.Cond.methodLink "LeafFormula" (190 : Nat) ({ cls := "LeafFormula$Book", name := "numberOnSheet", desc := "(II)I" } : Jvm.MethodName)) ∈ gtbl := gt_of 1298 (by decide +kernel) (by decide +kernel)
theorem tw1206 : (Jvm.Cond.instanceMethod ({ cls := "LeafFormula$Book", name := "numberOnSheet", desc := "(II)I" } : Jvm.MethodName)) ∈ gtbl := gt_of 1299 (by decide +kernel) (by decide +kernel)
theorem tw1207 : (Jvm.Cond.selects "LeafFormula$Book" ({ cls := "LeafFormula$Book", name := "numberOnSheet", desc := "(II)I" } : Jvm.MethodName) ({ cls := "LeafFormula$Book", name := "numberOnSheet", desc := "(II)I" } : Jvm.MethodName)) ∈ gtbl := gt_of 1300 (by decide +kernel) (by decide +kernel)
theorem tw1208 : (Jvm.Cond.code ({ cls := "LeafFormula$Book", name := "numberOnSheet", desc := "(II)I" } : Jvm.MethodName) prog_2_method_16_code (8 : Nat) (Option.some Jvm.ClassFile.FieldType.int)) ∈ gtbl := gt_of 1301 (by decide +kernel) (by decide +kernel)
theorem tw1212 : (Jvm.Cond.code ({ cls := "LeafFormula", name := "forme", desc := "(IIII)I" } : Jvm.MethodName) prog_1_method_20_code (6 : Nat) (Option.some Jvm.ClassFile.FieldType.int)) ∈ gtbl := gt_of 1305 (by decide +kernel) (by decide +kernel)
theorem tw1213 : (Jvm.Cond.methodLink "LeafFormula" (193 : Nat) ({ cls := "LeafFormula$Book", name := "formeOf", desc := "(III)I" } : Jvm.MethodName)) ∈ gtbl := gt_of 1306 (by decide +kernel) (by decide +kernel)
theorem tw1214 : (Jvm.Cond.instanceMethod ({ cls := "LeafFormula$Book", name := "formeOf", desc := "(III)I" } : Jvm.MethodName)) ∈ gtbl := gt_of 1307 (by decide +kernel) (by decide +kernel)
theorem tw1215 : (Jvm.Cond.selects "LeafFormula$Book" ({ cls := "LeafFormula$Book", name := "formeOf", desc := "(III)I" } : Jvm.MethodName) ({ cls := "LeafFormula$Book", name := "formeOf", desc := "(III)I" } : Jvm.MethodName)) ∈ gtbl := gt_of 1308 (by decide +kernel) (by decide +kernel)
theorem tw1216 : (Jvm.Cond.code ({ cls := "LeafFormula$Book", name := "formeOf", desc := "(III)I" } : Jvm.MethodName) prog_2_method_17_code (7 : Nat) (Option.some Jvm.ClassFile.FieldType.int)) ∈ gtbl := gt_of 1309 (by decide +kernel) (by decide +kernel)
theorem tw1217 : (Jvm.Cond.methodLink "LeafFormula$Book" (142 : Nat) ({ cls := "LeafFormula$Book", name := "numberOnSheet", desc := "(II)I" } : Jvm.MethodName)) ∈ gtbl := gt_of 1310 (by decide +kernel) (by decide +kernel)
theorem tw1221 : (Jvm.Cond.code ({ cls := "LeafFormula", name := "state", desc := "(II)I" } : Jvm.MethodName) prog_1_method_21_code (5 : Nat) (Option.some Jvm.ClassFile.FieldType.int)) ∈ gtbl := gt_of 1314 (by decide +kernel) (by decide +kernel)
theorem tw1222 : (Jvm.Cond.methodLink "LeafFormula" (197 : Nat) ({ cls := "LeafFormula", name := "copyAt", desc := "(I)LLeafFormula$Copy;" } : Jvm.MethodName)) ∈ gtbl := gt_of 1315 (by decide +kernel) (by decide +kernel)
theorem tw1224 : (Jvm.Cond.instanceMethod ({ cls := "LeafFormula", name := "copyAt", desc := "(I)LLeafFormula$Copy;" } : Jvm.MethodName)) ∈ gtbl := gt_of 1317 (by decide +kernel) (by decide +kernel)
theorem tw1225 : (Jvm.Cond.code ({ cls := "LeafFormula", name := "copyAt", desc := "(I)LLeafFormula$Copy;" } : Jvm.MethodName) prog_1_method_34_code (2 : Nat) (Option.some (Jvm.ClassFile.FieldType.object "LeafFormula$Copy"))) ∈ gtbl := gt_of 1318 (by decide +kernel) (by decide +kernel)
theorem tw1226 : (Jvm.Cond.methodLink "LeafFormula" (204 : Nat) ({ cls := "LeafFormula$Copy", name := "rowOf", desc := "(I)LLeafFormula$Row;" } : Jvm.MethodName)) ∈ gtbl := gt_of 1319 (by decide +kernel) (by decide +kernel)
theorem tw1227 : (Jvm.Cond.instanceMethod ({ cls := "LeafFormula$Copy", name := "rowOf", desc := "(I)LLeafFormula$Row;" } : Jvm.MethodName)) ∈ gtbl := gt_of 1320 (by decide +kernel) (by decide +kernel)
theorem tw1228 : (Jvm.Cond.selects "LeafFormula$Copy" ({ cls := "LeafFormula$Copy", name := "rowOf", desc := "(I)LLeafFormula$Row;" } : Jvm.MethodName) ({ cls := "LeafFormula$Copy", name := "rowOf", desc := "(I)LLeafFormula$Row;" } : Jvm.MethodName)) ∈ gtbl := gt_of 1321 (by decide +kernel) (by decide +kernel)
theorem tw1229 : (Jvm.Cond.code ({ cls := "LeafFormula$Copy", name := "rowOf", desc := "(I)LLeafFormula$Row;" } : Jvm.MethodName) prog_4_method_2_code (2 : Nat) (Option.some (Jvm.ClassFile.FieldType.object "LeafFormula$Row"))) ∈ gtbl := gt_of 1322 (by decide +kernel) (by decide +kernel)
theorem tw1233 : (Jvm.Cond.code ({ cls := "LeafFormula", name := "entry", desc := "(II)I" } : Jvm.MethodName) prog_1_method_22_code (4 : Nat) (Option.some Jvm.ClassFile.FieldType.int)) ∈ gtbl := gt_of 1326 (by decide +kernel) (by decide +kernel)
theorem tw1234 : (Jvm.Cond.methodLink "LeafFormula" (212 : Nat) ({ cls := "LeafFormula", name := "numberOf", desc := "(LLeafFormula$Row;I)I" } : Jvm.MethodName)) ∈ gtbl := gt_of 1327 (by decide +kernel) (by decide +kernel)
theorem tw1236 : (Jvm.Cond.instanceMethod ({ cls := "LeafFormula", name := "numberOf", desc := "(LLeafFormula$Row;I)I" } : Jvm.MethodName)) ∈ gtbl := gt_of 1329 (by decide +kernel) (by decide +kernel)
theorem tw1237 : (Jvm.Cond.code ({ cls := "LeafFormula", name := "numberOf", desc := "(LLeafFormula$Row;I)I" } : Jvm.MethodName) prog_1_method_31_code (3 : Nat) (Option.some Jvm.ClassFile.FieldType.int)) ∈ gtbl := gt_of 1330 (by decide +kernel) (by decide +kernel)
theorem tw1238 : (Jvm.Cond.methodLink "LeafFormula" (240 : Nat) ({ cls := "LeafFormula$Row", name := "get", desc := "(I)I" } : Jvm.MethodName)) ∈ gtbl := gt_of 1331 (by decide +kernel) (by decide +kernel)
theorem tw1242 : (Jvm.Cond.code ({ cls := "LeafFormula", name := "told", desc := "(III)I" } : Jvm.MethodName) prog_1_method_23_code (6 : Nat) (Option.some Jvm.ClassFile.FieldType.int)) ∈ gtbl := gt_of 1335 (by decide +kernel) (by decide +kernel)
theorem tw1246 : (Jvm.Cond.code ({ cls := "LeafFormula", name := "note", desc := "(II)I" } : Jvm.MethodName) prog_1_method_24_code (4 : Nat) (Option.some Jvm.ClassFile.FieldType.int)) ∈ gtbl := gt_of 1339 (by decide +kernel) (by decide +kernel)
theorem tw1250 : (Jvm.Cond.code ({ cls := "LeafFormula", name := "apart", desc := "(II)I" } : Jvm.MethodName) prog_1_method_25_code (5 : Nat) (Option.some Jvm.ClassFile.FieldType.int)) ∈ gtbl := gt_of 1343 (by decide +kernel) (by decide +kernel)
theorem tw1251 : (Jvm.Cond.methodLink "LeafFormula" (219 : Nat) ({ cls := "LeafFormula$Collator", name := "countApart", desc := "(LLeafFormula$Copy;LLeafFormula$Copy;)I" } : Jvm.MethodName)) ∈ gtbl := gt_of 1344 (by decide +kernel) (by decide +kernel)
theorem tw1252 : (Jvm.Cond.instanceMethod ({ cls := "LeafFormula$Collator", name := "countApart", desc := "(LLeafFormula$Copy;LLeafFormula$Copy;)I" } : Jvm.MethodName)) ∈ gtbl := gt_of 1345 (by decide +kernel) (by decide +kernel)
theorem tw1253 : (Jvm.Cond.selects "LeafFormula$Collator" ({ cls := "LeafFormula$Collator", name := "countApart", desc := "(LLeafFormula$Copy;LLeafFormula$Copy;)I" } : Jvm.MethodName) ({ cls := "LeafFormula$Collator", name := "countApart", desc := "(LLeafFormula$Copy;LLeafFormula$Copy;)I" } : Jvm.MethodName)) ∈ gtbl := gt_of 1346 (by decide +kernel) (by decide +kernel)
theorem tw1254 : (Jvm.Cond.code ({ cls := "LeafFormula$Collator", name := "countApart", desc := "(LLeafFormula$Copy;LLeafFormula$Copy;)I" } : Jvm.MethodName) prog_3_method_3_code (5 : Nat) (Option.some Jvm.ClassFile.FieldType.int)) ∈ gtbl := gt_of 1347 (by decide +kernel) (by decide +kernel)
theorem tw1255 : (Jvm.Cond.methodLink "LeafFormula$Collator" (71 : Nat) ({ cls := "LeafFormula$Collator", name := "markBoth", desc := "(LLeafFormula$Copy;LLeafFormula$Copy;)V" } : Jvm.MethodName)) ∈ gtbl := gt_of 1348 (by decide +kernel) (by decide +kernel)
theorem tw1257 : (Jvm.Cond.instanceMethod ({ cls := "LeafFormula$Collator", name := "markBoth", desc := "(LLeafFormula$Copy;LLeafFormula$Copy;)V" } : Jvm.MethodName)) ∈ gtbl := gt_of 1350 (by decide +kernel) (by decide +kernel)
theorem tw1258 : (Jvm.Cond.code ({ cls := "LeafFormula$Collator", name := "markBoth", desc := "(LLeafFormula$Copy;LLeafFormula$Copy;)V" } : Jvm.MethodName) prog_3_method_7_code (5 : Nat) (Option.none : Option Jvm.ClassFile.FieldType)) ∈ gtbl := gt_of 1351 (by decide +kernel) (by decide +kernel)
theorem tw1262 : (Jvm.Cond.code ({ cls := "LeafFormula", name := "together", desc := "(II)I" } : Jvm.MethodName) prog_1_method_26_code (5 : Nat) (Option.some Jvm.ClassFile.FieldType.int)) ∈ gtbl := gt_of 1355 (by decide +kernel) (by decide +kernel)
theorem tw1263 : (Jvm.Cond.methodLink "LeafFormula" (223 : Nat) ({ cls := "LeafFormula$Collator", name := "listTogether", desc := "(LLeafFormula$Copy;LLeafFormula$Copy;LLeafFormula$Row;)V" } : Jvm.MethodName)) ∈ gtbl := gt_of 1356 (by decide +kernel) (by decide +kernel)
theorem tw1264 : (Jvm.Cond.instanceMethod ({ cls := "LeafFormula$Collator", name := "listTogether", desc := "(LLeafFormula$Copy;LLeafFormula$Copy;LLeafFormula$Row;)V" } : Jvm.MethodName)) ∈ gtbl := gt_of 1357 (by decide +kernel) (by decide +kernel)
theorem tw1265 : (Jvm.Cond.selects "LeafFormula$Collator" ({ cls := "LeafFormula$Collator", name := "listTogether", desc := "(LLeafFormula$Copy;LLeafFormula$Copy;LLeafFormula$Row;)V" } : Jvm.MethodName) ({ cls := "LeafFormula$Collator", name := "listTogether", desc := "(LLeafFormula$Copy;LLeafFormula$Copy;LLeafFormula$Row;)V" } : Jvm.MethodName)) ∈ gtbl := gt_of 1358 (by decide +kernel) (by decide +kernel)
theorem tw1266 : (Jvm.Cond.code ({ cls := "LeafFormula$Collator", name := "listTogether", desc := "(LLeafFormula$Copy;LLeafFormula$Copy;LLeafFormula$Row;)V" } : Jvm.MethodName) prog_3_method_4_code (5 : Nat) (Option.none : Option Jvm.ClassFile.FieldType)) ∈ gtbl := gt_of 1359 (by decide +kernel) (by decide +kernel)
theorem tw1267 : (Jvm.Cond.methodLink "LeafFormula$Collator" (75 : Nat) ({ cls := "LeafFormula$Row", name := "clear", desc := "()V" } : Jvm.MethodName)) ∈ gtbl := gt_of 1360 (by decide +kernel) (by decide +kernel)
theorem tw1271 : (Jvm.Cond.code ({ cls := "LeafFormula", name := "status", desc := "()I" } : Jvm.MethodName) prog_1_method_27_code (1 : Nat) (Option.some Jvm.ClassFile.FieldType.int)) ∈ gtbl := gt_of 1364 (by decide +kernel) (by decide +kernel)
theorem nw57 : (Jvm.Cond.fieldLinkNest "LeafFormula" (208 : Nat) "LeafFormula$Row" "length" "I" "LeafFormula") ∈ ntbl := nt_of 57 (by decide +kernel) (by decide +kernel)
theorem nw890 : (Jvm.Cond.fieldLinkNest "LeafFormula" (163 : Nat) "LeafFormula$Book" "written" "Ljava/lang/String;" "LeafFormula") ∈ ntbl := nt_of 890 (by decide +kernel) (by decide +kernel)
theorem nw987 : (Jvm.Cond.fieldLinkNest "LeafFormula" (201 : Nat) "LeafFormula$Copy" "bookNumber" "I" "LeafFormula") ∈ ntbl := nt_of 987 (by decide +kernel) (by decide +kernel)
theorem nw991 : (Jvm.Cond.fieldLinkNest "LeafFormula" (227 : Nat) "LeafFormula$Copy" "source" "LLeafFormula$Book;" "LeafFormula") ∈ ntbl := nt_of 991 (by decide +kernel) (by decide +kernel)
theorem nw995 : (Jvm.Cond.fieldLinkNest "LeafFormula" (209 : Nat) "LeafFormula$Copy" "entries" "LLeafFormula$Row;" "LeafFormula") ∈ ntbl := nt_of 995 (by decide +kernel) (by decide +kernel)
theorem pw39 : Cond.selects "LeafFormula" ⟨"LeafFormula", "bookWithLeaf", "(II)LLeafFormula$Book;"⟩ ⟨"LeafFormula", "bookWithLeaf", "(II)LLeafFormula$Book;"⟩ ∈ gtbl := gt_of 39 (by decide +kernel) (by decide +kernel)
theorem pw40 : Cond.selects "LeafFormula" ⟨"LeafFormula", "byteOf", "(Ljava/lang/String;I)I"⟩ ⟨"LeafFormula", "byteOf", "(Ljava/lang/String;I)I"⟩ ∈ gtbl := gt_of 40 (by decide +kernel) (by decide +kernel)
theorem pw41 : Cond.selects "LeafFormula" ⟨"LeafFormula", "copyAt", "(I)LLeafFormula$Copy;"⟩ ⟨"LeafFormula", "copyAt", "(I)LLeafFormula$Copy;"⟩ ∈ gtbl := gt_of 41 (by decide +kernel) (by decide +kernel)
theorem pw42 : Cond.selects "LeafFormula" ⟨"LeafFormula", "numberOf", "(LLeafFormula$Row;I)I"⟩ ⟨"LeafFormula", "numberOf", "(LLeafFormula$Row;I)I"⟩ ∈ gtbl := gt_of 42 (by decide +kernel) (by decide +kernel)
theorem pw43 : Cond.selects "LeafFormula$Collator" ⟨"LeafFormula$Collator", "markBoth", "(LLeafFormula$Copy;LLeafFormula$Copy;)V"⟩ ⟨"LeafFormula$Collator", "markBoth", "(LLeafFormula$Copy;LLeafFormula$Copy;)V"⟩ ∈ gtbl := gt_of 43 (by decide +kernel) (by decide +kernel)
/-! X11_bookWithLeaf -/
theorem dX11_bookWithLeaf_0 : decode cX11_bookWithLeaf 0 = .ok (.aload_n 0, 1) := by decide +kernel
theorem dX11_bookWithLeaf_1 : decode cX11_bookWithLeaf 1 = .ok (.iload_n 1, 1) := by decide +kernel
theorem dX11_bookWithLeaf_2 : decode cX11_bookWithLeaf 2 = .ok (.invokevirtual 102, 3) := by decide +kernel
theorem dX11_bookWithLeaf_5 : decode cX11_bookWithLeaf 5 = .ok (.astore_n 3, 1) := by decide +kernel
theorem dX11_bookWithLeaf_6 : decode cX11_bookWithLeaf 6 = .ok (.aload_n 3, 1) := by decide +kernel
theorem dX11_bookWithLeaf_7 : decode cX11_bookWithLeaf 7 = .ok (.ifnull 15, 3) := by decide +kernel
theorem dX11_bookWithLeaf_10 : decode cX11_bookWithLeaf 10 = .ok (.iload_n 2, 1) := by decide +kernel
theorem dX11_bookWithLeaf_11 : decode cX11_bookWithLeaf 11 = .ok (.ifCond .lt 11, 3) := by decide +kernel
theorem dX11_bookWithLeaf_14 : decode cX11_bookWithLeaf 14 = .ok (.iload_n 2, 1) := by decide +kernel
theorem dX11_bookWithLeaf_15 : decode cX11_bookWithLeaf 15 = .ok (.aload_n 3, 1) := by decide +kernel
theorem dX11_bookWithLeaf_16 : decode cX11_bookWithLeaf 16 = .ok (.invokevirtual 153, 3) := by decide +kernel
theorem dX11_bookWithLeaf_19 : decode cX11_bookWithLeaf 19 = .ok (.if_icmp .lt 7, 3) := by decide +kernel
theorem dX11_bookWithLeaf_22 : decode cX11_bookWithLeaf 22 = .ok (.aconst_null, 1) := by decide +kernel
theorem dX11_bookWithLeaf_23 : decode cX11_bookWithLeaf 23 = .ok (.goto 4, 3) := by decide +kernel
theorem dX11_bookWithLeaf_26 : decode cX11_bookWithLeaf 26 = .ok (.aload_n 3, 1) := by decide +kernel
theorem dX11_bookWithLeaf_27 : decode cX11_bookWithLeaf 27 = .ok (.areturn, 1) := by decide +kernel
def X11_bookWithLeaf (this : Nat) (a1 : Int32) (a2 : Int32) : MM (Option Nat) :=
  mb (wc 12 (some this) fun t => X11_bookAt t a1) fun v1 =>
  if v1 = none then (mr none) else (if a2 < 0 then (mr none) else (mb (wc 2 v1 fun t => X0_leafCount t ) fun v2 =>
  if a2 < v2 then (mr v1) else (mr none)))
set_option maxRecDepth 100000 in
set_option maxHeartbeats 4000000 in
theorem s_X11_bookWithLeaf (G : GG) (this : Nat) (a1 : Int32) (a2 : Int32) : Sn G yX11_bookWithLeaf cX11_bookWithLeaf 4 (some (FieldType.object "LeafFormula$Book")) 1 21 (fun v : Option Nat => some (va_rf v)) (X11_bookWithLeaf this a1 a2) 0 [some (va_rf (some this)), some (.int a1), some (.int a2), none] [] := by
  unfold X11_bookWithLeaf
  refine sn_aload_n (v := (some this)) (pc' := 1) dX11_bookWithLeaf_0 rfl rfl rfl ?_
  refine sn_iload_n (v := a1) (pc' := 2) dX11_bookWithLeaf_1 rfl rfl rfl ?_
  refine sn_cV (r := (some this)) (st := []) (As := [.int a1]) (st2 := (fun v => va_rf v :: [])) (pc' := 5) ci_12 (fun t => c_X11_bookAt G t a1) cw_X11_bookAt rfl rfl tw910 pw22 tw912 rfl rfl cat_nil rfl (fun _ => rfl) dX11_bookWithLeaf_2 rfl (fun v1 => ?_)
  refine sn_astore_n (v := v1) (L' := [some (va_rf (some this)), some (.int a1), some (.int a2), some (va_rf v1)]) (pc' := 6) dX11_bookWithLeaf_5 rfl rfl rfl rfl ?_
  refine sn_aload_n (v := v1) (pc' := 7) dX11_bookWithLeaf_6 rfl rfl rfl ?_
  refine sn_ifnull (pt := 22) (pf := 10) dX11_bookWithLeaf_7 rfl rfl ?_ ?_
  · refine sn_null (pc' := 23) dX11_bookWithLeaf_22 rfl ?_
    refine sn_goto (pc' := 27) dX11_bookWithLeaf_23 rfl ?_
    exact sn_aret dX11_bookWithLeaf_27 rfl (Or.inl ⟨_, rfl⟩)
  · refine sn_iload_n (v := a2) (pc' := 11) dX11_bookWithLeaf_10 rfl rfl rfl ?_
    refine sn_if_lt (pt := 22) (pf := 14) dX11_bookWithLeaf_11 rfl rfl ?_ ?_
    · refine sn_null (pc' := 23) dX11_bookWithLeaf_22 rfl ?_
      refine sn_goto (pc' := 27) dX11_bookWithLeaf_23 rfl ?_
      exact sn_aret dX11_bookWithLeaf_27 rfl (Or.inl ⟨_, rfl⟩)
    · refine sn_iload_n (v := a2) (pc' := 15) dX11_bookWithLeaf_14 rfl rfl rfl ?_
      refine sn_aload_n (v := v1) (pc' := 16) dX11_bookWithLeaf_15 rfl rfl rfl ?_
      refine sn_cV (r := v1) (st := [.int a2]) (As := []) (st2 := (fun v => .int v :: [.int a2])) (pc' := 19) ci_2 (fun t => c_X0_leafCount G t ) cw_X0_leafCount rfl rfl tw1137 tw863 tw862 rfl rfl (cat_i cat_nil) rfl (fun _ => rfl) dX11_bookWithLeaf_16 rfl (fun v2 => ?_)
      refine sn_ic_lt (pt := 26) (pf := 22) dX11_bookWithLeaf_19 rfl rfl ?_ ?_
      · refine sn_aload_n (v := v1) (pc' := 27) dX11_bookWithLeaf_26 rfl rfl rfl ?_
        exact sn_aret dX11_bookWithLeaf_27 rfl (Or.inl ⟨_, rfl⟩)
      · refine sn_null (pc' := 23) dX11_bookWithLeaf_22 rfl ?_
        refine sn_goto (pc' := 27) dX11_bookWithLeaf_23 rfl ?_
        exact sn_aret dX11_bookWithLeaf_27 rfl (Or.inl ⟨_, rfl⟩)
theorem c_X11_bookWithLeaf (G : GG) (this : Nat) (a1 : Int32) (a2 : Int32) : Cal G yX11_bookWithLeaf cX11_bookWithLeaf 4 (some (FieldType.object "LeafFormula$Book")) 1 21 (fun v : Option Nat => some (va_rf v)) (X11_bookWithLeaf this a1 a2) [.ref this, .int a1, .int a2] :=
  Cal.of (by decide) (cat_t (cat_i (cat_i cat_nil))) rfl (sn_weak (le_s (le_s (le_s (le_z le_e)))) (s_X11_bookWithLeaf G this a1 a2))
theorem cw_X11_bookWithLeaf : CW yX11_bookWithLeaf cX11_bookWithLeaf 4 (some (FieldType.object "LeafFormula$Book")) 2 := ⟨tw1145, tw1, by decide, by decide +kernel⟩
/-! X0_aboutLeaf -/
theorem dX0_aboutLeaf_0 : decode cX0_aboutLeaf 0 = .ok (.iload_n 2, 1) := by decide +kernel
theorem dX0_aboutLeaf_1 : decode cX0_aboutLeaf 1 = .ok (.tableswitch 67 0 3 #[31, 40, 49, 58], 31) := by decide +kernel
theorem dX0_aboutLeaf_32 : decode cX0_aboutLeaf 32 = .ok (.aload_n 0, 1) := by decide +kernel
theorem dX0_aboutLeaf_33 : decode cX0_aboutLeaf 33 = .ok (.getfield 27, 3) := by decide +kernel
theorem dX0_aboutLeaf_36 : decode cX0_aboutLeaf 36 = .ok (.iload_n 1, 1) := by decide +kernel
theorem dX0_aboutLeaf_37 : decode cX0_aboutLeaf 37 = .ok (.invokevirtual 96, 3) := by decide +kernel
theorem dX0_aboutLeaf_40 : decode cX0_aboutLeaf 40 = .ok (.ireturn, 1) := by decide +kernel
theorem dX0_aboutLeaf_41 : decode cX0_aboutLeaf 41 = .ok (.aload_n 0, 1) := by decide +kernel
theorem dX0_aboutLeaf_42 : decode cX0_aboutLeaf 42 = .ok (.getfield 31, 3) := by decide +kernel
theorem dX0_aboutLeaf_45 : decode cX0_aboutLeaf 45 = .ok (.iload_n 1, 1) := by decide +kernel
theorem dX0_aboutLeaf_46 : decode cX0_aboutLeaf 46 = .ok (.invokevirtual 96, 3) := by decide +kernel
theorem dX0_aboutLeaf_49 : decode cX0_aboutLeaf 49 = .ok (.ireturn, 1) := by decide +kernel
theorem dX0_aboutLeaf_50 : decode cX0_aboutLeaf 50 = .ok (.aload_n 0, 1) := by decide +kernel
theorem dX0_aboutLeaf_51 : decode cX0_aboutLeaf 51 = .ok (.getfield 34, 3) := by decide +kernel
theorem dX0_aboutLeaf_54 : decode cX0_aboutLeaf 54 = .ok (.iload_n 1, 1) := by decide +kernel
theorem dX0_aboutLeaf_55 : decode cX0_aboutLeaf 55 = .ok (.invokevirtual 96, 3) := by decide +kernel
theorem dX0_aboutLeaf_58 : decode cX0_aboutLeaf 58 = .ok (.ireturn, 1) := by decide +kernel
theorem dX0_aboutLeaf_59 : decode cX0_aboutLeaf 59 = .ok (.aload_n 0, 1) := by decide +kernel
theorem dX0_aboutLeaf_60 : decode cX0_aboutLeaf 60 = .ok (.getfield 37, 3) := by decide +kernel
theorem dX0_aboutLeaf_63 : decode cX0_aboutLeaf 63 = .ok (.iload_n 1, 1) := by decide +kernel
theorem dX0_aboutLeaf_64 : decode cX0_aboutLeaf 64 = .ok (.invokevirtual 96, 3) := by decide +kernel
theorem dX0_aboutLeaf_67 : decode cX0_aboutLeaf 67 = .ok (.ireturn, 1) := by decide +kernel
theorem dX0_aboutLeaf_68 : decode cX0_aboutLeaf 68 = .ok (.aload_n 0, 1) := by decide +kernel
theorem dX0_aboutLeaf_69 : decode cX0_aboutLeaf 69 = .ok (.iload_n 1, 1) := by decide +kernel
theorem dX0_aboutLeaf_70 : decode cX0_aboutLeaf 70 = .ok (.invokevirtual 99, 3) := by decide +kernel
theorem dX0_aboutLeaf_73 : decode cX0_aboutLeaf 73 = .ok (.ireturn, 1) := by decide +kernel
def X0_aboutLeaf (this : Nat) (a1 : Int32) (a2 : Int32) : MM Int32 :=
  if a2 = (0 : Int32) then (mb (gR 2 (some this) 2) fun v1 =>
  mb (wc 9 v1 fun t => X8_get t a1) fun v2 =>
  mr v2) else (if a2 = (1 : Int32) then (mb (gR 2 (some this) 3) fun v3 =>
  mb (wc 9 v3 fun t => X8_get t a1) fun v4 =>
  mr v4) else (if a2 = (2 : Int32) then (mb (gR 2 (some this) 4) fun v5 =>
  mb (wc 9 v5 fun t => X8_get t a1) fun v6 =>
  mr v6) else (if a2 = (3 : Int32) then (mb (gR 2 (some this) 5) fun v7 =>
  mb (wc 9 v7 fun t => X8_get t a1) fun v8 =>
  mr v8) else (mb (wc 2 (some this) fun t => X0_conjugateOf t a1) fun v9 =>
  mr v9))))
set_option maxRecDepth 100000 in
set_option maxHeartbeats 4000000 in
theorem s_X0_aboutLeaf (G : GG) (this : Nat) (a1 : Int32) (a2 : Int32) : Sn G yX0_aboutLeaf cX0_aboutLeaf 3 (some FieldType.int) 4 91 (fun v : Int32 => some (.int v)) (X0_aboutLeaf this a1 a2) 0 [some (va_rf (some this)), some (.int a1), some (.int a2)] [] := by
  unfold X0_aboutLeaf
  refine sn_iload_n (v := a2) (pc' := 1) dX0_aboutLeaf_0 rfl rfl rfl ?_
  refine sn_or (d := a2 = (0 : Int32)) (fun hc => ?_) (fun hc0 => ?_)
  · refine sn_tsI (pt := 32) (off := 31) dX0_aboutLeaf_1 (by rw [hc]; decide) (by rw [hc]; decide) (by rw [hc]; rfl) rfl ?_
    refine sn_aload_n (v := (some this)) (pc' := 33) dX0_aboutLeaf_32 rfl rfl rfl ?_
    refine sn_gR (k := 2) (pc' := 36) ci_2 rfl (Or.inl tw883) dX0_aboutLeaf_33 rfl (fun v1 => ?_)
    refine sn_iload_n (v := a1) (pc' := 37) dX0_aboutLeaf_36 rfl rfl rfl ?_
    refine sn_cV (r := v1) (st := []) (As := [.int a1]) (st2 := (fun v => .int v :: [])) (pc' := 40) ci_9 (fun t => c_X8_get G t a1) cw_X8_get rfl rfl tw949 tw497 tw496 rfl rfl cat_nil rfl (fun _ => rfl) dX0_aboutLeaf_37 rfl (fun v2 => ?_)
    exact sn_iret dX0_aboutLeaf_40 rfl rfl
  refine sn_or (d := a2 = (1 : Int32)) (fun hc => ?_) (fun hc1 => ?_)
  · refine sn_tsI (pt := 41) (off := 40) dX0_aboutLeaf_1 (by rw [hc]; decide) (by rw [hc]; decide) (by rw [hc]; rfl) rfl ?_
    refine sn_aload_n (v := (some this)) (pc' := 42) dX0_aboutLeaf_41 rfl rfl rfl ?_
    refine sn_gR (k := 3) (pc' := 45) ci_2 rfl (Or.inl tw884) dX0_aboutLeaf_42 rfl (fun v3 => ?_)
    refine sn_iload_n (v := a1) (pc' := 46) dX0_aboutLeaf_45 rfl rfl rfl ?_
    refine sn_cV (r := v3) (st := []) (As := [.int a1]) (st2 := (fun v => .int v :: [])) (pc' := 49) ci_9 (fun t => c_X8_get G t a1) cw_X8_get rfl rfl tw949 tw497 tw496 rfl rfl cat_nil rfl (fun _ => rfl) dX0_aboutLeaf_46 rfl (fun v4 => ?_)
    exact sn_iret dX0_aboutLeaf_49 rfl rfl
  refine sn_or (d := a2 = (2 : Int32)) (fun hc => ?_) (fun hc2 => ?_)
  · refine sn_tsI (pt := 50) (off := 49) dX0_aboutLeaf_1 (by rw [hc]; decide) (by rw [hc]; decide) (by rw [hc]; rfl) rfl ?_
    refine sn_aload_n (v := (some this)) (pc' := 51) dX0_aboutLeaf_50 rfl rfl rfl ?_
    refine sn_gR (k := 4) (pc' := 54) ci_2 rfl (Or.inl tw886) dX0_aboutLeaf_51 rfl (fun v5 => ?_)
    refine sn_iload_n (v := a1) (pc' := 55) dX0_aboutLeaf_54 rfl rfl rfl ?_
    refine sn_cV (r := v5) (st := []) (As := [.int a1]) (st2 := (fun v => .int v :: [])) (pc' := 58) ci_9 (fun t => c_X8_get G t a1) cw_X8_get rfl rfl tw949 tw497 tw496 rfl rfl cat_nil rfl (fun _ => rfl) dX0_aboutLeaf_55 rfl (fun v6 => ?_)
    exact sn_iret dX0_aboutLeaf_58 rfl rfl
  refine sn_or (d := a2 = (3 : Int32)) (fun hc => ?_) (fun hc3 => ?_)
  · refine sn_tsI (pt := 59) (off := 58) dX0_aboutLeaf_1 (by rw [hc]; decide) (by rw [hc]; decide) (by rw [hc]; rfl) rfl ?_
    refine sn_aload_n (v := (some this)) (pc' := 60) dX0_aboutLeaf_59 rfl rfl rfl ?_
    refine sn_gR (k := 5) (pc' := 63) ci_2 rfl (Or.inl tw887) dX0_aboutLeaf_60 rfl (fun v7 => ?_)
    refine sn_iload_n (v := a1) (pc' := 64) dX0_aboutLeaf_63 rfl rfl rfl ?_
    refine sn_cV (r := v7) (st := []) (As := [.int a1]) (st2 := (fun v => .int v :: [])) (pc' := 67) ci_9 (fun t => c_X8_get G t a1) cw_X8_get rfl rfl tw949 tw497 tw496 rfl rfl cat_nil rfl (fun _ => rfl) dX0_aboutLeaf_64 rfl (fun v8 => ?_)
    exact sn_iret dX0_aboutLeaf_67 rfl rfl
  refine sn_tsO (pt := 68) dX0_aboutLeaf_1 (by
    have h9 := ts_out 0 4 (by decide) (fun j h1 h2 => by
      rcases (show j = 0 ∨ j = 1 ∨ j = 2 ∨ j = 3 by omega) with e | e | e | e
      · subst e; exact hc0
      · subst e; exact hc1
      · subst e; exact hc2
      · subst e; exact hc3
      )
    omega) rfl ?_
  refine sn_aload_n (v := (some this)) (pc' := 69) dX0_aboutLeaf_68 rfl rfl rfl ?_
  refine sn_iload_n (v := a1) (pc' := 70) dX0_aboutLeaf_69 rfl rfl rfl ?_
  refine sn_cV (r := (some this)) (st := []) (As := [.int a1]) (st2 := (fun v => .int v :: [])) (pc' := 73) ci_2 (fun t => c_X0_conjugateOf G t a1) cw_X0_conjugateOf rfl rfl tw1150 tw1047 tw1046 rfl rfl cat_nil rfl (fun _ => rfl) dX0_aboutLeaf_70 rfl (fun v9 => ?_)
  exact sn_iret dX0_aboutLeaf_73 rfl rfl
theorem c_X0_aboutLeaf (G : GG) (this : Nat) (a1 : Int32) (a2 : Int32) : Cal G yX0_aboutLeaf cX0_aboutLeaf 3 (some FieldType.int) 4 91 (fun v : Int32 => some (.int v)) (X0_aboutLeaf this a1 a2) [.ref this, .int a1, .int a2] :=
  Cal.of (by decide) (cat_t (cat_i (cat_i cat_nil))) rfl (sn_weak (le_s (le_s (le_s le_e))) (s_X0_aboutLeaf G this a1 a2))
theorem cw_X0_aboutLeaf : CW yX0_aboutLeaf cX0_aboutLeaf 3 (some FieldType.int) 2 := ⟨tw1149, tw21, by decide, by decide +kernel⟩
/-! X11_leaf -/
theorem dX11_leaf_0 : decode cX11_leaf 0 = .ok (.aload_n 0, 1) := by decide +kernel
theorem dX11_leaf_1 : decode cX11_leaf 1 = .ok (.iload_n 1, 1) := by decide +kernel
theorem dX11_leaf_2 : decode cX11_leaf 2 = .ok (.iload_n 2, 1) := by decide +kernel
theorem dX11_leaf_3 : decode cX11_leaf 3 = .ok (.invokevirtual 156, 3) := by decide +kernel
theorem dX11_leaf_6 : decode cX11_leaf 6 = .ok (.astore 4, 2) := by decide +kernel
theorem dX11_leaf_8 : decode cX11_leaf 8 = .ok (.aload 4, 2) := by decide +kernel
theorem dX11_leaf_10 : decode cX11_leaf 10 = .ok (.ifnonnull 9, 3) := by decide +kernel
theorem dX11_leaf_13 : decode cX11_leaf 13 = .ok (.aload_n 0, 1) := by decide +kernel
theorem dX11_leaf_14 : decode cX11_leaf 14 = .ok (.iconst 1, 1) := by decide +kernel
theorem dX11_leaf_15 : decode cX11_leaf 15 = .ok (.invokevirtual 71, 3) := by decide +kernel
theorem dX11_leaf_18 : decode cX11_leaf 18 = .ok (.ireturn, 1) := by decide +kernel
theorem dX11_leaf_19 : decode cX11_leaf 19 = .ok (.iload_n 3, 1) := by decide +kernel
theorem dX11_leaf_20 : decode cX11_leaf 20 = .ok (.ifCond .lt 8, 3) := by decide +kernel
theorem dX11_leaf_23 : decode cX11_leaf 23 = .ok (.iload_n 3, 1) := by decide +kernel
theorem dX11_leaf_24 : decode cX11_leaf 24 = .ok (.iconst 4, 1) := by decide +kernel
theorem dX11_leaf_25 : decode cX11_leaf 25 = .ok (.if_icmp .le 11, 3) := by decide +kernel
theorem dX11_leaf_28 : decode cX11_leaf 28 = .ok (.aload_n 0, 1) := by decide +kernel
theorem dX11_leaf_29 : decode cX11_leaf 29 = .ok (.iconst 3, 1) := by decide +kernel
theorem dX11_leaf_30 : decode cX11_leaf 30 = .ok (.invokevirtual 71, 3) := by decide +kernel
theorem dX11_leaf_33 : decode cX11_leaf 33 = .ok (.goto 14, 3) := by decide +kernel
theorem dX11_leaf_36 : decode cX11_leaf 36 = .ok (.aload_n 0, 1) := by decide +kernel
theorem dX11_leaf_37 : decode cX11_leaf 37 = .ok (.aload 4, 2) := by decide +kernel
theorem dX11_leaf_39 : decode cX11_leaf 39 = .ok (.iload_n 2, 1) := by decide +kernel
theorem dX11_leaf_40 : decode cX11_leaf 40 = .ok (.iload_n 3, 1) := by decide +kernel
theorem dX11_leaf_41 : decode cX11_leaf 41 = .ok (.invokevirtual 160, 3) := by decide +kernel
theorem dX11_leaf_44 : decode cX11_leaf 44 = .ok (.invokevirtual 82, 3) := by decide +kernel
theorem dX11_leaf_47 : decode cX11_leaf 47 = .ok (.ireturn, 1) := by decide +kernel
def X11_leaf_28  (this : Nat) : MM Int32 :=
  mb (wc 12 (some this) fun t => X11_refuse t (3 : Int32)) fun v1 =>
  mr v1
def X11_leaf (this : Nat) (a1 : Int32) (a2 : Int32) (a3 : Int32) : MM Int32 :=
  mb (wc 12 (some this) fun t => X11_bookWithLeaf t a1 a2) fun v1 =>
  if v1 = none then (mb (wc 12 (some this) fun t => X11_refuse t (1 : Int32)) fun v2 =>
  mr v2) else (if a3 < 0 then ((X11_leaf_28 this)) else (if a3 ≤ (4 : Int32) then (mb (wc 2 v1 fun t => X0_aboutLeaf t a2 a3) fun v3 =>
  mb (wc 12 (some this) fun t => X11_answer t v3) fun v4 =>
  mr v4) else ((X11_leaf_28 this))))
set_option maxRecDepth 100000 in
set_option maxHeartbeats 4000000 in
theorem s_X11_leaf_28 (G : GG)   (this : Nat) : Sn G yX11_leaf cX11_leaf 5 (some FieldType.int) 5 113 (fun v : Int32 => some (.int v)) (X11_leaf_28  this) 28 [some (va_rf (some this)), none, none, none, none] [] := by
  unfold X11_leaf_28
  refine sn_aload_n (v := (some this)) (pc' := 29) dX11_leaf_28 rfl rfl rfl ?_
  refine sn_iconst (v := (3 : Int32)) (pc' := 30) dX11_leaf_29 rfl (by decide) ?_
  refine sn_cV (r := (some this)) (st := []) (As := [.int (3 : Int32)]) (st2 := (fun v => .int v :: [])) (pc' := 33) ci_12 (fun t => c_X11_refuse G t (3 : Int32)) cw_X11_refuse rfl rfl tw318 pw0 tw320 rfl rfl cat_nil rfl (fun _ => rfl) dX11_leaf_30 rfl (fun v1 => ?_)
  refine sn_goto (pc' := 47) dX11_leaf_33 rfl ?_
  exact sn_iret dX11_leaf_47 rfl rfl
set_option maxRecDepth 100000 in
set_option maxHeartbeats 4000000 in
theorem s_X11_leaf (G : GG) (this : Nat) (a1 : Int32) (a2 : Int32) (a3 : Int32) : Sn G yX11_leaf cX11_leaf 5 (some FieldType.int) 5 113 (fun v : Int32 => some (.int v)) (X11_leaf this a1 a2 a3) 0 [some (va_rf (some this)), some (.int a1), some (.int a2), some (.int a3), none] [] := by
  unfold X11_leaf
  refine sn_aload_n (v := (some this)) (pc' := 1) dX11_leaf_0 rfl rfl rfl ?_
  refine sn_iload_n (v := a1) (pc' := 2) dX11_leaf_1 rfl rfl rfl ?_
  refine sn_iload_n (v := a2) (pc' := 3) dX11_leaf_2 rfl rfl rfl ?_
  refine sn_cV (r := (some this)) (st := []) (As := [.int a1, .int a2]) (st2 := (fun v => va_rf v :: [])) (pc' := 6) ci_12 (fun t => c_X11_bookWithLeaf G t a1 a2) cw_X11_bookWithLeaf rfl rfl tw1142 pw39 tw1144 rfl rfl cat_nil rfl (fun _ => rfl) dX11_leaf_3 rfl (fun v1 => ?_)
  refine sn_astore (v := v1) (L' := [some (va_rf (some this)), some (.int a1), some (.int a2), some (.int a3), some (va_rf v1)]) (pc' := 8) dX11_leaf_6 rfl rfl rfl ?_
  refine sn_aload (v := v1) (pc' := 10) dX11_leaf_8 rfl rfl ?_
  refine sn_ifnonnull (pt := 19) (pf := 13) dX11_leaf_10 rfl rfl ?_ ?_
  · refine sn_aload_n (v := (some this)) (pc' := 14) dX11_leaf_13 rfl rfl rfl ?_
    refine sn_iconst (v := (1 : Int32)) (pc' := 15) dX11_leaf_14 rfl (by decide) ?_
    refine sn_cV (r := (some this)) (st := []) (As := [.int (1 : Int32)]) (st2 := (fun v => .int v :: [])) (pc' := 18) ci_12 (fun t => c_X11_refuse G t (1 : Int32)) cw_X11_refuse rfl rfl tw318 pw0 tw320 rfl rfl cat_nil rfl (fun _ => rfl) dX11_leaf_15 rfl (fun v2 => ?_)
    exact sn_iret dX11_leaf_18 rfl rfl
  · refine sn_iload_n (v := a3) (pc' := 20) dX11_leaf_19 rfl rfl rfl ?_
    refine sn_if_lt (pt := 28) (pf := 23) dX11_leaf_20 rfl rfl ?_ ?_
    · exact sn_weak (le_s (le_n (le_n (le_n (le_n le_e))))) (s_X11_leaf_28 G this)
    · refine sn_iload_n (v := a3) (pc' := 24) dX11_leaf_23 rfl rfl rfl ?_
      refine sn_iconst (v := (4 : Int32)) (pc' := 25) dX11_leaf_24 rfl (by decide) ?_
      refine sn_ic_le (pt := 36) (pf := 28) dX11_leaf_25 rfl rfl ?_ ?_
      · refine sn_aload_n (v := (some this)) (pc' := 37) dX11_leaf_36 rfl rfl rfl ?_
        refine sn_aload (v := v1) (pc' := 39) dX11_leaf_37 rfl rfl ?_
        refine sn_iload_n (v := a2) (pc' := 40) dX11_leaf_39 rfl rfl rfl ?_
        refine sn_iload_n (v := a3) (pc' := 41) dX11_leaf_40 rfl rfl rfl ?_
        refine sn_cV (r := v1) (st := [va_rf (some this)]) (As := [.int a2, .int a3]) (st2 := (fun v => .int v :: [va_rf (some this)])) (pc' := 44) ci_2 (fun t => c_X0_aboutLeaf G t a2 a3) cw_X0_aboutLeaf rfl rfl tw1146 tw1148 tw1147 rfl rfl (cat_q cat_nil) rfl (fun _ => rfl) dX11_leaf_41 rfl (fun v3 => ?_)
        refine sn_cV (r := (some this)) (st := []) (As := [.int v3]) (st2 := (fun v => .int v :: [])) (pc' := 47) ci_12 (fun t => c_X11_answer G t v3) cw_X11_answer rfl rfl tw326 pw1 tw328 rfl rfl cat_nil rfl (fun _ => rfl) dX11_leaf_44 rfl (fun v4 => ?_)
        exact sn_iret dX11_leaf_47 rfl rfl
      · exact sn_weak (le_s (le_n (le_n (le_n (le_n le_e))))) (s_X11_leaf_28 G this)
theorem c_X11_leaf (G : GG) (this : Nat) (a1 : Int32) (a2 : Int32) (a3 : Int32) : Cal G yX11_leaf cX11_leaf 5 (some FieldType.int) 5 113 (fun v : Int32 => some (.int v)) (X11_leaf this a1 a2 a3) [.ref this, .int a1, .int a2, .int a3] :=
  Cal.of (by decide) (cat_t (cat_i (cat_i (cat_i cat_nil)))) rfl (sn_weak (le_s (le_s (le_s (le_s (le_z le_e))))) (s_X11_leaf G this a1 a2 a3))
theorem cw_X11_leaf : CW yX11_leaf cX11_leaf 5 (some FieldType.int) 3 := ⟨tw1141, tw1, by decide, by decide +kernel⟩
/-! X11_byteOf -/
theorem dX11_byteOf_0 : decode cX11_byteOf 0 = .ok (.iload_n 2, 1) := by decide +kernel
theorem dX11_byteOf_1 : decode cX11_byteOf 1 = .ok (.ifCond .lt 11, 3) := by decide +kernel
theorem dX11_byteOf_4 : decode cX11_byteOf 4 = .ok (.iload_n 2, 1) := by decide +kernel
theorem dX11_byteOf_5 : decode cX11_byteOf 5 = .ok (.aload_n 1, 1) := by decide +kernel
theorem dX11_byteOf_6 : decode cX11_byteOf 6 = .ok (.invokevirtual 234, 3) := by decide +kernel
theorem dX11_byteOf_9 : decode cX11_byteOf 9 = .ok (.if_icmp .lt 11, 3) := by decide +kernel
theorem dX11_byteOf_12 : decode cX11_byteOf 12 = .ok (.aload_n 0, 1) := by decide +kernel
theorem dX11_byteOf_13 : decode cX11_byteOf 13 = .ok (.iconst 1, 1) := by decide +kernel
theorem dX11_byteOf_14 : decode cX11_byteOf 14 = .ok (.invokevirtual 71, 3) := by decide +kernel
theorem dX11_byteOf_17 : decode cX11_byteOf 17 = .ok (.goto 12, 3) := by decide +kernel
theorem dX11_byteOf_20 : decode cX11_byteOf 20 = .ok (.aload_n 0, 1) := by decide +kernel
theorem dX11_byteOf_21 : decode cX11_byteOf 21 = .ok (.aload_n 1, 1) := by decide +kernel
theorem dX11_byteOf_22 : decode cX11_byteOf 22 = .ok (.iload_n 2, 1) := by decide +kernel
theorem dX11_byteOf_23 : decode cX11_byteOf 23 = .ok (.invokevirtual 236, 3) := by decide +kernel
theorem dX11_byteOf_26 : decode cX11_byteOf 26 = .ok (.invokevirtual 82, 3) := by decide +kernel
theorem dX11_byteOf_29 : decode cX11_byteOf 29 = .ok (.ireturn, 1) := by decide +kernel
def X11_byteOf_12  (this : Nat) : MM Int32 :=
  mb (wc 12 (some this) fun t => X11_refuse t (1 : Int32)) fun v1 =>
  mr v1
def X11_byteOf (this : Nat) (a1 : Option Nat) (a2 : Int32) : MM Int32 :=
  if a2 < 0 then ((X11_byteOf_12 this)) else (mb (wc 0 a1 fun t => J0_length_8abf5 t ) fun v1 =>
  if a2 < v1 then (mb (wc 0 a1 fun t => J0_charAt_5068e t a2) fun v2 =>
  mb (wc 12 (some this) fun t => X11_answer t v2) fun v3 =>
  mr v3) else ((X11_byteOf_12 this)))
set_option maxRecDepth 100000 in
set_option maxHeartbeats 4000000 in
theorem s_X11_byteOf_12 (G : GG)   (this : Nat) : Sn G yX11_byteOf cX11_byteOf 3 (some FieldType.int) 4 85 (fun v : Int32 => some (.int v)) (X11_byteOf_12  this) 12 [some (va_rf (some this)), none, none] [] := by
  unfold X11_byteOf_12
  refine sn_aload_n (v := (some this)) (pc' := 13) dX11_byteOf_12 rfl rfl rfl ?_
  refine sn_iconst (v := (1 : Int32)) (pc' := 14) dX11_byteOf_13 rfl (by decide) ?_
  refine sn_cV (r := (some this)) (st := []) (As := [.int (1 : Int32)]) (st2 := (fun v => .int v :: [])) (pc' := 17) ci_12 (fun t => c_X11_refuse G t (1 : Int32)) cw_X11_refuse rfl rfl tw318 pw0 tw320 rfl rfl cat_nil rfl (fun _ => rfl) dX11_byteOf_14 rfl (fun v1 => ?_)
  refine sn_goto (pc' := 29) dX11_byteOf_17 rfl ?_
  exact sn_iret dX11_byteOf_29 rfl rfl
set_option maxRecDepth 100000 in
set_option maxHeartbeats 4000000 in
theorem s_X11_byteOf (G : GG) (this : Nat) (a1 : Option Nat) (a2 : Int32) : Sn G yX11_byteOf cX11_byteOf 3 (some FieldType.int) 4 85 (fun v : Int32 => some (.int v)) (X11_byteOf this a1 a2) 0 [some (va_rf (some this)), some (va_rf a1), some (.int a2)] [] := by
  unfold X11_byteOf
  refine sn_iload_n (v := a2) (pc' := 1) dX11_byteOf_0 rfl rfl rfl ?_
  refine sn_if_lt (pt := 12) (pf := 4) dX11_byteOf_1 rfl rfl ?_ ?_
  · exact sn_weak (le_s (le_n (le_n le_e))) (s_X11_byteOf_12 G this)
  · refine sn_iload_n (v := a2) (pc' := 5) dX11_byteOf_4 rfl rfl rfl ?_
    refine sn_aload_n (v := a1) (pc' := 6) dX11_byteOf_5 rfl rfl rfl ?_
    refine sn_cV (r := a1) (st := [.int a2]) (As := []) (st2 := (fun v => .int v :: [.int a2])) (pc' := 9) ci_0 (fun t => c_J0_length_8abf5 G t ) cw_J0_length_8abf5 rfl rfl tw1159 tw409 tw408 rfl rfl (cat_i cat_nil) rfl (fun _ => rfl) dX11_byteOf_6 rfl (fun v1 => ?_)
    refine sn_ic_lt (pt := 20) (pf := 12) dX11_byteOf_9 rfl rfl ?_ ?_
    · refine sn_aload_n (v := (some this)) (pc' := 21) dX11_byteOf_20 rfl rfl rfl ?_
      refine sn_aload_n (v := a1) (pc' := 22) dX11_byteOf_21 rfl rfl rfl ?_
      refine sn_iload_n (v := a2) (pc' := 23) dX11_byteOf_22 rfl rfl rfl ?_
      refine sn_cV (r := a1) (st := [va_rf (some this)]) (As := [.int a2]) (st2 := (fun v => .int v :: [va_rf (some this)])) (pc' := 26) ci_0 (fun t => c_J0_charAt_5068e G t a2) cw_J0_charAt_5068e rfl rfl tw1160 tw740 tw739 rfl rfl (cat_q cat_nil) rfl (fun _ => rfl) dX11_byteOf_23 rfl (fun v2 => ?_)
      refine sn_cV (r := (some this)) (st := []) (As := [.int v2]) (st2 := (fun v => .int v :: [])) (pc' := 29) ci_12 (fun t => c_X11_answer G t v2) cw_X11_answer rfl rfl tw326 pw1 tw328 rfl rfl cat_nil rfl (fun _ => rfl) dX11_byteOf_26 rfl (fun v3 => ?_)
      exact sn_iret dX11_byteOf_29 rfl rfl
    · exact sn_weak (le_s (le_n (le_n le_e))) (s_X11_byteOf_12 G this)
theorem c_X11_byteOf (G : GG) (this : Nat) (a1 : Option Nat) (a2 : Int32) : Cal G yX11_byteOf cX11_byteOf 3 (some FieldType.int) 4 85 (fun v : Int32 => some (.int v)) (X11_byteOf this a1 a2) [.ref this, va_rf a1, .int a2] :=
  Cal.of (by decide) (cat_t (cat_q (cat_i cat_nil))) rfl (sn_weak (le_s (le_s (le_s le_e))) (s_X11_byteOf G this a1 a2))
theorem cw_X11_byteOf : CW yX11_byteOf cX11_byteOf 3 (some FieldType.int) 2 := ⟨tw1158, tw1, by decide, by decide +kernel⟩
/-! X11_letter -/
theorem dX11_letter_0 : decode cX11_letter 0 = .ok (.aload_n 0, 1) := by decide +kernel
theorem dX11_letter_1 : decode cX11_letter 1 = .ok (.iload_n 1, 1) := by decide +kernel
theorem dX11_letter_2 : decode cX11_letter 2 = .ok (.invokevirtual 102, 3) := by decide +kernel
theorem dX11_letter_5 : decode cX11_letter 5 = .ok (.astore_n 3, 1) := by decide +kernel
theorem dX11_letter_6 : decode cX11_letter 6 = .ok (.aload_n 3, 1) := by decide +kernel
theorem dX11_letter_7 : decode cX11_letter 7 = .ok (.ifnonnull 11, 3) := by decide +kernel
theorem dX11_letter_10 : decode cX11_letter 10 = .ok (.aload_n 0, 1) := by decide +kernel
theorem dX11_letter_11 : decode cX11_letter 11 = .ok (.iconst 1, 1) := by decide +kernel
theorem dX11_letter_12 : decode cX11_letter 12 = .ok (.invokevirtual 71, 3) := by decide +kernel
theorem dX11_letter_15 : decode cX11_letter 15 = .ok (.goto 12, 3) := by decide +kernel
theorem dX11_letter_18 : decode cX11_letter 18 = .ok (.aload_n 0, 1) := by decide +kernel
theorem dX11_letter_19 : decode cX11_letter 19 = .ok (.aload_n 3, 1) := by decide +kernel
theorem dX11_letter_20 : decode cX11_letter 20 = .ok (.getfield 163, 3) := by decide +kernel
theorem dX11_letter_23 : decode cX11_letter 23 = .ok (.iload_n 2, 1) := by decide +kernel
theorem dX11_letter_24 : decode cX11_letter 24 = .ok (.invokevirtual 167, 3) := by decide +kernel
theorem dX11_letter_27 : decode cX11_letter 27 = .ok (.ireturn, 1) := by decide +kernel
def X11_letter (this : Nat) (a1 : Int32) (a2 : Int32) : MM Int32 :=
  mb (wc 12 (some this) fun t => X11_bookAt t a1) fun v1 =>
  if v1 = none then (mb (wc 12 (some this) fun t => X11_refuse t (1 : Int32)) fun v2 =>
  mr v2) else (mb (gR 2 v1 6) fun v3 =>
  mb (wc 12 (some this) fun t => X11_byteOf t v3 a2) fun v4 =>
  mr v4)
set_option maxRecDepth 100000 in
set_option maxHeartbeats 4000000 in
theorem s_X11_letter (G : GG) (this : Nat) (a1 : Int32) (a2 : Int32) : Sn G yX11_letter cX11_letter 4 (some FieldType.int) 5 107 (fun v : Int32 => some (.int v)) (X11_letter this a1 a2) 0 [some (va_rf (some this)), some (.int a1), some (.int a2), none] [] := by
  unfold X11_letter
  refine sn_aload_n (v := (some this)) (pc' := 1) dX11_letter_0 rfl rfl rfl ?_
  refine sn_iload_n (v := a1) (pc' := 2) dX11_letter_1 rfl rfl rfl ?_
  refine sn_cV (r := (some this)) (st := []) (As := [.int a1]) (st2 := (fun v => va_rf v :: [])) (pc' := 5) ci_12 (fun t => c_X11_bookAt G t a1) cw_X11_bookAt rfl rfl tw910 pw22 tw912 rfl rfl cat_nil rfl (fun _ => rfl) dX11_letter_2 rfl (fun v1 => ?_)
  refine sn_astore_n (v := v1) (L' := [some (va_rf (some this)), some (.int a1), some (.int a2), some (va_rf v1)]) (pc' := 6) dX11_letter_5 rfl rfl rfl rfl ?_
  refine sn_aload_n (v := v1) (pc' := 7) dX11_letter_6 rfl rfl rfl ?_
  refine sn_ifnonnull (pt := 18) (pf := 10) dX11_letter_7 rfl rfl ?_ ?_
  · refine sn_aload_n (v := (some this)) (pc' := 11) dX11_letter_10 rfl rfl rfl ?_
    refine sn_iconst (v := (1 : Int32)) (pc' := 12) dX11_letter_11 rfl (by decide) ?_
    refine sn_cV (r := (some this)) (st := []) (As := [.int (1 : Int32)]) (st2 := (fun v => .int v :: [])) (pc' := 15) ci_12 (fun t => c_X11_refuse G t (1 : Int32)) cw_X11_refuse rfl rfl tw318 pw0 tw320 rfl rfl cat_nil rfl (fun _ => rfl) dX11_letter_12 rfl (fun v2 => ?_)
    refine sn_goto (pc' := 27) dX11_letter_15 rfl ?_
    exact sn_iret dX11_letter_27 rfl rfl
  · refine sn_aload_n (v := (some this)) (pc' := 19) dX11_letter_18 rfl rfl rfl ?_
    refine sn_aload_n (v := v1) (pc' := 20) dX11_letter_19 rfl rfl rfl ?_
    refine sn_gR (k := 6) (pc' := 23) ci_2 rfl (Or.inr ⟨_, nw890⟩) dX11_letter_20 rfl (fun v3 => ?_)
    refine sn_iload_n (v := a2) (pc' := 24) dX11_letter_23 rfl rfl rfl ?_
    refine sn_cV (r := (some this)) (st := []) (As := [va_rf v3, .int a2]) (st2 := (fun v => .int v :: [])) (pc' := 27) ci_12 (fun t => c_X11_byteOf G t v3 a2) cw_X11_byteOf rfl rfl tw1155 pw40 tw1157 rfl rfl cat_nil rfl (fun _ => rfl) dX11_letter_24 rfl (fun v4 => ?_)
    exact sn_iret dX11_letter_27 rfl rfl
theorem c_X11_letter (G : GG) (this : Nat) (a1 : Int32) (a2 : Int32) : Cal G yX11_letter cX11_letter 4 (some FieldType.int) 5 107 (fun v : Int32 => some (.int v)) (X11_letter this a1 a2) [.ref this, .int a1, .int a2] :=
  Cal.of (by decide) (cat_t (cat_i (cat_i cat_nil))) rfl (sn_weak (le_s (le_s (le_s (le_z le_e)))) (s_X11_letter G this a1 a2))
theorem cw_X11_letter : CW yX11_letter cX11_letter 4 (some FieldType.int) 2 := ⟨tw1154, tw1, by decide, by decide +kernel⟩
/-! X9_nameText -/
theorem dX9_nameText_0 : decode cX9_nameText 0 = .ok (.aload_n 0, 1) := by decide +kernel
theorem dX9_nameText_1 : decode cX9_nameText 1 = .ok (.getfield 12, 3) := by decide +kernel
theorem dX9_nameText_4 : decode cX9_nameText 4 = .ok (.iconst 0, 1) := by decide +kernel
theorem dX9_nameText_5 : decode cX9_nameText 5 = .ok (.invokevirtual 18, 3) := by decide +kernel
theorem dX9_nameText_8 : decode cX9_nameText 8 = .ok (.aload_n 0, 1) := by decide +kernel
theorem dX9_nameText_9 : decode cX9_nameText 9 = .ok (.aload_n 1, 1) := by decide +kernel
theorem dX9_nameText_10 : decode cX9_nameText 10 = .ok (.iload_n 2, 1) := by decide +kernel
theorem dX9_nameText_11 : decode cX9_nameText 11 = .ok (.invokevirtual 22, 3) := by decide +kernel
theorem dX9_nameText_14 : decode cX9_nameText 14 = .ok (.aload_n 0, 1) := by decide +kernel
theorem dX9_nameText_15 : decode cX9_nameText 15 = .ok (.getfield 12, 3) := by decide +kernel
theorem dX9_nameText_18 : decode cX9_nameText 18 = .ok (.invokevirtual 26, 3) := by decide +kernel
theorem dX9_nameText_21 : decode cX9_nameText 21 = .ok (.areturn, 1) := by decide +kernel
def X9_nameText (this : Nat) (a1 : Option Nat) (a2 : Int32) : MM (Option Nat) :=
  mb (gR 10 (some this) 0) fun v1 =>
  mb (wc 1 v1 fun t => J4_setLength_d00df t (0 : Int32)) fun _ =>
  mb (wc 10 (some this) fun t => X9_writeName t a1 a2) fun _ =>
  mb (gR 10 (some this) 0) fun v2 =>
  mb (wc 1 v2 fun t => J4_toString_0e30d t ) fun v3 =>
  mr v3
set_option maxRecDepth 100000 in
set_option maxHeartbeats 4000000 in
theorem s_X9_nameText (G : GG) (this : Nat) (a1 : Option Nat) (a2 : Int32) : Sn G yX9_nameText cX9_nameText 3 (some (FieldType.object "java/lang/String")) 8 174 (fun v : Option Nat => some (va_rf v)) (X9_nameText this a1 a2) 0 [some (va_rf (some this)), some (va_rf a1), some (.int a2)] [] := by
  unfold X9_nameText
  refine sn_aload_n (v := (some this)) (pc' := 1) dX9_nameText_0 rfl rfl rfl ?_
  refine sn_gR (k := 0) (pc' := 4) ci_10 rfl (Or.inl tw265) dX9_nameText_1 rfl (fun v1 => ?_)
  refine sn_iconst (v := (0 : Int32)) (pc' := 5) dX9_nameText_4 rfl (by decide) ?_
  refine sn_cV (r := v1) (st := []) (As := [.int (0 : Int32)]) (st2 := (fun _ => [])) (pc' := 8) ci_1 (fun t => c_J4_setLength_d00df G t (0 : Int32)) cw_J4_setLength_d00df rfl rfl tw588 tw590 tw589 rfl rfl cat_nil rfl (fun _ => rfl) dX9_nameText_5 rfl (fun _ => ?_)
  refine sn_aload_n (v := (some this)) (pc' := 9) dX9_nameText_8 rfl rfl rfl ?_
  refine sn_aload_n (v := a1) (pc' := 10) dX9_nameText_9 rfl rfl rfl ?_
  refine sn_iload_n (v := a2) (pc' := 11) dX9_nameText_10 rfl rfl rfl ?_
  refine sn_cV (r := (some this)) (st := []) (As := [va_rf a1, .int a2]) (st2 := (fun _ => [])) (pc' := 14) ci_10 (fun t => c_X9_writeName G t a1 a2) cw_X9_writeName rfl rfl tw1081 pw35 tw1083 rfl rfl cat_nil rfl (fun _ => rfl) dX9_nameText_11 rfl (fun _ => ?_)
  refine sn_aload_n (v := (some this)) (pc' := 15) dX9_nameText_14 rfl rfl rfl ?_
  refine sn_gR (k := 0) (pc' := 18) ci_10 rfl (Or.inl tw265) dX9_nameText_15 rfl (fun v2 => ?_)
  refine sn_cV (r := v2) (st := []) (As := []) (st2 := (fun v => va_rf v :: [])) (pc' := 21) ci_1 (fun t => c_J4_toString_0e30d G t ) cw_J4_toString_0e30d rfl rfl tw791 tw793 tw792 rfl rfl cat_nil rfl (fun _ => rfl) dX9_nameText_18 rfl (fun v3 => ?_)
  exact sn_aret dX9_nameText_21 rfl (Or.inl ⟨_, rfl⟩)
theorem c_X9_nameText (G : GG) (this : Nat) (a1 : Option Nat) (a2 : Int32) : Cal G yX9_nameText cX9_nameText 3 (some (FieldType.object "java/lang/String")) 8 174 (fun v : Option Nat => some (va_rf v)) (X9_nameText this a1 a2) [.ref this, va_rf a1, .int a2] :=
  Cal.of (by decide) (cat_t (cat_q (cat_i cat_nil))) rfl (sn_weak (le_s (le_s (le_s le_e))) (s_X9_nameText G this a1 a2))
theorem cw_X9_nameText : CW yX9_nameText cX9_nameText 3 (some (FieldType.object "java/lang/String")) 2 := ⟨tw1168, tw10, by decide, by decide +kernel⟩
/-! X11_name -/
theorem dX11_name_0 : decode cX11_name 0 = .ok (.aload_n 0, 1) := by decide +kernel
theorem dX11_name_1 : decode cX11_name 1 = .ok (.iload_n 1, 1) := by decide +kernel
theorem dX11_name_2 : decode cX11_name 2 = .ok (.iload_n 2, 1) := by decide +kernel
theorem dX11_name_3 : decode cX11_name 3 = .ok (.invokevirtual 156, 3) := by decide +kernel
theorem dX11_name_6 : decode cX11_name 6 = .ok (.astore 4, 2) := by decide +kernel
theorem dX11_name_8 : decode cX11_name 8 = .ok (.aload 4, 2) := by decide +kernel
theorem dX11_name_10 : decode cX11_name 10 = .ok (.ifnonnull 11, 3) := by decide +kernel
theorem dX11_name_13 : decode cX11_name 13 = .ok (.aload_n 0, 1) := by decide +kernel
theorem dX11_name_14 : decode cX11_name 14 = .ok (.iconst 1, 1) := by decide +kernel
theorem dX11_name_15 : decode cX11_name 15 = .ok (.invokevirtual 71, 3) := by decide +kernel
theorem dX11_name_18 : decode cX11_name 18 = .ok (.goto 18, 3) := by decide +kernel
theorem dX11_name_21 : decode cX11_name 21 = .ok (.aload_n 0, 1) := by decide +kernel
theorem dX11_name_22 : decode cX11_name 22 = .ok (.aload_n 0, 1) := by decide +kernel
theorem dX11_name_23 : decode cX11_name 23 = .ok (.getfield 51, 3) := by decide +kernel
theorem dX11_name_26 : decode cX11_name 26 = .ok (.aload 4, 2) := by decide +kernel
theorem dX11_name_28 : decode cX11_name 28 = .ok (.iload_n 2, 1) := by decide +kernel
theorem dX11_name_29 : decode cX11_name 29 = .ok (.invokevirtual 171, 3) := by decide +kernel
theorem dX11_name_32 : decode cX11_name 32 = .ok (.iload_n 3, 1) := by decide +kernel
theorem dX11_name_33 : decode cX11_name 33 = .ok (.invokevirtual 167, 3) := by decide +kernel
theorem dX11_name_36 : decode cX11_name 36 = .ok (.ireturn, 1) := by decide +kernel
def X11_name (this : Nat) (a1 : Int32) (a2 : Int32) (a3 : Int32) : MM Int32 :=
  mb (wc 12 (some this) fun t => X11_bookWithLeaf t a1 a2) fun v1 =>
  if v1 = none then (mb (wc 12 (some this) fun t => X11_refuse t (1 : Int32)) fun v2 =>
  mr v2) else (mb (gR 12 (some this) 5) fun v3 =>
  mb (wc 10 v3 fun t => X9_nameText t v1 a2) fun v4 =>
  mb (wc 12 (some this) fun t => X11_byteOf t v4 a3) fun v5 =>
  mr v5)
set_option maxRecDepth 100000 in
set_option maxHeartbeats 4000000 in
theorem s_X11_name (G : GG) (this : Nat) (a1 : Int32) (a2 : Int32) (a3 : Int32) : Sn G yX11_name cX11_name 5 (some FieldType.int) 9 196 (fun v : Int32 => some (.int v)) (X11_name this a1 a2 a3) 0 [some (va_rf (some this)), some (.int a1), some (.int a2), some (.int a3), none] [] := by
  unfold X11_name
  refine sn_aload_n (v := (some this)) (pc' := 1) dX11_name_0 rfl rfl rfl ?_
  refine sn_iload_n (v := a1) (pc' := 2) dX11_name_1 rfl rfl rfl ?_
  refine sn_iload_n (v := a2) (pc' := 3) dX11_name_2 rfl rfl rfl ?_
  refine sn_cV (r := (some this)) (st := []) (As := [.int a1, .int a2]) (st2 := (fun v => va_rf v :: [])) (pc' := 6) ci_12 (fun t => c_X11_bookWithLeaf G t a1 a2) cw_X11_bookWithLeaf rfl rfl tw1142 pw39 tw1144 rfl rfl cat_nil rfl (fun _ => rfl) dX11_name_3 rfl (fun v1 => ?_)
  refine sn_astore (v := v1) (L' := [some (va_rf (some this)), some (.int a1), some (.int a2), some (.int a3), some (va_rf v1)]) (pc' := 8) dX11_name_6 rfl rfl rfl ?_
  refine sn_aload (v := v1) (pc' := 10) dX11_name_8 rfl rfl ?_
  refine sn_ifnonnull (pt := 21) (pf := 13) dX11_name_10 rfl rfl ?_ ?_
  · refine sn_aload_n (v := (some this)) (pc' := 14) dX11_name_13 rfl rfl rfl ?_
    refine sn_iconst (v := (1 : Int32)) (pc' := 15) dX11_name_14 rfl (by decide) ?_
    refine sn_cV (r := (some this)) (st := []) (As := [.int (1 : Int32)]) (st2 := (fun v => .int v :: [])) (pc' := 18) ci_12 (fun t => c_X11_refuse G t (1 : Int32)) cw_X11_refuse rfl rfl tw318 pw0 tw320 rfl rfl cat_nil rfl (fun _ => rfl) dX11_name_15 rfl (fun v2 => ?_)
    refine sn_goto (pc' := 36) dX11_name_18 rfl ?_
    exact sn_iret dX11_name_36 rfl rfl
  · refine sn_aload_n (v := (some this)) (pc' := 22) dX11_name_21 rfl rfl rfl ?_
    refine sn_aload_n (v := (some this)) (pc' := 23) dX11_name_22 rfl rfl rfl ?_
    refine sn_gR (k := 5) (pc' := 26) ci_12 rfl (Or.inl tw278) dX11_name_23 rfl (fun v3 => ?_)
    refine sn_aload (v := v1) (pc' := 28) dX11_name_26 rfl rfl ?_
    refine sn_iload_n (v := a2) (pc' := 29) dX11_name_28 rfl rfl rfl ?_
    refine sn_cV (r := v3) (st := [va_rf (some this)]) (As := [va_rf v1, .int a2]) (st2 := (fun v => va_rf v :: [va_rf (some this)])) (pc' := 32) ci_10 (fun t => c_X9_nameText G t v1 a2) cw_X9_nameText rfl rfl tw1165 tw1167 tw1166 rfl rfl (cat_q cat_nil) rfl (fun _ => rfl) dX11_name_29 rfl (fun v4 => ?_)
    refine sn_iload_n (v := a3) (pc' := 33) dX11_name_32 rfl rfl rfl ?_
    refine sn_cV (r := (some this)) (st := []) (As := [va_rf v4, .int a3]) (st2 := (fun v => .int v :: [])) (pc' := 36) ci_12 (fun t => c_X11_byteOf G t v4 a3) cw_X11_byteOf rfl rfl tw1155 pw40 tw1157 rfl rfl cat_nil rfl (fun _ => rfl) dX11_name_33 rfl (fun v5 => ?_)
    exact sn_iret dX11_name_36 rfl rfl
theorem c_X11_name (G : GG) (this : Nat) (a1 : Int32) (a2 : Int32) (a3 : Int32) : Cal G yX11_name cX11_name 5 (some FieldType.int) 9 196 (fun v : Int32 => some (.int v)) (X11_name this a1 a2 a3) [.ref this, .int a1, .int a2, .int a3] :=
  Cal.of (by decide) (cat_t (cat_i (cat_i (cat_i cat_nil)))) rfl (sn_weak (le_s (le_s (le_s (le_s (le_z le_e))))) (s_X11_name G this a1 a2 a3))
theorem cw_X11_name : CW yX11_name cX11_name 5 (some FieldType.int) 3 := ⟨tw1164, tw1, by decide, by decide +kernel⟩
/-! J1_equals_b5fdf -/
theorem dJ1_equals_b5fdf_0 : decode cJ1_equals_b5fdf 0 = .ok (.aload_n 0, 1) := by decide +kernel
theorem dJ1_equals_b5fdf_1 : decode cJ1_equals_b5fdf 1 = .ok (.arraylength, 1) := by decide +kernel
theorem dJ1_equals_b5fdf_2 : decode cJ1_equals_b5fdf 2 = .ok (.aload_n 1, 1) := by decide +kernel
theorem dJ1_equals_b5fdf_3 : decode cJ1_equals_b5fdf 3 = .ok (.arraylength, 1) := by decide +kernel
theorem dJ1_equals_b5fdf_4 : decode cJ1_equals_b5fdf 4 = .ok (.if_icmp .ne 30, 3) := by decide +kernel
theorem dJ1_equals_b5fdf_7 : decode cJ1_equals_b5fdf 7 = .ok (.iconst 0, 1) := by decide +kernel
theorem dJ1_equals_b5fdf_8 : decode cJ1_equals_b5fdf 8 = .ok (.istore_n 2, 1) := by decide +kernel
theorem dJ1_equals_b5fdf_9 : decode cJ1_equals_b5fdf 9 = .ok (.iload_n 2, 1) := by decide +kernel
theorem dJ1_equals_b5fdf_10 : decode cJ1_equals_b5fdf 10 = .ok (.aload_n 0, 1) := by decide +kernel
theorem dJ1_equals_b5fdf_11 : decode cJ1_equals_b5fdf 11 = .ok (.arraylength, 1) := by decide +kernel
theorem dJ1_equals_b5fdf_12 : decode cJ1_equals_b5fdf 12 = .ok (.if_icmp .ge 20, 3) := by decide +kernel
theorem dJ1_equals_b5fdf_15 : decode cJ1_equals_b5fdf 15 = .ok (.aload_n 0, 1) := by decide +kernel
theorem dJ1_equals_b5fdf_16 : decode cJ1_equals_b5fdf 16 = .ok (.iload_n 2, 1) := by decide +kernel
theorem dJ1_equals_b5fdf_17 : decode cJ1_equals_b5fdf 17 = .ok (.baload, 1) := by decide +kernel
theorem dJ1_equals_b5fdf_18 : decode cJ1_equals_b5fdf 18 = .ok (.aload_n 1, 1) := by decide +kernel
theorem dJ1_equals_b5fdf_19 : decode cJ1_equals_b5fdf 19 = .ok (.iload_n 2, 1) := by decide +kernel
theorem dJ1_equals_b5fdf_20 : decode cJ1_equals_b5fdf 20 = .ok (.baload, 1) := by decide +kernel
theorem dJ1_equals_b5fdf_21 : decode cJ1_equals_b5fdf 21 = .ok (.if_icmp .eq 5, 3) := by decide +kernel
theorem dJ1_equals_b5fdf_24 : decode cJ1_equals_b5fdf 24 = .ok (.iconst 0, 1) := by decide +kernel
theorem dJ1_equals_b5fdf_25 : decode cJ1_equals_b5fdf 25 = .ok (.ireturn, 1) := by decide +kernel
theorem dJ1_equals_b5fdf_26 : decode cJ1_equals_b5fdf 26 = .ok (.iinc 2 1, 3) := by decide +kernel
theorem dJ1_equals_b5fdf_29 : decode cJ1_equals_b5fdf 29 = .ok (.goto (-20), 3) := by decide +kernel
theorem dJ1_equals_b5fdf_32 : decode cJ1_equals_b5fdf 32 = .ok (.iconst 1, 1) := by decide +kernel
theorem dJ1_equals_b5fdf_33 : decode cJ1_equals_b5fdf 33 = .ok (.ireturn, 1) := by decide +kernel
theorem dJ1_equals_b5fdf_34 : decode cJ1_equals_b5fdf 34 = .ok (.iconst 0, 1) := by decide +kernel
theorem dJ1_equals_b5fdf_35 : decode cJ1_equals_b5fdf 35 = .ok (.ireturn, 1) := by decide +kernel
def J1_equals_b5fdf_9_st  (k9 : Option Nat → Option Nat → Int32 → MM Int32) (x0 : Option Nat) (x1 : Option Nat) (x2 : Int32) : MM Int32 :=
  mb (aN x0) fun v1 =>
  if v1 ≤ x2 then (mr (1 : Int32)) else (mb (aB x0 x2) fun v2 =>
  mb (aB x1 x2) fun v3 =>
  if v2 = v3 then ((k9 x0 x1 (x2 + (1 : Int32)))) else (mr (0 : Int32)))
def J1_equals_b5fdf_9  : Nat → Option Nat → Option Nat → Int32 → MM Int32
  | 0 => fun _ _ _ => mf
  | n + 1 => fun x0 x1 x2 => J1_equals_b5fdf_9_st  (J1_equals_b5fdf_9  n) x0 x1 x2
def J1_equals_b5fdf (a0 : Option Nat) (a1 : Option Nat) : MM Int32 :=
  mb (aN a0) fun v1 =>
  mb (aN a1) fun v2 =>
  if v1 = v2 then ((J1_equals_b5fdf_9 LFU a0 a1 (0 : Int32))) else (mr (0 : Int32))
set_option maxRecDepth 100000 in
set_option maxHeartbeats 4000000 in
theorem s_J1_equals_b5fdf_9_st (G : GG)   (k9 : Option Nat → Option Nat → Int32 → MM Int32) (hk9 : ∀ (x0 : Option Nat) (x1 : Option Nat) (x2 : Int32), Sn G yJ1_equals_b5fdf cJ1_equals_b5fdf 3 (some FieldType.boolean) 0 0 (fun v : Int32 => some (.int v)) (k9 x0 x1 x2) 9 [some (va_rf x0), some (va_rf x1), some (.int x2)] []) (x0 : Option Nat) (x1 : Option Nat) (x2 : Int32) : Sn G yJ1_equals_b5fdf cJ1_equals_b5fdf 3 (some FieldType.boolean) 0 0 (fun v : Int32 => some (.int v)) (J1_equals_b5fdf_9_st  k9 x0 x1 x2) 9 [some (va_rf x0), some (va_rf x1), some (.int x2)] [] := by
  unfold J1_equals_b5fdf_9_st
  refine sn_iload_n (v := x2) (pc' := 10) dJ1_equals_b5fdf_9 rfl rfl rfl ?_
  refine sn_aload_n (v := x0) (pc' := 11) dJ1_equals_b5fdf_10 rfl rfl rfl ?_
  refine sn_aN (pc' := 12) dJ1_equals_b5fdf_11 rfl (fun v1 => ?_)
  refine sn_ic_ge (pt := 32) (pf := 15) dJ1_equals_b5fdf_12 rfl rfl ?_ ?_
  · refine sn_iconst (v := (1 : Int32)) (pc' := 33) dJ1_equals_b5fdf_32 rfl (by decide) ?_
    exact sn_iret dJ1_equals_b5fdf_33 rfl (by decide)
  · refine sn_aload_n (v := x0) (pc' := 16) dJ1_equals_b5fdf_15 rfl rfl rfl ?_
    refine sn_iload_n (v := x2) (pc' := 17) dJ1_equals_b5fdf_16 rfl rfl rfl ?_
    refine sn_aB (pc' := 18) dJ1_equals_b5fdf_17 rfl (fun v2 => ?_)
    refine sn_aload_n (v := x1) (pc' := 19) dJ1_equals_b5fdf_18 rfl rfl rfl ?_
    refine sn_iload_n (v := x2) (pc' := 20) dJ1_equals_b5fdf_19 rfl rfl rfl ?_
    refine sn_aB (pc' := 21) dJ1_equals_b5fdf_20 rfl (fun v3 => ?_)
    refine sn_ic_eq (pt := 26) (pf := 24) dJ1_equals_b5fdf_21 rfl rfl ?_ ?_
    · refine sn_iinc (v := x2) (w := 1) (L' := [some (va_rf x0), some (va_rf x1), some (.int (x2 + (1 : Int32)))]) (pc' := 29) dJ1_equals_b5fdf_26 rfl rfl rfl (by decide) rfl ?_
      refine sn_goto (pc' := 9) dJ1_equals_b5fdf_29 rfl ?_
      exact sn_weak (le_s (le_s (le_s le_e))) (hk9 x0 x1 (x2 + (1 : Int32)))
    · refine sn_iconst (v := (0 : Int32)) (pc' := 25) dJ1_equals_b5fdf_24 rfl (by decide) ?_
      exact sn_iret dJ1_equals_b5fdf_25 rfl (by decide)
set_option maxRecDepth 100000 in
set_option maxHeartbeats 4000000 in
theorem s_J1_equals_b5fdf_9 (G : GG)   : ∀ (n : Nat) (x0 : Option Nat) (x1 : Option Nat) (x2 : Int32), Sn G yJ1_equals_b5fdf cJ1_equals_b5fdf 3 (some FieldType.boolean) 0 0 (fun v : Int32 => some (.int v)) (J1_equals_b5fdf_9  n x0 x1 x2) 9 [some (va_rf x0), some (va_rf x1), some (.int x2)] [] := by
  intro n
  induction n with
  | zero => intro x0 x1 x2; exact sn_mf
  | succ n ih => intro x0 x1 x2; exact s_J1_equals_b5fdf_9_st G   (J1_equals_b5fdf_9  n) ih x0 x1 x2
set_option maxRecDepth 100000 in
set_option maxHeartbeats 4000000 in
theorem s_J1_equals_b5fdf (G : GG) (a0 : Option Nat) (a1 : Option Nat) : Sn G yJ1_equals_b5fdf cJ1_equals_b5fdf 3 (some FieldType.boolean) 0 0 (fun v : Int32 => some (.int v)) (J1_equals_b5fdf a0 a1) 0 [some (va_rf a0), some (va_rf a1), none] [] := by
  unfold J1_equals_b5fdf
  refine sn_aload_n (v := a0) (pc' := 1) dJ1_equals_b5fdf_0 rfl rfl rfl ?_
  refine sn_aN (pc' := 2) dJ1_equals_b5fdf_1 rfl (fun v1 => ?_)
  refine sn_aload_n (v := a1) (pc' := 3) dJ1_equals_b5fdf_2 rfl rfl rfl ?_
  refine sn_aN (pc' := 4) dJ1_equals_b5fdf_3 rfl (fun v2 => ?_)
  refine sn_ic_ne (pt := 34) (pf := 7) dJ1_equals_b5fdf_4 rfl rfl ?_ ?_
  · refine sn_iconst (v := (0 : Int32)) (pc' := 8) dJ1_equals_b5fdf_7 rfl (by decide) ?_
    refine sn_istore_n (v := (0 : Int32)) (L' := [some (va_rf a0), some (va_rf a1), some (.int (0 : Int32))]) (pc' := 9) dJ1_equals_b5fdf_8 rfl rfl rfl rfl ?_
    exact sn_weak (le_s (le_s (le_s le_e))) (s_J1_equals_b5fdf_9 G LFU a0 a1 (0 : Int32))
  · refine sn_iconst (v := (0 : Int32)) (pc' := 35) dJ1_equals_b5fdf_34 rfl (by decide) ?_
    exact sn_iret dJ1_equals_b5fdf_35 rfl (by decide)
theorem c_J1_equals_b5fdf (G : GG) (a0 : Option Nat) (a1 : Option Nat) : Cal G yJ1_equals_b5fdf cJ1_equals_b5fdf 3 (some FieldType.boolean) 0 0 (fun v : Int32 => some (.int v)) (J1_equals_b5fdf a0 a1) [va_rf a0, va_rf a1] :=
  Cal.of (by decide) (cat_q (cat_q cat_nil)) rfl (sn_weak (le_s (le_s (le_z le_e))) (s_J1_equals_b5fdf G a0 a1))
theorem cw_J1_equals_b5fdf : CW yJ1_equals_b5fdf cJ1_equals_b5fdf 3 (some FieldType.boolean) 2 := ⟨tw1180, tw16, by decide, by decide +kernel⟩
/-! J0_equals_9ea2d -/
theorem dJ0_equals_9ea2d_0 : decode cJ0_equals_9ea2d 0 = .ok (.aload_n 0, 1) := by decide +kernel
theorem dJ0_equals_9ea2d_1 : decode cJ0_equals_9ea2d 1 = .ok (.aload_n 1, 1) := by decide +kernel
theorem dJ0_equals_9ea2d_2 : decode cJ0_equals_9ea2d 2 = .ok (.if_acmp .ne 5, 3) := by decide +kernel
theorem dJ0_equals_9ea2d_5 : decode cJ0_equals_9ea2d 5 = .ok (.iconst 1, 1) := by decide +kernel
theorem dJ0_equals_9ea2d_6 : decode cJ0_equals_9ea2d 6 = .ok (.ireturn, 1) := by decide +kernel
theorem dJ0_equals_9ea2d_7 : decode cJ0_equals_9ea2d 7 = .ok (.aload_n 1, 1) := by decide +kernel
theorem dJ0_equals_9ea2d_8 : decode cJ0_equals_9ea2d 8 = .ok (.instanceof 10, 3) := by decide +kernel
theorem dJ0_equals_9ea2d_11 : decode cJ0_equals_9ea2d 11 = .ok (.ifCond .eq 43, 3) := by decide +kernel
theorem dJ0_equals_9ea2d_14 : decode cJ0_equals_9ea2d 14 = .ok (.aload_n 1, 1) := by decide +kernel
theorem dJ0_equals_9ea2d_15 : decode cJ0_equals_9ea2d 15 = .ok (.checkcast 10, 3) := by decide +kernel
theorem dJ0_equals_9ea2d_18 : decode cJ0_equals_9ea2d 18 = .ok (.astore_n 2, 1) := by decide +kernel
theorem dJ0_equals_9ea2d_19 : decode cJ0_equals_9ea2d 19 = .ok (.getstatic 38, 3) := by decide +kernel
theorem dJ0_equals_9ea2d_22 : decode cJ0_equals_9ea2d 22 = .ok (.ifCond .eq 14, 3) := by decide +kernel
theorem dJ0_equals_9ea2d_25 : decode cJ0_equals_9ea2d 25 = .ok (.aload_n 0, 1) := by decide +kernel
theorem dJ0_equals_9ea2d_26 : decode cJ0_equals_9ea2d 26 = .ok (.getfield 15, 3) := by decide +kernel
theorem dJ0_equals_9ea2d_29 : decode cJ0_equals_9ea2d 29 = .ok (.aload_n 2, 1) := by decide +kernel
theorem dJ0_equals_9ea2d_30 : decode cJ0_equals_9ea2d 30 = .ok (.getfield 15, 3) := by decide +kernel
theorem dJ0_equals_9ea2d_33 : decode cJ0_equals_9ea2d 33 = .ok (.if_icmp .ne 21, 3) := by decide +kernel
theorem dJ0_equals_9ea2d_36 : decode cJ0_equals_9ea2d 36 = .ok (.aload_n 0, 1) := by decide +kernel
theorem dJ0_equals_9ea2d_37 : decode cJ0_equals_9ea2d 37 = .ok (.getfield 9, 3) := by decide +kernel
theorem dJ0_equals_9ea2d_40 : decode cJ0_equals_9ea2d 40 = .ok (.aload_n 2, 1) := by decide +kernel
theorem dJ0_equals_9ea2d_41 : decode cJ0_equals_9ea2d 41 = .ok (.getfield 9, 3) := by decide +kernel
theorem dJ0_equals_9ea2d_44 : decode cJ0_equals_9ea2d 44 = .ok (.invokestatic 541, 3) := by decide +kernel
theorem dJ0_equals_9ea2d_47 : decode cJ0_equals_9ea2d 47 = .ok (.ifCond .eq 7, 3) := by decide +kernel
theorem dJ0_equals_9ea2d_50 : decode cJ0_equals_9ea2d 50 = .ok (.iconst 1, 1) := by decide +kernel
theorem dJ0_equals_9ea2d_51 : decode cJ0_equals_9ea2d 51 = .ok (.goto 4, 3) := by decide +kernel
theorem dJ0_equals_9ea2d_54 : decode cJ0_equals_9ea2d 54 = .ok (.iconst 0, 1) := by decide +kernel
theorem dJ0_equals_9ea2d_55 : decode cJ0_equals_9ea2d 55 = .ok (.ireturn, 1) := by decide +kernel
def J0_equals_9ea2d_36  (this : Nat) (x2 : Option Nat) : MM Int32 :=
  mb (gR 0 (some this) 0) fun v1 =>
  mb (gR 0 x2 0) fun v2 =>
  mb (J1_equals_b5fdf v1 v2) fun v3 =>
  if v3 = 0 then (mr (0 : Int32)) else (mr (1 : Int32))
def J0_equals_9ea2d (this : Nat) (a1 : Option Nat) : MM Int32 :=
  if (some this) = a1 then (mr (1 : Int32)) else (mb (isO 0 a1) fun _ =>
  if (1 : Int32) = 0 then (mr (0 : Int32)) else (mb (isO 0 a1) fun _ =>
  if (1 : Int32) = 0 then ((J0_equals_9ea2d_36 this a1)) else (mb (gI 0 (some this) 1) fun v1 =>
  mb (gI 0 a1 1) fun v2 =>
  if v1 = v2 then ((J0_equals_9ea2d_36 this a1)) else (mr (0 : Int32)))))
set_option maxRecDepth 100000 in
set_option maxHeartbeats 4000000 in
theorem s_J0_equals_9ea2d_36 (G : GG)   (this : Nat) (x2 : Option Nat) : Sn G yJ0_equals_9ea2d cJ0_equals_9ea2d 3 (some FieldType.boolean) 1 22 (fun v : Int32 => some (.int v)) (J0_equals_9ea2d_36  this x2) 36 [some (va_rf (some this)), none, some (va_rf x2)] [] := by
  unfold J0_equals_9ea2d_36
  refine sn_aload_n (v := (some this)) (pc' := 37) dJ0_equals_9ea2d_36 rfl rfl rfl ?_
  refine sn_gR (k := 0) (pc' := 40) ci_0 rfl (Or.inl tw830) dJ0_equals_9ea2d_37 rfl (fun v1 => ?_)
  refine sn_aload_n (v := x2) (pc' := 41) dJ0_equals_9ea2d_40 rfl rfl rfl ?_
  refine sn_gR (k := 0) (pc' := 44) ci_0 rfl (Or.inl tw830) dJ0_equals_9ea2d_41 rfl (fun v2 => ?_)
  refine sn_cS (st := []) (As := [va_rf v1, va_rf v2]) (st2 := (fun v => .int v :: [])) (pc' := 47) (c_J1_equals_b5fdf G v1 v2) cw_J1_equals_b5fdf rfl rfl tw1178 tw1179 rfl rfl cat_nil rfl (fun _ => rfl) dJ0_equals_9ea2d_44 rfl (fun v3 => ?_)
  refine sn_if_eq (pt := 54) (pf := 50) dJ0_equals_9ea2d_47 rfl rfl ?_ ?_
  · refine sn_iconst (v := (0 : Int32)) (pc' := 55) dJ0_equals_9ea2d_54 rfl (by decide) ?_
    exact sn_iret dJ0_equals_9ea2d_55 rfl (by decide)
  · refine sn_iconst (v := (1 : Int32)) (pc' := 51) dJ0_equals_9ea2d_50 rfl (by decide) ?_
    refine sn_goto (pc' := 55) dJ0_equals_9ea2d_51 rfl ?_
    exact sn_iret dJ0_equals_9ea2d_55 rfl (by decide)
set_option maxRecDepth 100000 in
set_option maxHeartbeats 4000000 in
theorem s_J0_equals_9ea2d (G : GG) (this : Nat) (a1 : Option Nat) : Sn G yJ0_equals_9ea2d cJ0_equals_9ea2d 3 (some FieldType.boolean) 1 22 (fun v : Int32 => some (.int v)) (J0_equals_9ea2d this a1) 0 [some (va_rf (some this)), some (va_rf a1), none] [] := by
  unfold J0_equals_9ea2d
  refine sn_aload_n (v := (some this)) (pc' := 1) dJ0_equals_9ea2d_0 rfl rfl rfl ?_
  refine sn_aload_n (v := a1) (pc' := 2) dJ0_equals_9ea2d_1 rfl rfl rfl ?_
  refine sn_acmp_ne (pt := 7) (pf := 5) dJ0_equals_9ea2d_2 rfl rfl ?_ ?_
  · refine sn_iconst (v := (1 : Int32)) (pc' := 6) dJ0_equals_9ea2d_5 rfl (by decide) ?_
    exact sn_iret dJ0_equals_9ea2d_6 rfl (by decide)
  · refine sn_aload_n (v := a1) (pc' := 8) dJ0_equals_9ea2d_7 rfl rfl rfl ?_
    refine sn_inst (pc' := 11) ci_0 tw1177 dJ0_equals_9ea2d_8 rfl (fun _ => ?_)
    refine sn_if_eq (pt := 54) (pf := 14) dJ0_equals_9ea2d_11 rfl rfl ?_ ?_
    · refine sn_iconst (v := (0 : Int32)) (pc' := 55) dJ0_equals_9ea2d_54 rfl (by decide) ?_
      exact sn_iret dJ0_equals_9ea2d_55 rfl (by decide)
    · refine sn_aload_n (v := a1) (pc' := 15) dJ0_equals_9ea2d_14 rfl rfl rfl ?_
      refine sn_cast (pc' := 18) ci_0 tw1177 dJ0_equals_9ea2d_15 rfl (fun _ => ?_)
      refine sn_astore_n (v := a1) (L' := [some (va_rf (some this)), some (va_rf a1), some (va_rf a1)]) (pc' := 19) dJ0_equals_9ea2d_18 rfl rfl rfl rfl ?_
      refine sn_gsI (C := "java/lang/String") (nm := "COMPACT_STRINGS") (d := "Z") (v := (1 : Int32)) (pc' := 22) (by decide +kernel) tw406 dJ0_equals_9ea2d_19 rfl ?_
      refine sn_if_eq (pt := 36) (pf := 25) dJ0_equals_9ea2d_22 rfl rfl ?_ ?_
      · exact sn_weak (le_s (le_n (le_s le_e))) (s_J0_equals_9ea2d_36 G this a1)
      · refine sn_aload_n (v := (some this)) (pc' := 26) dJ0_equals_9ea2d_25 rfl rfl rfl ?_
        refine sn_gI (k := 1) (pc' := 29) ci_0 rfl (Or.inl tw831) dJ0_equals_9ea2d_26 rfl (fun v1 => ?_)
        refine sn_aload_n (v := a1) (pc' := 30) dJ0_equals_9ea2d_29 rfl rfl rfl ?_
        refine sn_gI (k := 1) (pc' := 33) ci_0 rfl (Or.inl tw831) dJ0_equals_9ea2d_30 rfl (fun v2 => ?_)
        refine sn_ic_ne (pt := 54) (pf := 36) dJ0_equals_9ea2d_33 rfl rfl ?_ ?_
        · exact sn_weak (le_s (le_n (le_s le_e))) (s_J0_equals_9ea2d_36 G this a1)
        · refine sn_iconst (v := (0 : Int32)) (pc' := 55) dJ0_equals_9ea2d_54 rfl (by decide) ?_
          exact sn_iret dJ0_equals_9ea2d_55 rfl (by decide)
theorem c_J0_equals_9ea2d (G : GG) (this : Nat) (a1 : Option Nat) : Cal G yJ0_equals_9ea2d cJ0_equals_9ea2d 3 (some FieldType.boolean) 1 22 (fun v : Int32 => some (.int v)) (J0_equals_9ea2d this a1) [.ref this, va_rf a1] :=
  Cal.of (by decide) (cat_t (cat_q cat_nil)) rfl (sn_weak (le_s (le_s (le_z le_e))) (s_J0_equals_9ea2d G this a1))
theorem cw_J0_equals_9ea2d : CW yJ0_equals_9ea2d cJ0_equals_9ea2d 3 (some FieldType.boolean) 1 := ⟨tw1176, tw13, by decide, by decide +kernel⟩
/-! X11_same -/
theorem dX11_same_0 : decode cX11_same 0 = .ok (.aload_n 0, 1) := by decide +kernel
theorem dX11_same_1 : decode cX11_same 1 = .ok (.iload_n 1, 1) := by decide +kernel
theorem dX11_same_2 : decode cX11_same 2 = .ok (.invokevirtual 102, 3) := by decide +kernel
theorem dX11_same_5 : decode cX11_same 5 = .ok (.astore_n 3, 1) := by decide +kernel
theorem dX11_same_6 : decode cX11_same 6 = .ok (.aload_n 0, 1) := by decide +kernel
theorem dX11_same_7 : decode cX11_same 7 = .ok (.iload_n 2, 1) := by decide +kernel
theorem dX11_same_8 : decode cX11_same 8 = .ok (.invokevirtual 102, 3) := by decide +kernel
theorem dX11_same_11 : decode cX11_same 11 = .ok (.astore 4, 2) := by decide +kernel
theorem dX11_same_13 : decode cX11_same 13 = .ok (.aload_n 3, 1) := by decide +kernel
theorem dX11_same_14 : decode cX11_same 14 = .ok (.ifnull 8, 3) := by decide +kernel
theorem dX11_same_17 : decode cX11_same 17 = .ok (.aload 4, 2) := by decide +kernel
theorem dX11_same_19 : decode cX11_same 19 = .ok (.ifnonnull 9, 3) := by decide +kernel
theorem dX11_same_22 : decode cX11_same 22 = .ok (.aload_n 0, 1) := by decide +kernel
theorem dX11_same_23 : decode cX11_same 23 = .ok (.iconst 1, 1) := by decide +kernel
theorem dX11_same_24 : decode cX11_same 24 = .ok (.invokevirtual 71, 3) := by decide +kernel
theorem dX11_same_27 : decode cX11_same 27 = .ok (.ireturn, 1) := by decide +kernel
theorem dX11_same_28 : decode cX11_same 28 = .ok (.aload_n 0, 1) := by decide +kernel
theorem dX11_same_29 : decode cX11_same 29 = .ok (.aload_n 3, 1) := by decide +kernel
theorem dX11_same_30 : decode cX11_same 30 = .ok (.getfield 163, 3) := by decide +kernel
theorem dX11_same_33 : decode cX11_same 33 = .ok (.aload 4, 2) := by decide +kernel
theorem dX11_same_35 : decode cX11_same 35 = .ok (.getfield 163, 3) := by decide +kernel
theorem dX11_same_38 : decode cX11_same 38 = .ok (.invokevirtual 175, 3) := by decide +kernel
theorem dX11_same_41 : decode cX11_same 41 = .ok (.ifCond .eq 7, 3) := by decide +kernel
theorem dX11_same_44 : decode cX11_same 44 = .ok (.iconst 1, 1) := by decide +kernel
theorem dX11_same_45 : decode cX11_same 45 = .ok (.goto 4, 3) := by decide +kernel
theorem dX11_same_48 : decode cX11_same 48 = .ok (.iconst 0, 1) := by decide +kernel
theorem dX11_same_49 : decode cX11_same 49 = .ok (.invokevirtual 82, 3) := by decide +kernel
theorem dX11_same_52 : decode cX11_same 52 = .ok (.ireturn, 1) := by decide +kernel
def X11_same_22  (this : Nat) : MM Int32 :=
  mb (wc 12 (some this) fun t => X11_refuse t (1 : Int32)) fun v1 =>
  mr v1
def X11_same_49  (this : Nat) (y0 : Int32) : MM Int32 :=
  mb (wc 12 (some this) fun t => X11_answer t y0) fun v1 =>
  mr v1
def X11_same (this : Nat) (a1 : Int32) (a2 : Int32) : MM Int32 :=
  mb (wc 12 (some this) fun t => X11_bookAt t a1) fun v1 =>
  mb (wc 12 (some this) fun t => X11_bookAt t a2) fun v2 =>
  if v1 = none then ((X11_same_22 this)) else (if v2 = none then ((X11_same_22 this)) else (mb (gR 2 v1 6) fun v3 =>
  mb (gR 2 v2 6) fun v4 =>
  mb (wc 0 v3 fun t => J0_equals_9ea2d t v4) fun v5 =>
  if v5 = 0 then ((X11_same_49 this (0 : Int32))) else ((X11_same_49 this (1 : Int32)))))
set_option maxRecDepth 100000 in
set_option maxHeartbeats 4000000 in
theorem s_X11_same_22 (G : GG)   (this : Nat) : Sn G yX11_same cX11_same 5 (some FieldType.int) 2 44 (fun v : Int32 => some (.int v)) (X11_same_22  this) 22 [some (va_rf (some this)), none, none, none, none] [] := by
  unfold X11_same_22
  refine sn_aload_n (v := (some this)) (pc' := 23) dX11_same_22 rfl rfl rfl ?_
  refine sn_iconst (v := (1 : Int32)) (pc' := 24) dX11_same_23 rfl (by decide) ?_
  refine sn_cV (r := (some this)) (st := []) (As := [.int (1 : Int32)]) (st2 := (fun v => .int v :: [])) (pc' := 27) ci_12 (fun t => c_X11_refuse G t (1 : Int32)) cw_X11_refuse rfl rfl tw318 pw0 tw320 rfl rfl cat_nil rfl (fun _ => rfl) dX11_same_24 rfl (fun v1 => ?_)
  exact sn_iret dX11_same_27 rfl rfl
set_option maxRecDepth 100000 in
set_option maxHeartbeats 4000000 in
theorem s_X11_same_49 (G : GG)   (this : Nat) (y0 : Int32) : Sn G yX11_same cX11_same 5 (some FieldType.int) 2 44 (fun v : Int32 => some (.int v)) (X11_same_49  this y0) 49 [none, none, none, none, none] [.int y0, va_rf (some this)] := by
  unfold X11_same_49
  refine sn_cV (r := (some this)) (st := []) (As := [.int y0]) (st2 := (fun v => .int v :: [])) (pc' := 52) ci_12 (fun t => c_X11_answer G t y0) cw_X11_answer rfl rfl tw326 pw1 tw328 rfl rfl cat_nil rfl (fun _ => rfl) dX11_same_49 rfl (fun v1 => ?_)
  exact sn_iret dX11_same_52 rfl rfl
set_option maxRecDepth 100000 in
set_option maxHeartbeats 4000000 in
theorem s_X11_same (G : GG) (this : Nat) (a1 : Int32) (a2 : Int32) : Sn G yX11_same cX11_same 5 (some FieldType.int) 2 44 (fun v : Int32 => some (.int v)) (X11_same this a1 a2) 0 [some (va_rf (some this)), some (.int a1), some (.int a2), none, none] [] := by
  unfold X11_same
  refine sn_aload_n (v := (some this)) (pc' := 1) dX11_same_0 rfl rfl rfl ?_
  refine sn_iload_n (v := a1) (pc' := 2) dX11_same_1 rfl rfl rfl ?_
  refine sn_cV (r := (some this)) (st := []) (As := [.int a1]) (st2 := (fun v => va_rf v :: [])) (pc' := 5) ci_12 (fun t => c_X11_bookAt G t a1) cw_X11_bookAt rfl rfl tw910 pw22 tw912 rfl rfl cat_nil rfl (fun _ => rfl) dX11_same_2 rfl (fun v1 => ?_)
  refine sn_astore_n (v := v1) (L' := [some (va_rf (some this)), some (.int a1), some (.int a2), some (va_rf v1), none]) (pc' := 6) dX11_same_5 rfl rfl rfl rfl ?_
  refine sn_aload_n (v := (some this)) (pc' := 7) dX11_same_6 rfl rfl rfl ?_
  refine sn_iload_n (v := a2) (pc' := 8) dX11_same_7 rfl rfl rfl ?_
  refine sn_cV (r := (some this)) (st := []) (As := [.int a2]) (st2 := (fun v => va_rf v :: [])) (pc' := 11) ci_12 (fun t => c_X11_bookAt G t a2) cw_X11_bookAt rfl rfl tw910 pw22 tw912 rfl rfl cat_nil rfl (fun _ => rfl) dX11_same_8 rfl (fun v2 => ?_)
  refine sn_astore (v := v2) (L' := [some (va_rf (some this)), some (.int a1), some (.int a2), some (va_rf v1), some (va_rf v2)]) (pc' := 13) dX11_same_11 rfl rfl rfl ?_
  refine sn_aload_n (v := v1) (pc' := 14) dX11_same_13 rfl rfl rfl ?_
  refine sn_ifnull (pt := 22) (pf := 17) dX11_same_14 rfl rfl ?_ ?_
  · exact sn_weak (le_s (le_n (le_n (le_n (le_n le_e))))) (s_X11_same_22 G this)
  · refine sn_aload (v := v2) (pc' := 19) dX11_same_17 rfl rfl ?_
    refine sn_ifnonnull (pt := 28) (pf := 22) dX11_same_19 rfl rfl ?_ ?_
    · exact sn_weak (le_s (le_n (le_n (le_n (le_n le_e))))) (s_X11_same_22 G this)
    · refine sn_aload_n (v := (some this)) (pc' := 29) dX11_same_28 rfl rfl rfl ?_
      refine sn_aload_n (v := v1) (pc' := 30) dX11_same_29 rfl rfl rfl ?_
      refine sn_gR (k := 6) (pc' := 33) ci_2 rfl (Or.inr ⟨_, nw890⟩) dX11_same_30 rfl (fun v3 => ?_)
      refine sn_aload (v := v2) (pc' := 35) dX11_same_33 rfl rfl ?_
      refine sn_gR (k := 6) (pc' := 38) ci_2 rfl (Or.inr ⟨_, nw890⟩) dX11_same_35 rfl (fun v4 => ?_)
      refine sn_cV (r := v3) (st := [va_rf (some this)]) (As := [va_rf v4]) (st2 := (fun v => .int v :: [va_rf (some this)])) (pc' := 41) ci_0 (fun t => c_J0_equals_9ea2d G t v4) cw_J0_equals_9ea2d rfl rfl tw1173 tw1175 tw1174 rfl rfl (cat_q cat_nil) rfl (fun _ => rfl) dX11_same_38 rfl (fun v5 => ?_)
      refine sn_if_eq (pt := 48) (pf := 44) dX11_same_41 rfl rfl ?_ ?_
      · refine sn_iconst (v := (0 : Int32)) (pc' := 49) dX11_same_48 rfl (by decide) ?_
        exact sn_weak (le_n (le_n (le_n (le_n (le_n le_e))))) (s_X11_same_49 G this (0 : Int32))
      · refine sn_iconst (v := (1 : Int32)) (pc' := 45) dX11_same_44 rfl (by decide) ?_
        refine sn_goto (pc' := 49) dX11_same_45 rfl ?_
        exact sn_weak (le_n (le_n (le_n (le_n (le_n le_e))))) (s_X11_same_49 G this (1 : Int32))
theorem c_X11_same (G : GG) (this : Nat) (a1 : Int32) (a2 : Int32) : Cal G yX11_same cX11_same 5 (some FieldType.int) 2 44 (fun v : Int32 => some (.int v)) (X11_same this a1 a2) [.ref this, .int a1, .int a2] :=
  Cal.of (by decide) (cat_t (cat_i (cat_i cat_nil))) rfl (sn_weak (le_s (le_s (le_s (le_z (le_z le_e))))) (s_X11_same G this a1 a2))
theorem cw_X11_same : CW yX11_same cX11_same 5 (some FieldType.int) 2 := ⟨tw1172, tw1, by decide, by decide +kernel⟩
/-! X11_isFormat -/
theorem dX11_isFormat_0 : decode cX11_isFormat 0 = .ok (.iload_n 0, 1) := by decide +kernel
theorem dX11_isFormat_1 : decode cX11_isFormat 1 = .ok (.iconst 2, 1) := by decide +kernel
theorem dX11_isFormat_2 : decode cX11_isFormat 2 = .ok (.if_icmp .eq 14, 3) := by decide +kernel
theorem dX11_isFormat_5 : decode cX11_isFormat 5 = .ok (.iload_n 0, 1) := by decide +kernel
theorem dX11_isFormat_6 : decode cX11_isFormat 6 = .ok (.iconst 4, 1) := by decide +kernel
theorem dX11_isFormat_7 : decode cX11_isFormat 7 = .ok (.if_icmp .eq 9, 3) := by decide +kernel
theorem dX11_isFormat_10 : decode cX11_isFormat 10 = .ok (.iload_n 0, 1) := by decide +kernel
theorem dX11_isFormat_11 : decode cX11_isFormat 11 = .ok (.bipush 8, 2) := by decide +kernel
theorem dX11_isFormat_13 : decode cX11_isFormat 13 = .ok (.if_icmp .ne 7, 3) := by decide +kernel
theorem dX11_isFormat_16 : decode cX11_isFormat 16 = .ok (.iconst 1, 1) := by decide +kernel
theorem dX11_isFormat_17 : decode cX11_isFormat 17 = .ok (.goto 4, 3) := by decide +kernel
theorem dX11_isFormat_20 : decode cX11_isFormat 20 = .ok (.iconst 0, 1) := by decide +kernel
theorem dX11_isFormat_21 : decode cX11_isFormat 21 = .ok (.ireturn, 1) := by decide +kernel
def X11_isFormat (a0 : Int32) : MM Int32 :=
  if a0 = (2 : Int32) then (mr (1 : Int32)) else (if a0 = (4 : Int32) then (mr (1 : Int32)) else (if a0 = (8 : Int32) then (mr (1 : Int32)) else (mr (0 : Int32))))
set_option maxRecDepth 100000 in
set_option maxHeartbeats 4000000 in
theorem s_X11_isFormat (G : GG) (a0 : Int32) : Sn G yX11_isFormat cX11_isFormat 1 (some FieldType.boolean) 0 0 (fun v : Int32 => some (.int v)) (X11_isFormat a0) 0 [some (.int a0)] [] := by
  unfold X11_isFormat
  refine sn_iload_n (v := a0) (pc' := 1) dX11_isFormat_0 rfl rfl rfl ?_
  refine sn_iconst (v := (2 : Int32)) (pc' := 2) dX11_isFormat_1 rfl (by decide) ?_
  refine sn_ic_eq (pt := 16) (pf := 5) dX11_isFormat_2 rfl rfl ?_ ?_
  · refine sn_iconst (v := (1 : Int32)) (pc' := 17) dX11_isFormat_16 rfl (by decide) ?_
    refine sn_goto (pc' := 21) dX11_isFormat_17 rfl ?_
    exact sn_iret dX11_isFormat_21 rfl (by decide)
  · refine sn_iload_n (v := a0) (pc' := 6) dX11_isFormat_5 rfl rfl rfl ?_
    refine sn_iconst (v := (4 : Int32)) (pc' := 7) dX11_isFormat_6 rfl (by decide) ?_
    refine sn_ic_eq (pt := 16) (pf := 10) dX11_isFormat_7 rfl rfl ?_ ?_
    · refine sn_iconst (v := (1 : Int32)) (pc' := 17) dX11_isFormat_16 rfl (by decide) ?_
      refine sn_goto (pc' := 21) dX11_isFormat_17 rfl ?_
      exact sn_iret dX11_isFormat_21 rfl (by decide)
    · refine sn_iload_n (v := a0) (pc' := 11) dX11_isFormat_10 rfl rfl rfl ?_
      refine sn_bipush (v := (8 : Int32)) (pc' := 13) dX11_isFormat_11 rfl (by decide) ?_
      refine sn_ic_ne (pt := 20) (pf := 16) dX11_isFormat_13 rfl rfl ?_ ?_
      · refine sn_iconst (v := (1 : Int32)) (pc' := 17) dX11_isFormat_16 rfl (by decide) ?_
        refine sn_goto (pc' := 21) dX11_isFormat_17 rfl ?_
        exact sn_iret dX11_isFormat_21 rfl (by decide)
      · refine sn_iconst (v := (0 : Int32)) (pc' := 21) dX11_isFormat_20 rfl (by decide) ?_
        exact sn_iret dX11_isFormat_21 rfl (by decide)
theorem c_X11_isFormat (G : GG) (a0 : Int32) : Cal G yX11_isFormat cX11_isFormat 1 (some FieldType.boolean) 0 0 (fun v : Int32 => some (.int v)) (X11_isFormat a0) [.int a0] :=
  Cal.of (by decide) (cat_i cat_nil) rfl (sn_weak (le_s le_e) (s_X11_isFormat G a0))
theorem cw_X11_isFormat : CW yX11_isFormat cX11_isFormat 1 (some FieldType.boolean) 1 := ⟨tw1187, tw1, by decide, by decide +kernel⟩
/-! X0_sheetInGathering -/
theorem dX0_sheetInGathering_0 : decode cX0_sheetInGathering 0 = .ok (.iload_n 2, 1) := by decide +kernel
theorem dX0_sheetInGathering_1 : decode cX0_sheetInGathering 1 = .ok (.iconst 2, 1) := by decide +kernel
theorem dX0_sheetInGathering_2 : decode cX0_sheetInGathering 2 = .ok (.idiv, 1) := by decide +kernel
theorem dX0_sheetInGathering_3 : decode cX0_sheetInGathering 3 = .ok (.istore_n 3, 1) := by decide +kernel
theorem dX0_sheetInGathering_4 : decode cX0_sheetInGathering 4 = .ok (.iload_n 3, 1) := by decide +kernel
theorem dX0_sheetInGathering_5 : decode cX0_sheetInGathering 5 = .ok (.iconst 1, 1) := by decide +kernel
theorem dX0_sheetInGathering_6 : decode cX0_sheetInGathering 6 = .ok (.if_icmp .ge 7, 3) := by decide +kernel
theorem dX0_sheetInGathering_9 : decode cX0_sheetInGathering 9 = .ok (.iconst 0, 1) := by decide +kernel
theorem dX0_sheetInGathering_10 : decode cX0_sheetInGathering 10 = .ok (.goto 14, 3) := by decide +kernel
theorem dX0_sheetInGathering_13 : decode cX0_sheetInGathering 13 = .ok (.iload_n 0, 1) := by decide +kernel
theorem dX0_sheetInGathering_14 : decode cX0_sheetInGathering 14 = .ok (.iconst 1, 1) := by decide +kernel
theorem dX0_sheetInGathering_15 : decode cX0_sheetInGathering 15 = .ok (.isub, 1) := by decide +kernel
theorem dX0_sheetInGathering_16 : decode cX0_sheetInGathering 16 = .ok (.iload_n 1, 1) := by decide +kernel
theorem dX0_sheetInGathering_17 : decode cX0_sheetInGathering 17 = .ok (.iload_n 0, 1) := by decide +kernel
theorem dX0_sheetInGathering_18 : decode cX0_sheetInGathering 18 = .ok (.isub, 1) := by decide +kernel
theorem dX0_sheetInGathering_19 : decode cX0_sheetInGathering 19 = .ok (.invokestatic 145, 3) := by decide +kernel
theorem dX0_sheetInGathering_22 : decode cX0_sheetInGathering 22 = .ok (.iload_n 3, 1) := by decide +kernel
theorem dX0_sheetInGathering_23 : decode cX0_sheetInGathering 23 = .ok (.idiv, 1) := by decide +kernel
theorem dX0_sheetInGathering_24 : decode cX0_sheetInGathering 24 = .ok (.ireturn, 1) := by decide +kernel
def X0_sheetInGathering (a0 : Int32) (a1 : Int32) (a2 : Int32) : MM Int32 :=
  mb (dI a2 (2 : Int32)) fun v1 =>
  if (1 : Int32) ≤ v1 then (mb (dI (if (a1 - a0) < (a0 - (1 : Int32)) then (a1 - a0) else (a0 - (1 : Int32))) v1) fun v2 =>
  mr v2) else (mr (0 : Int32))
set_option maxRecDepth 100000 in
set_option maxHeartbeats 4000000 in
theorem s_X0_sheetInGathering (G : GG) (a0 : Int32) (a1 : Int32) (a2 : Int32) : Sn G yX0_sheetInGathering cX0_sheetInGathering 4 (some FieldType.int) 1 13 (fun v : Int32 => some (.int v)) (X0_sheetInGathering a0 a1 a2) 0 [some (.int a0), some (.int a1), some (.int a2), none] [] := by
  unfold X0_sheetInGathering
  refine sn_iload_n (v := a2) (pc' := 1) dX0_sheetInGathering_0 rfl rfl rfl ?_
  refine sn_iconst (v := (2 : Int32)) (pc' := 2) dX0_sheetInGathering_1 rfl (by decide) ?_
  refine sn_dI (pc' := 3) dX0_sheetInGathering_2 rfl (fun v1 => ?_)
  refine sn_istore_n (v := v1) (L' := [some (.int a0), some (.int a1), some (.int a2), some (.int v1)]) (pc' := 4) dX0_sheetInGathering_3 rfl rfl rfl rfl ?_
  refine sn_iload_n (v := v1) (pc' := 5) dX0_sheetInGathering_4 rfl rfl rfl ?_
  refine sn_iconst (v := (1 : Int32)) (pc' := 6) dX0_sheetInGathering_5 rfl (by decide) ?_
  refine sn_ic_ge (pt := 13) (pf := 9) dX0_sheetInGathering_6 rfl rfl ?_ ?_
  · refine sn_iload_n (v := a0) (pc' := 14) dX0_sheetInGathering_13 rfl rfl rfl ?_
    refine sn_iconst (v := (1 : Int32)) (pc' := 15) dX0_sheetInGathering_14 rfl (by decide) ?_
    refine sn_isub (pc' := 16) dX0_sheetInGathering_15 rfl ?_
    refine sn_iload_n (v := a1) (pc' := 17) dX0_sheetInGathering_16 rfl rfl rfl ?_
    refine sn_iload_n (v := a0) (pc' := 18) dX0_sheetInGathering_17 rfl rfl rfl ?_
    refine sn_isub (pc' := 19) dX0_sheetInGathering_18 rfl ?_
    refine sn_min (pc' := 22) rfl tw1195 tw423 tw4 tw424 cat_nil rfl dX0_sheetInGathering_19 rfl ?_
    refine sn_iload_n (v := v1) (pc' := 23) dX0_sheetInGathering_22 rfl rfl rfl ?_
    refine sn_dI (pc' := 24) dX0_sheetInGathering_23 rfl (fun v2 => ?_)
    exact sn_iret dX0_sheetInGathering_24 rfl rfl
  · refine sn_iconst (v := (0 : Int32)) (pc' := 10) dX0_sheetInGathering_9 rfl (by decide) ?_
    refine sn_goto (pc' := 24) dX0_sheetInGathering_10 rfl ?_
    exact sn_iret dX0_sheetInGathering_24 rfl rfl
theorem c_X0_sheetInGathering (G : GG) (a0 : Int32) (a1 : Int32) (a2 : Int32) : Cal G yX0_sheetInGathering cX0_sheetInGathering 4 (some FieldType.int) 1 13 (fun v : Int32 => some (.int v)) (X0_sheetInGathering a0 a1 a2) [.int a0, .int a1, .int a2] :=
  Cal.of (by decide) (cat_i (cat_i (cat_i cat_nil))) rfl (sn_weak (le_s (le_s (le_s (le_z le_e)))) (s_X0_sheetInGathering G a0 a1 a2))
theorem cw_X0_sheetInGathering : CW yX0_sheetInGathering cX0_sheetInGathering 4 (some FieldType.int) 3 := ⟨tw1194, tw21, by decide, by decide +kernel⟩
/-! X0_sheetsAhead -/
theorem dX0_sheetsAhead_0 : decode cX0_sheetsAhead 0 = .ok (.iconst 0, 1) := by decide +kernel
theorem dX0_sheetsAhead_1 : decode cX0_sheetsAhead 1 = .ok (.istore_n 3, 1) := by decide +kernel
theorem dX0_sheetsAhead_2 : decode cX0_sheetsAhead 2 = .ok (.iconst 0, 1) := by decide +kernel
theorem dX0_sheetsAhead_3 : decode cX0_sheetsAhead 3 = .ok (.istore 4, 2) := by decide +kernel
theorem dX0_sheetsAhead_5 : decode cX0_sheetsAhead 5 = .ok (.iload 4, 2) := by decide +kernel
theorem dX0_sheetsAhead_7 : decode cX0_sheetsAhead 7 = .ok (.iload_n 1, 1) := by decide +kernel
theorem dX0_sheetsAhead_8 : decode cX0_sheetsAhead 8 = .ok (.if_icmp .ge 44, 3) := by decide +kernel
theorem dX0_sheetsAhead_11 : decode cX0_sheetsAhead 11 = .ok (.aload_n 0, 1) := by decide +kernel
theorem dX0_sheetsAhead_12 : decode cX0_sheetsAhead 12 = .ok (.getfield 12, 3) := by decide +kernel
theorem dX0_sheetsAhead_15 : decode cX0_sheetsAhead 15 = .ok (.aload_n 0, 1) := by decide +kernel
theorem dX0_sheetsAhead_16 : decode cX0_sheetsAhead 16 = .ok (.getfield 12, 3) := by decide +kernel
theorem dX0_sheetsAhead_19 : decode cX0_sheetsAhead 19 = .ok (.iload 4, 2) := by decide +kernel
theorem dX0_sheetsAhead_21 : decode cX0_sheetsAhead 21 = .ok (.invokevirtual 55, 3) := by decide +kernel
theorem dX0_sheetsAhead_24 : decode cX0_sheetsAhead 24 = .ok (.invokevirtual 59, 3) := by decide +kernel
theorem dX0_sheetsAhead_27 : decode cX0_sheetsAhead 27 = .ok (.istore 5, 2) := by decide +kernel
theorem dX0_sheetsAhead_29 : decode cX0_sheetsAhead 29 = .ok (.iload_n 3, 1) := by decide +kernel
theorem dX0_sheetsAhead_30 : decode cX0_sheetsAhead 30 = .ok (.iload 5, 2) := by decide +kernel
theorem dX0_sheetsAhead_32 : decode cX0_sheetsAhead 32 = .ok (.iconst 1, 1) := by decide +kernel
theorem dX0_sheetsAhead_33 : decode cX0_sheetsAhead 33 = .ok (.iadd, 1) := by decide +kernel
theorem dX0_sheetsAhead_34 : decode cX0_sheetsAhead 34 = .ok (.iconst 2, 1) := by decide +kernel
theorem dX0_sheetsAhead_35 : decode cX0_sheetsAhead 35 = .ok (.idiv, 1) := by decide +kernel
theorem dX0_sheetsAhead_36 : decode cX0_sheetsAhead 36 = .ok (.iload 5, 2) := by decide +kernel
theorem dX0_sheetsAhead_38 : decode cX0_sheetsAhead 38 = .ok (.iload_n 2, 1) := by decide +kernel
theorem dX0_sheetsAhead_39 : decode cX0_sheetsAhead 39 = .ok (.invokestatic 135, 3) := by decide +kernel
theorem dX0_sheetsAhead_42 : decode cX0_sheetsAhead 42 = .ok (.iconst 1, 1) := by decide +kernel
theorem dX0_sheetsAhead_43 : decode cX0_sheetsAhead 43 = .ok (.iadd, 1) := by decide +kernel
theorem dX0_sheetsAhead_44 : decode cX0_sheetsAhead 44 = .ok (.iadd, 1) := by decide +kernel
theorem dX0_sheetsAhead_45 : decode cX0_sheetsAhead 45 = .ok (.istore_n 3, 1) := by decide +kernel
theorem dX0_sheetsAhead_46 : decode cX0_sheetsAhead 46 = .ok (.iinc 4 1, 3) := by decide +kernel
theorem dX0_sheetsAhead_49 : decode cX0_sheetsAhead 49 = .ok (.goto (-44), 3) := by decide +kernel
theorem dX0_sheetsAhead_52 : decode cX0_sheetsAhead 52 = .ok (.iload_n 3, 1) := by decide +kernel
theorem dX0_sheetsAhead_53 : decode cX0_sheetsAhead 53 = .ok (.ireturn, 1) := by decide +kernel
def X0_sheetsAhead_5_st  (k5 : Nat → Int32 → Int32 → Int32 → Int32 → MM Int32) (this : Nat) (x1 : Int32) (x2 : Int32) (x3 : Int32) (x4 : Int32) : MM Int32 :=
  if x1 ≤ x4 then (mr x3) else (mb (gR 2 (some this) 0) fun v1 =>
  mb (gR 2 (some this) 0) fun v2 =>
  mb (wc 7 v2 fun t => X6_signOf t x4) fun v3 =>
  mb (wc 7 v1 fun t => X6_sizeOf t v3) fun v4 =>
  mb (dI (v4 + (1 : Int32)) (2 : Int32)) fun v5 =>
  mb (X0_sheetInGathering v5 v4 x2) fun v6 =>
  (k5 this x1 x2 (x3 + (v6 + (1 : Int32))) (x4 + (1 : Int32))))
def X0_sheetsAhead_5  : Nat → Nat → Int32 → Int32 → Int32 → Int32 → MM Int32
  | 0 => fun _ _ _ _ _ => mf
  | n + 1 => fun this x1 x2 x3 x4 => X0_sheetsAhead_5_st  (X0_sheetsAhead_5  n) this x1 x2 x3 x4
def X0_sheetsAhead (this : Nat) (a1 : Int32) (a2 : Int32) : MM Int32 :=
  (X0_sheetsAhead_5 LFU this a1 a2 (0 : Int32) (0 : Int32))
set_option maxRecDepth 100000 in
set_option maxHeartbeats 4000000 in
theorem s_X0_sheetsAhead_5_st (G : GG)   (k5 : Nat → Int32 → Int32 → Int32 → Int32 → MM Int32) (hk5 : ∀ (this : Nat) (x1 : Int32) (x2 : Int32) (x3 : Int32) (x4 : Int32), Sn G yX0_sheetsAhead cX0_sheetsAhead 6 (some FieldType.int) 2 36 (fun v : Int32 => some (.int v)) (k5 this x1 x2 x3 x4) 5 [some (va_rf (some this)), some (.int x1), some (.int x2), some (.int x3), some (.int x4), none] []) (this : Nat) (x1 : Int32) (x2 : Int32) (x3 : Int32) (x4 : Int32) : Sn G yX0_sheetsAhead cX0_sheetsAhead 6 (some FieldType.int) 2 36 (fun v : Int32 => some (.int v)) (X0_sheetsAhead_5_st  k5 this x1 x2 x3 x4) 5 [some (va_rf (some this)), some (.int x1), some (.int x2), some (.int x3), some (.int x4), none] [] := by
  unfold X0_sheetsAhead_5_st
  refine sn_iload (v := x4) (pc' := 7) dX0_sheetsAhead_5 rfl rfl ?_
  refine sn_iload_n (v := x1) (pc' := 8) dX0_sheetsAhead_7 rfl rfl rfl ?_
  refine sn_ic_ge (pt := 52) (pf := 11) dX0_sheetsAhead_8 rfl rfl ?_ ?_
  · refine sn_iload_n (v := x3) (pc' := 53) dX0_sheetsAhead_52 rfl rfl rfl ?_
    exact sn_iret dX0_sheetsAhead_53 rfl rfl
  · refine sn_aload_n (v := (some this)) (pc' := 12) dX0_sheetsAhead_11 rfl rfl rfl ?_
    refine sn_gR (k := 0) (pc' := 15) ci_2 rfl (Or.inl tw880) dX0_sheetsAhead_12 rfl (fun v1 => ?_)
    refine sn_aload_n (v := (some this)) (pc' := 16) dX0_sheetsAhead_15 rfl rfl rfl ?_
    refine sn_gR (k := 0) (pc' := 19) ci_2 rfl (Or.inl tw880) dX0_sheetsAhead_16 rfl (fun v2 => ?_)
    refine sn_iload (v := x4) (pc' := 21) dX0_sheetsAhead_19 rfl rfl ?_
    refine sn_cV (r := v2) (st := [va_rf v1]) (As := [.int x4]) (st2 := (fun v => .int v :: [va_rf v1])) (pc' := 24) ci_7 (fun t => c_X6_signOf G t x4) cw_X6_signOf rfl rfl tw858 tw649 tw648 rfl rfl (cat_q cat_nil) rfl (fun _ => rfl) dX0_sheetsAhead_21 rfl (fun v3 => ?_)
    refine sn_cV (r := v1) (st := []) (As := [.int v3]) (st2 := (fun v => .int v :: [])) (pc' := 27) ci_7 (fun t => c_X6_sizeOf G t v3) cw_X6_sizeOf rfl rfl tw859 tw539 tw538 rfl rfl cat_nil rfl (fun _ => rfl) dX0_sheetsAhead_24 rfl (fun v4 => ?_)
    refine sn_istore (v := v4) (L' := [some (va_rf (some this)), some (.int x1), some (.int x2), some (.int x3), some (.int x4), some (.int v4)]) (pc' := 29) dX0_sheetsAhead_27 rfl rfl rfl ?_
    refine sn_iload_n (v := x3) (pc' := 30) dX0_sheetsAhead_29 rfl rfl rfl ?_
    refine sn_iload (v := v4) (pc' := 32) dX0_sheetsAhead_30 rfl rfl ?_
    refine sn_iconst (v := (1 : Int32)) (pc' := 33) dX0_sheetsAhead_32 rfl (by decide) ?_
    refine sn_iadd (pc' := 34) dX0_sheetsAhead_33 rfl ?_
    refine sn_iconst (v := (2 : Int32)) (pc' := 35) dX0_sheetsAhead_34 rfl (by decide) ?_
    refine sn_dI (pc' := 36) dX0_sheetsAhead_35 rfl (fun v5 => ?_)
    refine sn_iload (v := v4) (pc' := 38) dX0_sheetsAhead_36 rfl rfl ?_
    refine sn_iload_n (v := x2) (pc' := 39) dX0_sheetsAhead_38 rfl rfl rfl ?_
    refine sn_cS (st := [.int x3]) (As := [.int v5, .int v4, .int x2]) (st2 := (fun v => .int v :: [.int x3])) (pc' := 42) (c_X0_sheetInGathering G v5 v4 x2) cw_X0_sheetInGathering rfl rfl tw1192 tw1193 rfl rfl (cat_i cat_nil) rfl (fun _ => rfl) dX0_sheetsAhead_39 rfl (fun v6 => ?_)
    refine sn_iconst (v := (1 : Int32)) (pc' := 43) dX0_sheetsAhead_42 rfl (by decide) ?_
    refine sn_iadd (pc' := 44) dX0_sheetsAhead_43 rfl ?_
    refine sn_iadd (pc' := 45) dX0_sheetsAhead_44 rfl ?_
    refine sn_istore_n (v := (x3 + (v6 + (1 : Int32)))) (L' := [some (va_rf (some this)), some (.int x1), some (.int x2), some (.int (x3 + (v6 + (1 : Int32)))), some (.int x4), some (.int v4)]) (pc' := 46) dX0_sheetsAhead_45 rfl rfl rfl rfl ?_
    refine sn_iinc (v := x4) (w := 1) (L' := [some (va_rf (some this)), some (.int x1), some (.int x2), some (.int (x3 + (v6 + (1 : Int32)))), some (.int (x4 + (1 : Int32))), some (.int v4)]) (pc' := 49) dX0_sheetsAhead_46 rfl rfl rfl (by decide) rfl ?_
    refine sn_goto (pc' := 5) dX0_sheetsAhead_49 rfl ?_
    exact sn_weak (le_s (le_s (le_s (le_s (le_s (le_n le_e)))))) (hk5 this x1 x2 (x3 + (v6 + (1 : Int32))) (x4 + (1 : Int32)))
set_option maxRecDepth 100000 in
set_option maxHeartbeats 4000000 in
theorem s_X0_sheetsAhead_5 (G : GG)   : ∀ (n : Nat) (this : Nat) (x1 : Int32) (x2 : Int32) (x3 : Int32) (x4 : Int32), Sn G yX0_sheetsAhead cX0_sheetsAhead 6 (some FieldType.int) 2 36 (fun v : Int32 => some (.int v)) (X0_sheetsAhead_5  n this x1 x2 x3 x4) 5 [some (va_rf (some this)), some (.int x1), some (.int x2), some (.int x3), some (.int x4), none] [] := by
  intro n
  induction n with
  | zero => intro this x1 x2 x3 x4; exact sn_mf
  | succ n ih => intro this x1 x2 x3 x4; exact s_X0_sheetsAhead_5_st G   (X0_sheetsAhead_5  n) ih this x1 x2 x3 x4
set_option maxRecDepth 100000 in
set_option maxHeartbeats 4000000 in
theorem s_X0_sheetsAhead (G : GG) (this : Nat) (a1 : Int32) (a2 : Int32) : Sn G yX0_sheetsAhead cX0_sheetsAhead 6 (some FieldType.int) 2 36 (fun v : Int32 => some (.int v)) (X0_sheetsAhead this a1 a2) 0 [some (va_rf (some this)), some (.int a1), some (.int a2), none, none, none] [] := by
  unfold X0_sheetsAhead
  refine sn_iconst (v := (0 : Int32)) (pc' := 1) dX0_sheetsAhead_0 rfl (by decide) ?_
  refine sn_istore_n (v := (0 : Int32)) (L' := [some (va_rf (some this)), some (.int a1), some (.int a2), some (.int (0 : Int32)), none, none]) (pc' := 2) dX0_sheetsAhead_1 rfl rfl rfl rfl ?_
  refine sn_iconst (v := (0 : Int32)) (pc' := 3) dX0_sheetsAhead_2 rfl (by decide) ?_
  refine sn_istore (v := (0 : Int32)) (L' := [some (va_rf (some this)), some (.int a1), some (.int a2), some (.int (0 : Int32)), some (.int (0 : Int32)), none]) (pc' := 5) dX0_sheetsAhead_3 rfl rfl rfl ?_
  exact sn_weak (le_s (le_s (le_s (le_s (le_s (le_n le_e)))))) (s_X0_sheetsAhead_5 G LFU this a1 a2 (0 : Int32) (0 : Int32))
theorem c_X0_sheetsAhead (G : GG) (this : Nat) (a1 : Int32) (a2 : Int32) : Cal G yX0_sheetsAhead cX0_sheetsAhead 6 (some FieldType.int) 2 36 (fun v : Int32 => some (.int v)) (X0_sheetsAhead this a1 a2) [.ref this, .int a1, .int a2] :=
  Cal.of (by decide) (cat_t (cat_i (cat_i cat_nil))) rfl (sn_weak (le_s (le_s (le_s (le_z (le_z (le_z le_e)))))) (s_X0_sheetsAhead G this a1 a2))
theorem cw_X0_sheetsAhead : CW yX0_sheetsAhead cX0_sheetsAhead 6 (some FieldType.int) 2 := ⟨tw1191, tw21, by decide, by decide +kernel⟩
/-! X11_sheets -/
theorem dX11_sheets_0 : decode cX11_sheets 0 = .ok (.aload_n 0, 1) := by decide +kernel
theorem dX11_sheets_1 : decode cX11_sheets 1 = .ok (.iload_n 1, 1) := by decide +kernel
theorem dX11_sheets_2 : decode cX11_sheets 2 = .ok (.invokevirtual 102, 3) := by decide +kernel
theorem dX11_sheets_5 : decode cX11_sheets 5 = .ok (.astore_n 3, 1) := by decide +kernel
theorem dX11_sheets_6 : decode cX11_sheets 6 = .ok (.aload_n 3, 1) := by decide +kernel
theorem dX11_sheets_7 : decode cX11_sheets 7 = .ok (.ifnonnull 9, 3) := by decide +kernel
theorem dX11_sheets_10 : decode cX11_sheets 10 = .ok (.aload_n 0, 1) := by decide +kernel
theorem dX11_sheets_11 : decode cX11_sheets 11 = .ok (.iconst 1, 1) := by decide +kernel
theorem dX11_sheets_12 : decode cX11_sheets 12 = .ok (.invokevirtual 71, 3) := by decide +kernel
theorem dX11_sheets_15 : decode cX11_sheets 15 = .ok (.ireturn, 1) := by decide +kernel
theorem dX11_sheets_16 : decode cX11_sheets 16 = .ok (.iload_n 2, 1) := by decide +kernel
theorem dX11_sheets_17 : decode cX11_sheets 17 = .ok (.invokestatic 181, 3) := by decide +kernel
theorem dX11_sheets_20 : decode cX11_sheets 20 = .ok (.ifCond .eq 22, 3) := by decide +kernel
theorem dX11_sheets_23 : decode cX11_sheets 23 = .ok (.aload_n 0, 1) := by decide +kernel
theorem dX11_sheets_24 : decode cX11_sheets 24 = .ok (.aload_n 3, 1) := by decide +kernel
theorem dX11_sheets_25 : decode cX11_sheets 25 = .ok (.aload_n 3, 1) := by decide +kernel
theorem dX11_sheets_26 : decode cX11_sheets 26 = .ok (.getfield 143, 3) := by decide +kernel
theorem dX11_sheets_29 : decode cX11_sheets 29 = .ok (.getfield 146, 3) := by decide +kernel
theorem dX11_sheets_32 : decode cX11_sheets 32 = .ok (.iload_n 2, 1) := by decide +kernel
theorem dX11_sheets_33 : decode cX11_sheets 33 = .ok (.invokevirtual 184, 3) := by decide +kernel
theorem dX11_sheets_36 : decode cX11_sheets 36 = .ok (.invokevirtual 82, 3) := by decide +kernel
theorem dX11_sheets_39 : decode cX11_sheets 39 = .ok (.goto 8, 3) := by decide +kernel
theorem dX11_sheets_42 : decode cX11_sheets 42 = .ok (.aload_n 0, 1) := by decide +kernel
theorem dX11_sheets_43 : decode cX11_sheets 43 = .ok (.iconst 3, 1) := by decide +kernel
theorem dX11_sheets_44 : decode cX11_sheets 44 = .ok (.invokevirtual 71, 3) := by decide +kernel
theorem dX11_sheets_47 : decode cX11_sheets 47 = .ok (.ireturn, 1) := by decide +kernel
def X11_sheets (this : Nat) (a1 : Int32) (a2 : Int32) : MM Int32 :=
  mb (wc 12 (some this) fun t => X11_bookAt t a1) fun v1 =>
  if v1 = none then (mb (wc 12 (some this) fun t => X11_refuse t (1 : Int32)) fun v2 =>
  mr v2) else (mb (X11_isFormat a2) fun v3 =>
  if v3 = 0 then (mb (wc 12 (some this) fun t => X11_refuse t (3 : Int32)) fun v4 =>
  mr v4) else (mb (gR 2 v1 0) fun v5 =>
  mb (gI 7 v5 4) fun v6 =>
  mb (wc 2 v1 fun t => X0_sheetsAhead t v6 a2) fun v7 =>
  mb (wc 12 (some this) fun t => X11_answer t v7) fun v8 =>
  mr v8))
set_option maxRecDepth 100000 in
set_option maxHeartbeats 4000000 in
theorem s_X11_sheets (G : GG) (this : Nat) (a1 : Int32) (a2 : Int32) : Sn G yX11_sheets cX11_sheets 4 (some FieldType.int) 3 61 (fun v : Int32 => some (.int v)) (X11_sheets this a1 a2) 0 [some (va_rf (some this)), some (.int a1), some (.int a2), none] [] := by
  unfold X11_sheets
  refine sn_aload_n (v := (some this)) (pc' := 1) dX11_sheets_0 rfl rfl rfl ?_
  refine sn_iload_n (v := a1) (pc' := 2) dX11_sheets_1 rfl rfl rfl ?_
  refine sn_cV (r := (some this)) (st := []) (As := [.int a1]) (st2 := (fun v => va_rf v :: [])) (pc' := 5) ci_12 (fun t => c_X11_bookAt G t a1) cw_X11_bookAt rfl rfl tw910 pw22 tw912 rfl rfl cat_nil rfl (fun _ => rfl) dX11_sheets_2 rfl (fun v1 => ?_)
  refine sn_astore_n (v := v1) (L' := [some (va_rf (some this)), some (.int a1), some (.int a2), some (va_rf v1)]) (pc' := 6) dX11_sheets_5 rfl rfl rfl rfl ?_
  refine sn_aload_n (v := v1) (pc' := 7) dX11_sheets_6 rfl rfl rfl ?_
  refine sn_ifnonnull (pt := 16) (pf := 10) dX11_sheets_7 rfl rfl ?_ ?_
  · refine sn_aload_n (v := (some this)) (pc' := 11) dX11_sheets_10 rfl rfl rfl ?_
    refine sn_iconst (v := (1 : Int32)) (pc' := 12) dX11_sheets_11 rfl (by decide) ?_
    refine sn_cV (r := (some this)) (st := []) (As := [.int (1 : Int32)]) (st2 := (fun v => .int v :: [])) (pc' := 15) ci_12 (fun t => c_X11_refuse G t (1 : Int32)) cw_X11_refuse rfl rfl tw318 pw0 tw320 rfl rfl cat_nil rfl (fun _ => rfl) dX11_sheets_12 rfl (fun v2 => ?_)
    exact sn_iret dX11_sheets_15 rfl rfl
  · refine sn_iload_n (v := a2) (pc' := 17) dX11_sheets_16 rfl rfl rfl ?_
    refine sn_cS (st := []) (As := [.int a2]) (st2 := (fun v => .int v :: [])) (pc' := 20) (c_X11_isFormat G a2) cw_X11_isFormat rfl rfl tw1185 tw1186 rfl rfl cat_nil rfl (fun _ => rfl) dX11_sheets_17 rfl (fun v3 => ?_)
    refine sn_if_eq (pt := 42) (pf := 23) dX11_sheets_20 rfl rfl ?_ ?_
    · refine sn_aload_n (v := (some this)) (pc' := 43) dX11_sheets_42 rfl rfl rfl ?_
      refine sn_iconst (v := (3 : Int32)) (pc' := 44) dX11_sheets_43 rfl (by decide) ?_
      refine sn_cV (r := (some this)) (st := []) (As := [.int (3 : Int32)]) (st2 := (fun v => .int v :: [])) (pc' := 47) ci_12 (fun t => c_X11_refuse G t (3 : Int32)) cw_X11_refuse rfl rfl tw318 pw0 tw320 rfl rfl cat_nil rfl (fun _ => rfl) dX11_sheets_44 rfl (fun v4 => ?_)
      exact sn_iret dX11_sheets_47 rfl rfl
    · refine sn_aload_n (v := (some this)) (pc' := 24) dX11_sheets_23 rfl rfl rfl ?_
      refine sn_aload_n (v := v1) (pc' := 25) dX11_sheets_24 rfl rfl rfl ?_
      refine sn_aload_n (v := v1) (pc' := 26) dX11_sheets_25 rfl rfl rfl ?_
      refine sn_gR (k := 0) (pc' := 29) ci_2 rfl (Or.inr ⟨_, nw881⟩) dX11_sheets_26 rfl (fun v5 => ?_)
      refine sn_gI (k := 4) (pc' := 32) ci_7 rfl (Or.inr ⟨_, nw193⟩) dX11_sheets_29 rfl (fun v6 => ?_)
      refine sn_iload_n (v := a2) (pc' := 33) dX11_sheets_32 rfl rfl rfl ?_
      refine sn_cV (r := v1) (st := [va_rf (some this)]) (As := [.int v6, .int a2]) (st2 := (fun v => .int v :: [va_rf (some this)])) (pc' := 36) ci_2 (fun t => c_X0_sheetsAhead G t v6 a2) cw_X0_sheetsAhead rfl rfl tw1188 tw1190 tw1189 rfl rfl (cat_q cat_nil) rfl (fun _ => rfl) dX11_sheets_33 rfl (fun v7 => ?_)
      refine sn_cV (r := (some this)) (st := []) (As := [.int v7]) (st2 := (fun v => .int v :: [])) (pc' := 39) ci_12 (fun t => c_X11_answer G t v7) cw_X11_answer rfl rfl tw326 pw1 tw328 rfl rfl cat_nil rfl (fun _ => rfl) dX11_sheets_36 rfl (fun v8 => ?_)
      refine sn_goto (pc' := 47) dX11_sheets_39 rfl ?_
      exact sn_iret dX11_sheets_47 rfl rfl
theorem c_X11_sheets (G : GG) (this : Nat) (a1 : Int32) (a2 : Int32) : Cal G yX11_sheets cX11_sheets 4 (some FieldType.int) 3 61 (fun v : Int32 => some (.int v)) (X11_sheets this a1 a2) [.ref this, .int a1, .int a2] :=
  Cal.of (by decide) (cat_t (cat_i (cat_i cat_nil))) rfl (sn_weak (le_s (le_s (le_s (le_z le_e)))) (s_X11_sheets G this a1 a2))
theorem cw_X11_sheets : CW yX11_sheets cX11_sheets 4 (some FieldType.int) 2 := ⟨tw1184, tw1, by decide, by decide +kernel⟩
/-! X0_sheetOf -/
theorem dX0_sheetOf_0 : decode cX0_sheetOf 0 = .ok (.aload_n 0, 1) := by decide +kernel
theorem dX0_sheetOf_1 : decode cX0_sheetOf 1 = .ok (.getfield 34, 3) := by decide +kernel
theorem dX0_sheetOf_4 : decode cX0_sheetOf 4 = .ok (.iload_n 1, 1) := by decide +kernel
theorem dX0_sheetOf_5 : decode cX0_sheetOf 5 = .ok (.invokevirtual 96, 3) := by decide +kernel
theorem dX0_sheetOf_8 : decode cX0_sheetOf 8 = .ok (.ifCond .eq 5, 3) := by decide +kernel
theorem dX0_sheetOf_11 : decode cX0_sheetOf 11 = .ok (.iconst (-1), 1) := by decide +kernel
theorem dX0_sheetOf_12 : decode cX0_sheetOf 12 = .ok (.ireturn, 1) := by decide +kernel
theorem dX0_sheetOf_13 : decode cX0_sheetOf 13 = .ok (.aload_n 0, 1) := by decide +kernel
theorem dX0_sheetOf_14 : decode cX0_sheetOf 14 = .ok (.getfield 12, 3) := by decide +kernel
theorem dX0_sheetOf_17 : decode cX0_sheetOf 17 = .ok (.aload_n 0, 1) := by decide +kernel
theorem dX0_sheetOf_18 : decode cX0_sheetOf 18 = .ok (.iload_n 1, 1) := by decide +kernel
theorem dX0_sheetOf_19 : decode cX0_sheetOf 19 = .ok (.invokevirtual 102, 3) := by decide +kernel
theorem dX0_sheetOf_22 : decode cX0_sheetOf 22 = .ok (.invokevirtual 59, 3) := by decide +kernel
theorem dX0_sheetOf_25 : decode cX0_sheetOf 25 = .ok (.istore_n 3, 1) := by decide +kernel
theorem dX0_sheetOf_26 : decode cX0_sheetOf 26 = .ok (.aload_n 0, 1) := by decide +kernel
theorem dX0_sheetOf_27 : decode cX0_sheetOf 27 = .ok (.aload_n 0, 1) := by decide +kernel
theorem dX0_sheetOf_28 : decode cX0_sheetOf 28 = .ok (.getfield 27, 3) := by decide +kernel
theorem dX0_sheetOf_31 : decode cX0_sheetOf 31 = .ok (.iload_n 1, 1) := by decide +kernel
theorem dX0_sheetOf_32 : decode cX0_sheetOf 32 = .ok (.invokevirtual 96, 3) := by decide +kernel
theorem dX0_sheetOf_35 : decode cX0_sheetOf 35 = .ok (.iload_n 2, 1) := by decide +kernel
theorem dX0_sheetOf_36 : decode cX0_sheetOf 36 = .ok (.invokevirtual 139, 3) := by decide +kernel
theorem dX0_sheetOf_39 : decode cX0_sheetOf 39 = .ok (.aload_n 0, 1) := by decide +kernel
theorem dX0_sheetOf_40 : decode cX0_sheetOf 40 = .ok (.getfield 31, 3) := by decide +kernel
theorem dX0_sheetOf_43 : decode cX0_sheetOf 43 = .ok (.iload_n 1, 1) := by decide +kernel
theorem dX0_sheetOf_44 : decode cX0_sheetOf 44 = .ok (.invokevirtual 96, 3) := by decide +kernel
theorem dX0_sheetOf_47 : decode cX0_sheetOf 47 = .ok (.iload_n 3, 1) := by decide +kernel
theorem dX0_sheetOf_48 : decode cX0_sheetOf 48 = .ok (.iload_n 2, 1) := by decide +kernel
theorem dX0_sheetOf_49 : decode cX0_sheetOf 49 = .ok (.invokestatic 135, 3) := by decide +kernel
theorem dX0_sheetOf_52 : decode cX0_sheetOf 52 = .ok (.iadd, 1) := by decide +kernel
theorem dX0_sheetOf_53 : decode cX0_sheetOf 53 = .ok (.ireturn, 1) := by decide +kernel
def X0_sheetOf (this : Nat) (a1 : Int32) (a2 : Int32) : MM Int32 :=
  mb (gR 2 (some this) 4) fun v1 =>
  mb (wc 9 v1 fun t => X8_get t a1) fun v2 =>
  if v2 = 0 then (mb (gR 2 (some this) 0) fun v3 =>
  mb (wc 2 (some this) fun t => X0_signAt t a1) fun v4 =>
  mb (wc 7 v3 fun t => X6_sizeOf t v4) fun v5 =>
  mb (gR 2 (some this) 2) fun v6 =>
  mb (wc 9 v6 fun t => X8_get t a1) fun v7 =>
  mb (wc 2 (some this) fun t => X0_sheetsAhead t v7 a2) fun v8 =>
  mb (gR 2 (some this) 3) fun v9 =>
  mb (wc 9 v9 fun t => X8_get t a1) fun v10 =>
  mb (X0_sheetInGathering v10 v5 a2) fun v11 =>
  mr (v8 + v11)) else (mr (-1 : Int32))
set_option maxRecDepth 100000 in
set_option maxHeartbeats 4000000 in
theorem s_X0_sheetOf (G : GG) (this : Nat) (a1 : Int32) (a2 : Int32) : Sn G yX0_sheetOf cX0_sheetOf 4 (some FieldType.int) 3 61 (fun v : Int32 => some (.int v)) (X0_sheetOf this a1 a2) 0 [some (va_rf (some this)), some (.int a1), some (.int a2), none] [] := by
  unfold X0_sheetOf
  refine sn_aload_n (v := (some this)) (pc' := 1) dX0_sheetOf_0 rfl rfl rfl ?_
  refine sn_gR (k := 4) (pc' := 4) ci_2 rfl (Or.inl tw886) dX0_sheetOf_1 rfl (fun v1 => ?_)
  refine sn_iload_n (v := a1) (pc' := 5) dX0_sheetOf_4 rfl rfl rfl ?_
  refine sn_cV (r := v1) (st := []) (As := [.int a1]) (st2 := (fun v => .int v :: [])) (pc' := 8) ci_9 (fun t => c_X8_get G t a1) cw_X8_get rfl rfl tw949 tw497 tw496 rfl rfl cat_nil rfl (fun _ => rfl) dX0_sheetOf_5 rfl (fun v2 => ?_)
  refine sn_if_eq (pt := 13) (pf := 11) dX0_sheetOf_8 rfl rfl ?_ ?_
  · refine sn_aload_n (v := (some this)) (pc' := 14) dX0_sheetOf_13 rfl rfl rfl ?_
    refine sn_gR (k := 0) (pc' := 17) ci_2 rfl (Or.inl tw880) dX0_sheetOf_14 rfl (fun v3 => ?_)
    refine sn_aload_n (v := (some this)) (pc' := 18) dX0_sheetOf_17 rfl rfl rfl ?_
    refine sn_iload_n (v := a1) (pc' := 19) dX0_sheetOf_18 rfl rfl rfl ?_
    refine sn_cV (r := (some this)) (st := [va_rf v3]) (As := [.int a1]) (st2 := (fun v => .int v :: [va_rf v3])) (pc' := 22) ci_2 (fun t => c_X0_signAt G t a1) cw_X0_signAt rfl rfl tw1049 tw1051 tw1050 rfl rfl (cat_q cat_nil) rfl (fun _ => rfl) dX0_sheetOf_19 rfl (fun v4 => ?_)
    refine sn_cV (r := v3) (st := []) (As := [.int v4]) (st2 := (fun v => .int v :: [])) (pc' := 25) ci_7 (fun t => c_X6_sizeOf G t v4) cw_X6_sizeOf rfl rfl tw859 tw539 tw538 rfl rfl cat_nil rfl (fun _ => rfl) dX0_sheetOf_22 rfl (fun v5 => ?_)
    refine sn_istore_n (v := v5) (L' := [some (va_rf (some this)), some (.int a1), some (.int a2), some (.int v5)]) (pc' := 26) dX0_sheetOf_25 rfl rfl rfl rfl ?_
    refine sn_aload_n (v := (some this)) (pc' := 27) dX0_sheetOf_26 rfl rfl rfl ?_
    refine sn_aload_n (v := (some this)) (pc' := 28) dX0_sheetOf_27 rfl rfl rfl ?_
    refine sn_gR (k := 2) (pc' := 31) ci_2 rfl (Or.inl tw883) dX0_sheetOf_28 rfl (fun v6 => ?_)
    refine sn_iload_n (v := a1) (pc' := 32) dX0_sheetOf_31 rfl rfl rfl ?_
    refine sn_cV (r := v6) (st := [va_rf (some this)]) (As := [.int a1]) (st2 := (fun v => .int v :: [va_rf (some this)])) (pc' := 35) ci_9 (fun t => c_X8_get G t a1) cw_X8_get rfl rfl tw949 tw497 tw496 rfl rfl (cat_q cat_nil) rfl (fun _ => rfl) dX0_sheetOf_32 rfl (fun v7 => ?_)
    refine sn_iload_n (v := a2) (pc' := 36) dX0_sheetOf_35 rfl rfl rfl ?_
    refine sn_cV (r := (some this)) (st := []) (As := [.int v7, .int a2]) (st2 := (fun v => .int v :: [])) (pc' := 39) ci_2 (fun t => c_X0_sheetsAhead G t v7 a2) cw_X0_sheetsAhead rfl rfl tw1204 tw1190 tw1189 rfl rfl cat_nil rfl (fun _ => rfl) dX0_sheetOf_36 rfl (fun v8 => ?_)
    refine sn_aload_n (v := (some this)) (pc' := 40) dX0_sheetOf_39 rfl rfl rfl ?_
    refine sn_gR (k := 3) (pc' := 43) ci_2 rfl (Or.inl tw884) dX0_sheetOf_40 rfl (fun v9 => ?_)
    refine sn_iload_n (v := a1) (pc' := 44) dX0_sheetOf_43 rfl rfl rfl ?_
    refine sn_cV (r := v9) (st := [.int v8]) (As := [.int a1]) (st2 := (fun v => .int v :: [.int v8])) (pc' := 47) ci_9 (fun t => c_X8_get G t a1) cw_X8_get rfl rfl tw949 tw497 tw496 rfl rfl (cat_i cat_nil) rfl (fun _ => rfl) dX0_sheetOf_44 rfl (fun v10 => ?_)
    refine sn_iload_n (v := v5) (pc' := 48) dX0_sheetOf_47 rfl rfl rfl ?_
    refine sn_iload_n (v := a2) (pc' := 49) dX0_sheetOf_48 rfl rfl rfl ?_
    refine sn_cS (st := [.int v8]) (As := [.int v10, .int v5, .int a2]) (st2 := (fun v => .int v :: [.int v8])) (pc' := 52) (c_X0_sheetInGathering G v10 v5 a2) cw_X0_sheetInGathering rfl rfl tw1192 tw1193 rfl rfl (cat_i cat_nil) rfl (fun _ => rfl) dX0_sheetOf_49 rfl (fun v11 => ?_)
    refine sn_iadd (pc' := 53) dX0_sheetOf_52 rfl ?_
    exact sn_iret dX0_sheetOf_53 rfl rfl
  · refine sn_iconst (v := (-1 : Int32)) (pc' := 12) dX0_sheetOf_11 rfl (by decide) ?_
    exact sn_iret dX0_sheetOf_12 rfl rfl
theorem c_X0_sheetOf (G : GG) (this : Nat) (a1 : Int32) (a2 : Int32) : Cal G yX0_sheetOf cX0_sheetOf 4 (some FieldType.int) 3 61 (fun v : Int32 => some (.int v)) (X0_sheetOf this a1 a2) [.ref this, .int a1, .int a2] :=
  Cal.of (by decide) (cat_t (cat_i (cat_i cat_nil))) rfl (sn_weak (le_s (le_s (le_s (le_z le_e)))) (s_X0_sheetOf G this a1 a2))
theorem cw_X0_sheetOf : CW yX0_sheetOf cX0_sheetOf 4 (some FieldType.int) 2 := ⟨tw1203, tw21, by decide, by decide +kernel⟩
/-! X0_numberOnSheet -/
theorem dX0_numberOnSheet_0 : decode cX0_numberOnSheet 0 = .ok (.aload_n 0, 1) := by decide +kernel
theorem dX0_numberOnSheet_1 : decode cX0_numberOnSheet 1 = .ok (.getfield 34, 3) := by decide +kernel
theorem dX0_numberOnSheet_4 : decode cX0_numberOnSheet 4 = .ok (.iload_n 1, 1) := by decide +kernel
theorem dX0_numberOnSheet_5 : decode cX0_numberOnSheet 5 = .ok (.invokevirtual 96, 3) := by decide +kernel
theorem dX0_numberOnSheet_8 : decode cX0_numberOnSheet 8 = .ok (.ifCond .eq 5, 3) := by decide +kernel
theorem dX0_numberOnSheet_11 : decode cX0_numberOnSheet 11 = .ok (.iconst (-1), 1) := by decide +kernel
theorem dX0_numberOnSheet_12 : decode cX0_numberOnSheet 12 = .ok (.ireturn, 1) := by decide +kernel
theorem dX0_numberOnSheet_13 : decode cX0_numberOnSheet 13 = .ok (.aload_n 0, 1) := by decide +kernel
theorem dX0_numberOnSheet_14 : decode cX0_numberOnSheet 14 = .ok (.getfield 12, 3) := by decide +kernel
theorem dX0_numberOnSheet_17 : decode cX0_numberOnSheet 17 = .ok (.aload_n 0, 1) := by decide +kernel
theorem dX0_numberOnSheet_18 : decode cX0_numberOnSheet 18 = .ok (.iload_n 1, 1) := by decide +kernel
theorem dX0_numberOnSheet_19 : decode cX0_numberOnSheet 19 = .ok (.invokevirtual 102, 3) := by decide +kernel
theorem dX0_numberOnSheet_22 : decode cX0_numberOnSheet 22 = .ok (.invokevirtual 59, 3) := by decide +kernel
theorem dX0_numberOnSheet_25 : decode cX0_numberOnSheet 25 = .ok (.istore_n 3, 1) := by decide +kernel
theorem dX0_numberOnSheet_26 : decode cX0_numberOnSheet 26 = .ok (.aload_n 0, 1) := by decide +kernel
theorem dX0_numberOnSheet_27 : decode cX0_numberOnSheet 27 = .ok (.getfield 31, 3) := by decide +kernel
theorem dX0_numberOnSheet_30 : decode cX0_numberOnSheet 30 = .ok (.iload_n 1, 1) := by decide +kernel
theorem dX0_numberOnSheet_31 : decode cX0_numberOnSheet 31 = .ok (.invokevirtual 96, 3) := by decide +kernel
theorem dX0_numberOnSheet_34 : decode cX0_numberOnSheet 34 = .ok (.istore 4, 2) := by decide +kernel
theorem dX0_numberOnSheet_36 : decode cX0_numberOnSheet 36 = .ok (.iload 4, 2) := by decide +kernel
theorem dX0_numberOnSheet_38 : decode cX0_numberOnSheet 38 = .ok (.iload_n 3, 1) := by decide +kernel
theorem dX0_numberOnSheet_39 : decode cX0_numberOnSheet 39 = .ok (.iload_n 2, 1) := by decide +kernel
theorem dX0_numberOnSheet_40 : decode cX0_numberOnSheet 40 = .ok (.invokestatic 135, 3) := by decide +kernel
theorem dX0_numberOnSheet_43 : decode cX0_numberOnSheet 43 = .ok (.istore 5, 2) := by decide +kernel
theorem dX0_numberOnSheet_45 : decode cX0_numberOnSheet 45 = .ok (.iconst 0, 1) := by decide +kernel
theorem dX0_numberOnSheet_46 : decode cX0_numberOnSheet 46 = .ok (.istore 6, 2) := by decide +kernel
theorem dX0_numberOnSheet_48 : decode cX0_numberOnSheet 48 = .ok (.iconst 1, 1) := by decide +kernel
theorem dX0_numberOnSheet_49 : decode cX0_numberOnSheet 49 = .ok (.istore 7, 2) := by decide +kernel
theorem dX0_numberOnSheet_51 : decode cX0_numberOnSheet 51 = .ok (.iload 7, 2) := by decide +kernel
theorem dX0_numberOnSheet_53 : decode cX0_numberOnSheet 53 = .ok (.iload 4, 2) := by decide +kernel
theorem dX0_numberOnSheet_55 : decode cX0_numberOnSheet 55 = .ok (.if_icmp .gt 24, 3) := by decide +kernel
theorem dX0_numberOnSheet_58 : decode cX0_numberOnSheet 58 = .ok (.iload 7, 2) := by decide +kernel
theorem dX0_numberOnSheet_60 : decode cX0_numberOnSheet 60 = .ok (.iload_n 3, 1) := by decide +kernel
theorem dX0_numberOnSheet_61 : decode cX0_numberOnSheet 61 = .ok (.iload_n 2, 1) := by decide +kernel
theorem dX0_numberOnSheet_62 : decode cX0_numberOnSheet 62 = .ok (.invokestatic 135, 3) := by decide +kernel
theorem dX0_numberOnSheet_65 : decode cX0_numberOnSheet 65 = .ok (.iload 5, 2) := by decide +kernel
theorem dX0_numberOnSheet_67 : decode cX0_numberOnSheet 67 = .ok (.if_icmp .ne 6, 3) := by decide +kernel
theorem dX0_numberOnSheet_70 : decode cX0_numberOnSheet 70 = .ok (.iinc 6 1, 3) := by decide +kernel
theorem dX0_numberOnSheet_73 : decode cX0_numberOnSheet 73 = .ok (.iinc 7 1, 3) := by decide +kernel
theorem dX0_numberOnSheet_76 : decode cX0_numberOnSheet 76 = .ok (.goto (-25), 3) := by decide +kernel
theorem dX0_numberOnSheet_79 : decode cX0_numberOnSheet 79 = .ok (.iload 6, 2) := by decide +kernel
theorem dX0_numberOnSheet_81 : decode cX0_numberOnSheet 81 = .ok (.ireturn, 1) := by decide +kernel
def X0_numberOnSheet_73 (k51 : Int32 → Int32 → Int32 → Int32 → Int32 → Int32 → MM Int32) (x2 : Int32) (x3 : Int32) (x4 : Int32) (x5 : Int32) (x6 : Int32) (x7 : Int32) : MM Int32 :=
  (k51 x2 x3 x4 x5 x6 (x7 + (1 : Int32)))
def X0_numberOnSheet_51_st  (k51 : Int32 → Int32 → Int32 → Int32 → Int32 → Int32 → MM Int32) (x2 : Int32) (x3 : Int32) (x4 : Int32) (x5 : Int32) (x6 : Int32) (x7 : Int32) : MM Int32 :=
  if x4 < x7 then (mr x6) else (mb (X0_sheetInGathering x7 x3 x2) fun v1 =>
  if v1 = x5 then ((X0_numberOnSheet_73 k51 x2 x3 x4 x5 (x6 + (1 : Int32)) x7)) else ((X0_numberOnSheet_73 k51 x2 x3 x4 x5 x6 x7)))
def X0_numberOnSheet_51  : Nat → Int32 → Int32 → Int32 → Int32 → Int32 → Int32 → MM Int32
  | 0 => fun _ _ _ _ _ _ => mf
  | n + 1 => fun x2 x3 x4 x5 x6 x7 => X0_numberOnSheet_51_st  (X0_numberOnSheet_51  n) x2 x3 x4 x5 x6 x7
def X0_numberOnSheet (this : Nat) (a1 : Int32) (a2 : Int32) : MM Int32 :=
  mb (gR 2 (some this) 4) fun v1 =>
  mb (wc 9 v1 fun t => X8_get t a1) fun v2 =>
  if v2 = 0 then (mb (gR 2 (some this) 0) fun v3 =>
  mb (wc 2 (some this) fun t => X0_signAt t a1) fun v4 =>
  mb (wc 7 v3 fun t => X6_sizeOf t v4) fun v5 =>
  mb (gR 2 (some this) 3) fun v6 =>
  mb (wc 9 v6 fun t => X8_get t a1) fun v7 =>
  mb (X0_sheetInGathering v7 v5 a2) fun v8 =>
  (X0_numberOnSheet_51 LFU a2 v5 v7 v8 (0 : Int32) (1 : Int32))) else (mr (-1 : Int32))
set_option maxRecDepth 100000 in
set_option maxHeartbeats 4000000 in
theorem s_X0_numberOnSheet_73 (G : GG) (k51 : Int32 → Int32 → Int32 → Int32 → Int32 → Int32 → MM Int32) (hk51 : ∀ (x2 : Int32) (x3 : Int32) (x4 : Int32) (x5 : Int32) (x6 : Int32) (x7 : Int32), Sn G yX0_numberOnSheet cX0_numberOnSheet 8 (some FieldType.int) 2 42 (fun v : Int32 => some (.int v)) (k51 x2 x3 x4 x5 x6 x7) 51 [none, none, some (.int x2), some (.int x3), some (.int x4), some (.int x5), some (.int x6), some (.int x7)] []) (x2 : Int32) (x3 : Int32) (x4 : Int32) (x5 : Int32) (x6 : Int32) (x7 : Int32) : Sn G yX0_numberOnSheet cX0_numberOnSheet 8 (some FieldType.int) 2 42 (fun v : Int32 => some (.int v)) (X0_numberOnSheet_73 k51 x2 x3 x4 x5 x6 x7) 73 [none, none, some (.int x2), some (.int x3), some (.int x4), some (.int x5), some (.int x6), some (.int x7)] [] := by
  unfold X0_numberOnSheet_73
  refine sn_iinc (v := x7) (w := 1) (L' := [none, none, some (.int x2), some (.int x3), some (.int x4), some (.int x5), some (.int x6), some (.int (x7 + (1 : Int32)))]) (pc' := 76) dX0_numberOnSheet_73 rfl rfl rfl (by decide) rfl ?_
  refine sn_goto (pc' := 51) dX0_numberOnSheet_76 rfl ?_
  exact sn_weak (le_n (le_n (le_s (le_s (le_s (le_s (le_s (le_s le_e)))))))) (hk51 x2 x3 x4 x5 x6 (x7 + (1 : Int32)))
set_option maxRecDepth 100000 in
set_option maxHeartbeats 4000000 in
theorem s_X0_numberOnSheet_51_st (G : GG)   (k51 : Int32 → Int32 → Int32 → Int32 → Int32 → Int32 → MM Int32) (hk51 : ∀ (x2 : Int32) (x3 : Int32) (x4 : Int32) (x5 : Int32) (x6 : Int32) (x7 : Int32), Sn G yX0_numberOnSheet cX0_numberOnSheet 8 (some FieldType.int) 2 42 (fun v : Int32 => some (.int v)) (k51 x2 x3 x4 x5 x6 x7) 51 [none, none, some (.int x2), some (.int x3), some (.int x4), some (.int x5), some (.int x6), some (.int x7)] []) (x2 : Int32) (x3 : Int32) (x4 : Int32) (x5 : Int32) (x6 : Int32) (x7 : Int32) : Sn G yX0_numberOnSheet cX0_numberOnSheet 8 (some FieldType.int) 2 42 (fun v : Int32 => some (.int v)) (X0_numberOnSheet_51_st  k51 x2 x3 x4 x5 x6 x7) 51 [none, none, some (.int x2), some (.int x3), some (.int x4), some (.int x5), some (.int x6), some (.int x7)] [] := by
  unfold X0_numberOnSheet_51_st
  refine sn_iload (v := x7) (pc' := 53) dX0_numberOnSheet_51 rfl rfl ?_
  refine sn_iload (v := x4) (pc' := 55) dX0_numberOnSheet_53 rfl rfl ?_
  refine sn_ic_gt (pt := 79) (pf := 58) dX0_numberOnSheet_55 rfl rfl ?_ ?_
  · refine sn_iload (v := x6) (pc' := 81) dX0_numberOnSheet_79 rfl rfl ?_
    exact sn_iret dX0_numberOnSheet_81 rfl rfl
  · refine sn_iload (v := x7) (pc' := 60) dX0_numberOnSheet_58 rfl rfl ?_
    refine sn_iload_n (v := x3) (pc' := 61) dX0_numberOnSheet_60 rfl rfl rfl ?_
    refine sn_iload_n (v := x2) (pc' := 62) dX0_numberOnSheet_61 rfl rfl rfl ?_
    refine sn_cS (st := []) (As := [.int x7, .int x3, .int x2]) (st2 := (fun v => .int v :: [])) (pc' := 65) (c_X0_sheetInGathering G x7 x3 x2) cw_X0_sheetInGathering rfl rfl tw1192 tw1193 rfl rfl cat_nil rfl (fun _ => rfl) dX0_numberOnSheet_62 rfl (fun v1 => ?_)
    refine sn_iload (v := x5) (pc' := 67) dX0_numberOnSheet_65 rfl rfl ?_
    refine sn_ic_ne (pt := 73) (pf := 70) dX0_numberOnSheet_67 rfl rfl ?_ ?_
    · refine sn_iinc (v := x6) (w := 1) (L' := [none, none, some (.int x2), some (.int x3), some (.int x4), some (.int x5), some (.int (x6 + (1 : Int32))), some (.int x7)]) (pc' := 73) dX0_numberOnSheet_70 rfl rfl rfl (by decide) rfl ?_
      exact sn_weak (le_n (le_n (le_s (le_s (le_s (le_s (le_s (le_s le_e)))))))) (s_X0_numberOnSheet_73 G k51 hk51 x2 x3 x4 x5 (x6 + (1 : Int32)) x7)
    · exact sn_weak (le_n (le_n (le_s (le_s (le_s (le_s (le_s (le_s le_e)))))))) (s_X0_numberOnSheet_73 G k51 hk51 x2 x3 x4 x5 x6 x7)
set_option maxRecDepth 100000 in
set_option maxHeartbeats 4000000 in
theorem s_X0_numberOnSheet_51 (G : GG)   : ∀ (n : Nat) (x2 : Int32) (x3 : Int32) (x4 : Int32) (x5 : Int32) (x6 : Int32) (x7 : Int32), Sn G yX0_numberOnSheet cX0_numberOnSheet 8 (some FieldType.int) 2 42 (fun v : Int32 => some (.int v)) (X0_numberOnSheet_51  n x2 x3 x4 x5 x6 x7) 51 [none, none, some (.int x2), some (.int x3), some (.int x4), some (.int x5), some (.int x6), some (.int x7)] [] := by
  intro n
  induction n with
  | zero => intro x2 x3 x4 x5 x6 x7; exact sn_mf
  | succ n ih => intro x2 x3 x4 x5 x6 x7; exact s_X0_numberOnSheet_51_st G   (X0_numberOnSheet_51  n) ih x2 x3 x4 x5 x6 x7
set_option maxRecDepth 100000 in
set_option maxHeartbeats 4000000 in
theorem s_X0_numberOnSheet (G : GG) (this : Nat) (a1 : Int32) (a2 : Int32) : Sn G yX0_numberOnSheet cX0_numberOnSheet 8 (some FieldType.int) 2 42 (fun v : Int32 => some (.int v)) (X0_numberOnSheet this a1 a2) 0 [some (va_rf (some this)), some (.int a1), some (.int a2), none, none, none, none, none] [] := by
  unfold X0_numberOnSheet
  refine sn_aload_n (v := (some this)) (pc' := 1) dX0_numberOnSheet_0 rfl rfl rfl ?_
  refine sn_gR (k := 4) (pc' := 4) ci_2 rfl (Or.inl tw886) dX0_numberOnSheet_1 rfl (fun v1 => ?_)
  refine sn_iload_n (v := a1) (pc' := 5) dX0_numberOnSheet_4 rfl rfl rfl ?_
  refine sn_cV (r := v1) (st := []) (As := [.int a1]) (st2 := (fun v => .int v :: [])) (pc' := 8) ci_9 (fun t => c_X8_get G t a1) cw_X8_get rfl rfl tw949 tw497 tw496 rfl rfl cat_nil rfl (fun _ => rfl) dX0_numberOnSheet_5 rfl (fun v2 => ?_)
  refine sn_if_eq (pt := 13) (pf := 11) dX0_numberOnSheet_8 rfl rfl ?_ ?_
  · refine sn_aload_n (v := (some this)) (pc' := 14) dX0_numberOnSheet_13 rfl rfl rfl ?_
    refine sn_gR (k := 0) (pc' := 17) ci_2 rfl (Or.inl tw880) dX0_numberOnSheet_14 rfl (fun v3 => ?_)
    refine sn_aload_n (v := (some this)) (pc' := 18) dX0_numberOnSheet_17 rfl rfl rfl ?_
    refine sn_iload_n (v := a1) (pc' := 19) dX0_numberOnSheet_18 rfl rfl rfl ?_
    refine sn_cV (r := (some this)) (st := [va_rf v3]) (As := [.int a1]) (st2 := (fun v => .int v :: [va_rf v3])) (pc' := 22) ci_2 (fun t => c_X0_signAt G t a1) cw_X0_signAt rfl rfl tw1049 tw1051 tw1050 rfl rfl (cat_q cat_nil) rfl (fun _ => rfl) dX0_numberOnSheet_19 rfl (fun v4 => ?_)
    refine sn_cV (r := v3) (st := []) (As := [.int v4]) (st2 := (fun v => .int v :: [])) (pc' := 25) ci_7 (fun t => c_X6_sizeOf G t v4) cw_X6_sizeOf rfl rfl tw859 tw539 tw538 rfl rfl cat_nil rfl (fun _ => rfl) dX0_numberOnSheet_22 rfl (fun v5 => ?_)
    refine sn_istore_n (v := v5) (L' := [some (va_rf (some this)), some (.int a1), some (.int a2), some (.int v5), none, none, none, none]) (pc' := 26) dX0_numberOnSheet_25 rfl rfl rfl rfl ?_
    refine sn_aload_n (v := (some this)) (pc' := 27) dX0_numberOnSheet_26 rfl rfl rfl ?_
    refine sn_gR (k := 3) (pc' := 30) ci_2 rfl (Or.inl tw884) dX0_numberOnSheet_27 rfl (fun v6 => ?_)
    refine sn_iload_n (v := a1) (pc' := 31) dX0_numberOnSheet_30 rfl rfl rfl ?_
    refine sn_cV (r := v6) (st := []) (As := [.int a1]) (st2 := (fun v => .int v :: [])) (pc' := 34) ci_9 (fun t => c_X8_get G t a1) cw_X8_get rfl rfl tw949 tw497 tw496 rfl rfl cat_nil rfl (fun _ => rfl) dX0_numberOnSheet_31 rfl (fun v7 => ?_)
    refine sn_istore (v := v7) (L' := [some (va_rf (some this)), some (.int a1), some (.int a2), some (.int v5), some (.int v7), none, none, none]) (pc' := 36) dX0_numberOnSheet_34 rfl rfl rfl ?_
    refine sn_iload (v := v7) (pc' := 38) dX0_numberOnSheet_36 rfl rfl ?_
    refine sn_iload_n (v := v5) (pc' := 39) dX0_numberOnSheet_38 rfl rfl rfl ?_
    refine sn_iload_n (v := a2) (pc' := 40) dX0_numberOnSheet_39 rfl rfl rfl ?_
    refine sn_cS (st := []) (As := [.int v7, .int v5, .int a2]) (st2 := (fun v => .int v :: [])) (pc' := 43) (c_X0_sheetInGathering G v7 v5 a2) cw_X0_sheetInGathering rfl rfl tw1192 tw1193 rfl rfl cat_nil rfl (fun _ => rfl) dX0_numberOnSheet_40 rfl (fun v8 => ?_)
    refine sn_istore (v := v8) (L' := [some (va_rf (some this)), some (.int a1), some (.int a2), some (.int v5), some (.int v7), some (.int v8), none, none]) (pc' := 45) dX0_numberOnSheet_43 rfl rfl rfl ?_
    refine sn_iconst (v := (0 : Int32)) (pc' := 46) dX0_numberOnSheet_45 rfl (by decide) ?_
    refine sn_istore (v := (0 : Int32)) (L' := [some (va_rf (some this)), some (.int a1), some (.int a2), some (.int v5), some (.int v7), some (.int v8), some (.int (0 : Int32)), none]) (pc' := 48) dX0_numberOnSheet_46 rfl rfl rfl ?_
    refine sn_iconst (v := (1 : Int32)) (pc' := 49) dX0_numberOnSheet_48 rfl (by decide) ?_
    refine sn_istore (v := (1 : Int32)) (L' := [some (va_rf (some this)), some (.int a1), some (.int a2), some (.int v5), some (.int v7), some (.int v8), some (.int (0 : Int32)), some (.int (1 : Int32))]) (pc' := 51) dX0_numberOnSheet_49 rfl rfl rfl ?_
    exact sn_weak (le_n (le_n (le_s (le_s (le_s (le_s (le_s (le_s le_e)))))))) (s_X0_numberOnSheet_51 G LFU a2 v5 v7 v8 (0 : Int32) (1 : Int32))
  · refine sn_iconst (v := (-1 : Int32)) (pc' := 12) dX0_numberOnSheet_11 rfl (by decide) ?_
    exact sn_iret dX0_numberOnSheet_12 rfl rfl
theorem c_X0_numberOnSheet (G : GG) (this : Nat) (a1 : Int32) (a2 : Int32) : Cal G yX0_numberOnSheet cX0_numberOnSheet 8 (some FieldType.int) 2 42 (fun v : Int32 => some (.int v)) (X0_numberOnSheet this a1 a2) [.ref this, .int a1, .int a2] :=
  Cal.of (by decide) (cat_t (cat_i (cat_i cat_nil))) rfl (sn_weak (le_s (le_s (le_s (le_z (le_z (le_z (le_z (le_z le_e)))))))) (s_X0_numberOnSheet G this a1 a2))
theorem cw_X0_numberOnSheet : CW yX0_numberOnSheet cX0_numberOnSheet 8 (some FieldType.int) 2 := ⟨tw1208, tw21, by decide, by decide +kernel⟩
/-! X11_sheet -/
theorem dX11_sheet_0 : decode cX11_sheet 0 = .ok (.aload_n 0, 1) := by decide +kernel
theorem dX11_sheet_1 : decode cX11_sheet 1 = .ok (.iload_n 1, 1) := by decide +kernel
theorem dX11_sheet_2 : decode cX11_sheet 2 = .ok (.iload_n 2, 1) := by decide +kernel
theorem dX11_sheet_3 : decode cX11_sheet 3 = .ok (.invokevirtual 156, 3) := by decide +kernel
theorem dX11_sheet_6 : decode cX11_sheet 6 = .ok (.astore 5, 2) := by decide +kernel
theorem dX11_sheet_8 : decode cX11_sheet 8 = .ok (.aload 5, 2) := by decide +kernel
theorem dX11_sheet_10 : decode cX11_sheet 10 = .ok (.ifnonnull 9, 3) := by decide +kernel
theorem dX11_sheet_13 : decode cX11_sheet 13 = .ok (.aload_n 0, 1) := by decide +kernel
theorem dX11_sheet_14 : decode cX11_sheet 14 = .ok (.iconst 1, 1) := by decide +kernel
theorem dX11_sheet_15 : decode cX11_sheet 15 = .ok (.invokevirtual 71, 3) := by decide +kernel
theorem dX11_sheet_18 : decode cX11_sheet 18 = .ok (.ireturn, 1) := by decide +kernel
theorem dX11_sheet_19 : decode cX11_sheet 19 = .ok (.iload_n 3, 1) := by decide +kernel
theorem dX11_sheet_20 : decode cX11_sheet 20 = .ok (.invokestatic 181, 3) := by decide +kernel
theorem dX11_sheet_23 : decode cX11_sheet 23 = .ok (.ifCond .eq 14, 3) := by decide +kernel
theorem dX11_sheet_26 : decode cX11_sheet 26 = .ok (.iload 4, 2) := by decide +kernel
theorem dX11_sheet_28 : decode cX11_sheet 28 = .ok (.ifCond .lt 9, 3) := by decide +kernel
theorem dX11_sheet_31 : decode cX11_sheet 31 = .ok (.iload 4, 2) := by decide +kernel
theorem dX11_sheet_33 : decode cX11_sheet 33 = .ok (.iconst 1, 1) := by decide +kernel
theorem dX11_sheet_34 : decode cX11_sheet 34 = .ok (.if_icmp .le 9, 3) := by decide +kernel
theorem dX11_sheet_37 : decode cX11_sheet 37 = .ok (.aload_n 0, 1) := by decide +kernel
theorem dX11_sheet_38 : decode cX11_sheet 38 = .ok (.iconst 3, 1) := by decide +kernel
theorem dX11_sheet_39 : decode cX11_sheet 39 = .ok (.invokevirtual 71, 3) := by decide +kernel
theorem dX11_sheet_42 : decode cX11_sheet 42 = .ok (.ireturn, 1) := by decide +kernel
theorem dX11_sheet_43 : decode cX11_sheet 43 = .ok (.aload_n 0, 1) := by decide +kernel
theorem dX11_sheet_44 : decode cX11_sheet 44 = .ok (.iload 4, 2) := by decide +kernel
theorem dX11_sheet_46 : decode cX11_sheet 46 = .ok (.ifCond .ne 13, 3) := by decide +kernel
theorem dX11_sheet_49 : decode cX11_sheet 49 = .ok (.aload 5, 2) := by decide +kernel
theorem dX11_sheet_51 : decode cX11_sheet 51 = .ok (.iload_n 2, 1) := by decide +kernel
theorem dX11_sheet_52 : decode cX11_sheet 52 = .ok (.iload_n 3, 1) := by decide +kernel
theorem dX11_sheet_53 : decode cX11_sheet 53 = .ok (.invokevirtual 187, 3) := by decide +kernel
theorem dX11_sheet_56 : decode cX11_sheet 56 = .ok (.goto 10, 3) := by decide +kernel
theorem dX11_sheet_59 : decode cX11_sheet 59 = .ok (.aload 5, 2) := by decide +kernel
theorem dX11_sheet_61 : decode cX11_sheet 61 = .ok (.iload_n 2, 1) := by decide +kernel
theorem dX11_sheet_62 : decode cX11_sheet 62 = .ok (.iload_n 3, 1) := by decide +kernel
theorem dX11_sheet_63 : decode cX11_sheet 63 = .ok (.invokevirtual 190, 3) := by decide +kernel
theorem dX11_sheet_66 : decode cX11_sheet 66 = .ok (.invokevirtual 82, 3) := by decide +kernel
theorem dX11_sheet_69 : decode cX11_sheet 69 = .ok (.ireturn, 1) := by decide +kernel
def X11_sheet_37  (this : Nat) : MM Int32 :=
  mb (wc 12 (some this) fun t => X11_refuse t (3 : Int32)) fun v1 =>
  mr v1
def X11_sheet_66  (this : Nat) (y0 : Int32) : MM Int32 :=
  mb (wc 12 (some this) fun t => X11_answer t y0) fun v1 =>
  mr v1
def X11_sheet (this : Nat) (a1 : Int32) (a2 : Int32) (a3 : Int32) (a4 : Int32) : MM Int32 :=
  mb (wc 12 (some this) fun t => X11_bookWithLeaf t a1 a2) fun v1 =>
  if v1 = none then (mb (wc 12 (some this) fun t => X11_refuse t (1 : Int32)) fun v2 =>
  mr v2) else (mb (X11_isFormat a3) fun v3 =>
  if v3 = 0 then ((X11_sheet_37 this)) else (if a4 < 0 then ((X11_sheet_37 this)) else (if a4 ≤ (1 : Int32) then (if a4 = 0 then (mb (wc 2 v1 fun t => X0_sheetOf t a2 a3) fun v4 =>
  (X11_sheet_66 this v4)) else (mb (wc 2 v1 fun t => X0_numberOnSheet t a2 a3) fun v5 =>
  (X11_sheet_66 this v5))) else ((X11_sheet_37 this)))))
set_option maxRecDepth 100000 in
set_option maxHeartbeats 4000000 in
theorem s_X11_sheet_37 (G : GG)   (this : Nat) : Sn G yX11_sheet cX11_sheet 6 (some FieldType.int) 4 84 (fun v : Int32 => some (.int v)) (X11_sheet_37  this) 37 [some (va_rf (some this)), none, none, none, none, none] [] := by
  unfold X11_sheet_37
  refine sn_aload_n (v := (some this)) (pc' := 38) dX11_sheet_37 rfl rfl rfl ?_
  refine sn_iconst (v := (3 : Int32)) (pc' := 39) dX11_sheet_38 rfl (by decide) ?_
  refine sn_cV (r := (some this)) (st := []) (As := [.int (3 : Int32)]) (st2 := (fun v => .int v :: [])) (pc' := 42) ci_12 (fun t => c_X11_refuse G t (3 : Int32)) cw_X11_refuse rfl rfl tw318 pw0 tw320 rfl rfl cat_nil rfl (fun _ => rfl) dX11_sheet_39 rfl (fun v1 => ?_)
  exact sn_iret dX11_sheet_42 rfl rfl
set_option maxRecDepth 100000 in
set_option maxHeartbeats 4000000 in
theorem s_X11_sheet_66 (G : GG)   (this : Nat) (y0 : Int32) : Sn G yX11_sheet cX11_sheet 6 (some FieldType.int) 4 84 (fun v : Int32 => some (.int v)) (X11_sheet_66  this y0) 66 [none, none, none, none, none, none] [.int y0, va_rf (some this)] := by
  unfold X11_sheet_66
  refine sn_cV (r := (some this)) (st := []) (As := [.int y0]) (st2 := (fun v => .int v :: [])) (pc' := 69) ci_12 (fun t => c_X11_answer G t y0) cw_X11_answer rfl rfl tw326 pw1 tw328 rfl rfl cat_nil rfl (fun _ => rfl) dX11_sheet_66 rfl (fun v1 => ?_)
  exact sn_iret dX11_sheet_69 rfl rfl
set_option maxRecDepth 100000 in
set_option maxHeartbeats 4000000 in
theorem s_X11_sheet (G : GG) (this : Nat) (a1 : Int32) (a2 : Int32) (a3 : Int32) (a4 : Int32) : Sn G yX11_sheet cX11_sheet 6 (some FieldType.int) 4 84 (fun v : Int32 => some (.int v)) (X11_sheet this a1 a2 a3 a4) 0 [some (va_rf (some this)), some (.int a1), some (.int a2), some (.int a3), some (.int a4), none] [] := by
  unfold X11_sheet
  refine sn_aload_n (v := (some this)) (pc' := 1) dX11_sheet_0 rfl rfl rfl ?_
  refine sn_iload_n (v := a1) (pc' := 2) dX11_sheet_1 rfl rfl rfl ?_
  refine sn_iload_n (v := a2) (pc' := 3) dX11_sheet_2 rfl rfl rfl ?_
  refine sn_cV (r := (some this)) (st := []) (As := [.int a1, .int a2]) (st2 := (fun v => va_rf v :: [])) (pc' := 6) ci_12 (fun t => c_X11_bookWithLeaf G t a1 a2) cw_X11_bookWithLeaf rfl rfl tw1142 pw39 tw1144 rfl rfl cat_nil rfl (fun _ => rfl) dX11_sheet_3 rfl (fun v1 => ?_)
  refine sn_astore (v := v1) (L' := [some (va_rf (some this)), some (.int a1), some (.int a2), some (.int a3), some (.int a4), some (va_rf v1)]) (pc' := 8) dX11_sheet_6 rfl rfl rfl ?_
  refine sn_aload (v := v1) (pc' := 10) dX11_sheet_8 rfl rfl ?_
  refine sn_ifnonnull (pt := 19) (pf := 13) dX11_sheet_10 rfl rfl ?_ ?_
  · refine sn_aload_n (v := (some this)) (pc' := 14) dX11_sheet_13 rfl rfl rfl ?_
    refine sn_iconst (v := (1 : Int32)) (pc' := 15) dX11_sheet_14 rfl (by decide) ?_
    refine sn_cV (r := (some this)) (st := []) (As := [.int (1 : Int32)]) (st2 := (fun v => .int v :: [])) (pc' := 18) ci_12 (fun t => c_X11_refuse G t (1 : Int32)) cw_X11_refuse rfl rfl tw318 pw0 tw320 rfl rfl cat_nil rfl (fun _ => rfl) dX11_sheet_15 rfl (fun v2 => ?_)
    exact sn_iret dX11_sheet_18 rfl rfl
  · refine sn_iload_n (v := a3) (pc' := 20) dX11_sheet_19 rfl rfl rfl ?_
    refine sn_cS (st := []) (As := [.int a3]) (st2 := (fun v => .int v :: [])) (pc' := 23) (c_X11_isFormat G a3) cw_X11_isFormat rfl rfl tw1185 tw1186 rfl rfl cat_nil rfl (fun _ => rfl) dX11_sheet_20 rfl (fun v3 => ?_)
    refine sn_if_eq (pt := 37) (pf := 26) dX11_sheet_23 rfl rfl ?_ ?_
    · exact sn_weak (le_s (le_n (le_n (le_n (le_n (le_n le_e)))))) (s_X11_sheet_37 G this)
    · refine sn_iload (v := a4) (pc' := 28) dX11_sheet_26 rfl rfl ?_
      refine sn_if_lt (pt := 37) (pf := 31) dX11_sheet_28 rfl rfl ?_ ?_
      · exact sn_weak (le_s (le_n (le_n (le_n (le_n (le_n le_e)))))) (s_X11_sheet_37 G this)
      · refine sn_iload (v := a4) (pc' := 33) dX11_sheet_31 rfl rfl ?_
        refine sn_iconst (v := (1 : Int32)) (pc' := 34) dX11_sheet_33 rfl (by decide) ?_
        refine sn_ic_le (pt := 43) (pf := 37) dX11_sheet_34 rfl rfl ?_ ?_
        · refine sn_aload_n (v := (some this)) (pc' := 44) dX11_sheet_43 rfl rfl rfl ?_
          refine sn_iload (v := a4) (pc' := 46) dX11_sheet_44 rfl rfl ?_
          refine sn_if_ne (pt := 59) (pf := 49) dX11_sheet_46 rfl rfl ?_ ?_
          · refine sn_aload (v := v1) (pc' := 51) dX11_sheet_49 rfl rfl ?_
            refine sn_iload_n (v := a2) (pc' := 52) dX11_sheet_51 rfl rfl rfl ?_
            refine sn_iload_n (v := a3) (pc' := 53) dX11_sheet_52 rfl rfl rfl ?_
            refine sn_cV (r := v1) (st := [va_rf (some this)]) (As := [.int a2, .int a3]) (st2 := (fun v => .int v :: [va_rf (some this)])) (pc' := 56) ci_2 (fun t => c_X0_sheetOf G t a2 a3) cw_X0_sheetOf rfl rfl tw1200 tw1202 tw1201 rfl rfl (cat_q cat_nil) rfl (fun _ => rfl) dX11_sheet_53 rfl (fun v4 => ?_)
            refine sn_goto (pc' := 66) dX11_sheet_56 rfl ?_
            exact sn_weak (le_n (le_n (le_n (le_n (le_n (le_n le_e)))))) (s_X11_sheet_66 G this v4)
          · refine sn_aload (v := v1) (pc' := 61) dX11_sheet_59 rfl rfl ?_
            refine sn_iload_n (v := a2) (pc' := 62) dX11_sheet_61 rfl rfl rfl ?_
            refine sn_iload_n (v := a3) (pc' := 63) dX11_sheet_62 rfl rfl rfl ?_
            refine sn_cV (r := v1) (st := [va_rf (some this)]) (As := [.int a2, .int a3]) (st2 := (fun v => .int v :: [va_rf (some this)])) (pc' := 66) ci_2 (fun t => c_X0_numberOnSheet G t a2 a3) cw_X0_numberOnSheet rfl rfl tw1205 tw1207 tw1206 rfl rfl (cat_q cat_nil) rfl (fun _ => rfl) dX11_sheet_63 rfl (fun v5 => ?_)
            exact sn_weak (le_n (le_n (le_n (le_n (le_n (le_n le_e)))))) (s_X11_sheet_66 G this v5)
        · exact sn_weak (le_s (le_n (le_n (le_n (le_n (le_n le_e)))))) (s_X11_sheet_37 G this)
theorem c_X11_sheet (G : GG) (this : Nat) (a1 : Int32) (a2 : Int32) (a3 : Int32) (a4 : Int32) : Cal G yX11_sheet cX11_sheet 6 (some FieldType.int) 4 84 (fun v : Int32 => some (.int v)) (X11_sheet this a1 a2 a3 a4) [.ref this, .int a1, .int a2, .int a3, .int a4] :=
  Cal.of (by decide) (cat_t (cat_i (cat_i (cat_i (cat_i cat_nil))))) rfl (sn_weak (le_s (le_s (le_s (le_s (le_s (le_z le_e)))))) (s_X11_sheet G this a1 a2 a3 a4))
theorem cw_X11_sheet : CW yX11_sheet cX11_sheet 6 (some FieldType.int) 4 := ⟨tw1199, tw1, by decide, by decide +kernel⟩
/-! X0_formeOf -/
theorem dX0_formeOf_0 : decode cX0_formeOf 0 = .ok (.aload_n 0, 1) := by decide +kernel
theorem dX0_formeOf_1 : decode cX0_formeOf 1 = .ok (.iload_n 1, 1) := by decide +kernel
theorem dX0_formeOf_2 : decode cX0_formeOf 2 = .ok (.iload_n 3, 1) := by decide +kernel
theorem dX0_formeOf_3 : decode cX0_formeOf 3 = .ok (.invokevirtual 142, 3) := by decide +kernel
theorem dX0_formeOf_6 : decode cX0_formeOf 6 = .ok (.istore 4, 2) := by decide +kernel
theorem dX0_formeOf_8 : decode cX0_formeOf 8 = .ok (.iload 4, 2) := by decide +kernel
theorem dX0_formeOf_10 : decode cX0_formeOf 10 = .ok (.iconst (-1), 1) := by decide +kernel
theorem dX0_formeOf_11 : decode cX0_formeOf 11 = .ok (.if_icmp .ne 5, 3) := by decide +kernel
theorem dX0_formeOf_14 : decode cX0_formeOf 14 = .ok (.iconst (-1), 1) := by decide +kernel
theorem dX0_formeOf_15 : decode cX0_formeOf 15 = .ok (.ireturn, 1) := by decide +kernel
theorem dX0_formeOf_16 : decode cX0_formeOf 16 = .ok (.iload 4, 2) := by decide +kernel
theorem dX0_formeOf_18 : decode cX0_formeOf 18 = .ok (.iconst 2, 1) := by decide +kernel
theorem dX0_formeOf_19 : decode cX0_formeOf 19 = .ok (.irem, 1) := by decide +kernel
theorem dX0_formeOf_20 : decode cX0_formeOf 20 = .ok (.iconst 1, 1) := by decide +kernel
theorem dX0_formeOf_21 : decode cX0_formeOf 21 = .ok (.if_icmp .ne 7, 3) := by decide +kernel
theorem dX0_formeOf_24 : decode cX0_formeOf 24 = .ok (.iconst 1, 1) := by decide +kernel
theorem dX0_formeOf_25 : decode cX0_formeOf 25 = .ok (.goto 4, 3) := by decide +kernel
theorem dX0_formeOf_28 : decode cX0_formeOf 28 = .ok (.iconst 0, 1) := by decide +kernel
theorem dX0_formeOf_29 : decode cX0_formeOf 29 = .ok (.istore 5, 2) := by decide +kernel
theorem dX0_formeOf_31 : decode cX0_formeOf 31 = .ok (.iload_n 2, 1) := by decide +kernel
theorem dX0_formeOf_32 : decode cX0_formeOf 32 = .ok (.ifCond .ne 7, 3) := by decide +kernel
theorem dX0_formeOf_35 : decode cX0_formeOf 35 = .ok (.iconst 1, 1) := by decide +kernel
theorem dX0_formeOf_36 : decode cX0_formeOf 36 = .ok (.goto 4, 3) := by decide +kernel
theorem dX0_formeOf_39 : decode cX0_formeOf 39 = .ok (.iconst 0, 1) := by decide +kernel
theorem dX0_formeOf_40 : decode cX0_formeOf 40 = .ok (.istore 6, 2) := by decide +kernel
theorem dX0_formeOf_42 : decode cX0_formeOf 42 = .ok (.iload 5, 2) := by decide +kernel
theorem dX0_formeOf_44 : decode cX0_formeOf 44 = .ok (.iload 6, 2) := by decide +kernel
theorem dX0_formeOf_46 : decode cX0_formeOf 46 = .ok (.if_icmp .ne 7, 3) := by decide +kernel
theorem dX0_formeOf_49 : decode cX0_formeOf 49 = .ok (.iconst 0, 1) := by decide +kernel
theorem dX0_formeOf_50 : decode cX0_formeOf 50 = .ok (.goto 4, 3) := by decide +kernel
theorem dX0_formeOf_53 : decode cX0_formeOf 53 = .ok (.iconst 1, 1) := by decide +kernel
theorem dX0_formeOf_54 : decode cX0_formeOf 54 = .ok (.ireturn, 1) := by decide +kernel
def X0_formeOf_40  (x5 : Int32) (y0 : Int32) : MM Int32 :=
  if x5 = y0 then (mr (0 : Int32)) else (mr (1 : Int32))
def X0_formeOf_29  (x2 : Int32) (y0 : Int32) : MM Int32 :=
  if x2 = 0 then ((X0_formeOf_40 y0 (1 : Int32))) else ((X0_formeOf_40 y0 (0 : Int32)))
def X0_formeOf (this : Nat) (a1 : Int32) (a2 : Int32) (a3 : Int32) : MM Int32 :=
  mb (wc 2 (some this) fun t => X0_numberOnSheet t a1 a3) fun v1 =>
  if v1 = (-1 : Int32) then (mr (-1 : Int32)) else (mb (rI v1 (2 : Int32)) fun v2 =>
  if v2 = (1 : Int32) then ((X0_formeOf_29 a2 (1 : Int32))) else ((X0_formeOf_29 a2 (0 : Int32))))
set_option maxRecDepth 100000 in
set_option maxHeartbeats 4000000 in
theorem s_X0_formeOf_40 (G : GG)   (x5 : Int32) (y0 : Int32) : Sn G yX0_formeOf cX0_formeOf 7 (some FieldType.int) 3 69 (fun v : Int32 => some (.int v)) (X0_formeOf_40  x5 y0) 40 [none, none, none, none, none, some (.int x5), none] [.int y0] := by
  unfold X0_formeOf_40
  refine sn_istore (v := y0) (L' := [none, none, none, none, none, some (.int x5), some (.int y0)]) (pc' := 42) dX0_formeOf_40 rfl rfl rfl ?_
  refine sn_iload (v := x5) (pc' := 44) dX0_formeOf_42 rfl rfl ?_
  refine sn_iload (v := y0) (pc' := 46) dX0_formeOf_44 rfl rfl ?_
  refine sn_ic_ne (pt := 53) (pf := 49) dX0_formeOf_46 rfl rfl ?_ ?_
  · refine sn_iconst (v := (0 : Int32)) (pc' := 50) dX0_formeOf_49 rfl (by decide) ?_
    refine sn_goto (pc' := 54) dX0_formeOf_50 rfl ?_
    exact sn_iret dX0_formeOf_54 rfl rfl
  · refine sn_iconst (v := (1 : Int32)) (pc' := 54) dX0_formeOf_53 rfl (by decide) ?_
    exact sn_iret dX0_formeOf_54 rfl rfl
set_option maxRecDepth 100000 in
set_option maxHeartbeats 4000000 in
theorem s_X0_formeOf_29 (G : GG)   (x2 : Int32) (y0 : Int32) : Sn G yX0_formeOf cX0_formeOf 7 (some FieldType.int) 3 69 (fun v : Int32 => some (.int v)) (X0_formeOf_29  x2 y0) 29 [none, none, some (.int x2), none, none, none, none] [.int y0] := by
  unfold X0_formeOf_29
  refine sn_istore (v := y0) (L' := [none, none, some (.int x2), none, none, some (.int y0), none]) (pc' := 31) dX0_formeOf_29 rfl rfl rfl ?_
  refine sn_iload_n (v := x2) (pc' := 32) dX0_formeOf_31 rfl rfl rfl ?_
  refine sn_if_ne (pt := 39) (pf := 35) dX0_formeOf_32 rfl rfl ?_ ?_
  · refine sn_iconst (v := (1 : Int32)) (pc' := 36) dX0_formeOf_35 rfl (by decide) ?_
    refine sn_goto (pc' := 40) dX0_formeOf_36 rfl ?_
    exact sn_weak (le_n (le_n (le_n (le_n (le_n (le_s (le_n le_e))))))) (s_X0_formeOf_40 G y0 (1 : Int32))
  · refine sn_iconst (v := (0 : Int32)) (pc' := 40) dX0_formeOf_39 rfl (by decide) ?_
    exact sn_weak (le_n (le_n (le_n (le_n (le_n (le_s (le_n le_e))))))) (s_X0_formeOf_40 G y0 (0 : Int32))
set_option maxRecDepth 100000 in
set_option maxHeartbeats 4000000 in
theorem s_X0_formeOf (G : GG) (this : Nat) (a1 : Int32) (a2 : Int32) (a3 : Int32) : Sn G yX0_formeOf cX0_formeOf 7 (some FieldType.int) 3 69 (fun v : Int32 => some (.int v)) (X0_formeOf this a1 a2 a3) 0 [some (va_rf (some this)), some (.int a1), some (.int a2), some (.int a3), none, none, none] [] := by
  unfold X0_formeOf
  refine sn_aload_n (v := (some this)) (pc' := 1) dX0_formeOf_0 rfl rfl rfl ?_
  refine sn_iload_n (v := a1) (pc' := 2) dX0_formeOf_1 rfl rfl rfl ?_
  refine sn_iload_n (v := a3) (pc' := 3) dX0_formeOf_2 rfl rfl rfl ?_
  refine sn_cV (r := (some this)) (st := []) (As := [.int a1, .int a3]) (st2 := (fun v => .int v :: [])) (pc' := 6) ci_2 (fun t => c_X0_numberOnSheet G t a1 a3) cw_X0_numberOnSheet rfl rfl tw1217 tw1207 tw1206 rfl rfl cat_nil rfl (fun _ => rfl) dX0_formeOf_3 rfl (fun v1 => ?_)
  refine sn_istore (v := v1) (L' := [some (va_rf (some this)), some (.int a1), some (.int a2), some (.int a3), some (.int v1), none, none]) (pc' := 8) dX0_formeOf_6 rfl rfl rfl ?_
  refine sn_iload (v := v1) (pc' := 10) dX0_formeOf_8 rfl rfl ?_
  refine sn_iconst (v := (-1 : Int32)) (pc' := 11) dX0_formeOf_10 rfl (by decide) ?_
  refine sn_ic_ne (pt := 16) (pf := 14) dX0_formeOf_11 rfl rfl ?_ ?_
  · refine sn_iconst (v := (-1 : Int32)) (pc' := 15) dX0_formeOf_14 rfl (by decide) ?_
    exact sn_iret dX0_formeOf_15 rfl rfl
  · refine sn_iload (v := v1) (pc' := 18) dX0_formeOf_16 rfl rfl ?_
    refine sn_iconst (v := (2 : Int32)) (pc' := 19) dX0_formeOf_18 rfl (by decide) ?_
    refine sn_rI (pc' := 20) dX0_formeOf_19 rfl (fun v2 => ?_)
    refine sn_iconst (v := (1 : Int32)) (pc' := 21) dX0_formeOf_20 rfl (by decide) ?_
    refine sn_ic_ne (pt := 28) (pf := 24) dX0_formeOf_21 rfl rfl ?_ ?_
    · refine sn_iconst (v := (1 : Int32)) (pc' := 25) dX0_formeOf_24 rfl (by decide) ?_
      refine sn_goto (pc' := 29) dX0_formeOf_25 rfl ?_
      exact sn_weak (le_n (le_n (le_s (le_n (le_n (le_n (le_n le_e))))))) (s_X0_formeOf_29 G a2 (1 : Int32))
    · refine sn_iconst (v := (0 : Int32)) (pc' := 29) dX0_formeOf_28 rfl (by decide) ?_
      exact sn_weak (le_n (le_n (le_s (le_n (le_n (le_n (le_n le_e))))))) (s_X0_formeOf_29 G a2 (0 : Int32))
theorem c_X0_formeOf (G : GG) (this : Nat) (a1 : Int32) (a2 : Int32) (a3 : Int32) : Cal G yX0_formeOf cX0_formeOf 7 (some FieldType.int) 3 69 (fun v : Int32 => some (.int v)) (X0_formeOf this a1 a2 a3) [.ref this, .int a1, .int a2, .int a3] :=
  Cal.of (by decide) (cat_t (cat_i (cat_i (cat_i cat_nil)))) rfl (sn_weak (le_s (le_s (le_s (le_s (le_z (le_z (le_z le_e))))))) (s_X0_formeOf G this a1 a2 a3))
theorem cw_X0_formeOf : CW yX0_formeOf cX0_formeOf 7 (some FieldType.int) 3 := ⟨tw1216, tw21, by decide, by decide +kernel⟩
/-! X11_forme -/
theorem dX11_forme_0 : decode cX11_forme 0 = .ok (.aload_n 0, 1) := by decide +kernel
theorem dX11_forme_1 : decode cX11_forme 1 = .ok (.iload_n 1, 1) := by decide +kernel
theorem dX11_forme_2 : decode cX11_forme 2 = .ok (.iload_n 2, 1) := by decide +kernel
theorem dX11_forme_3 : decode cX11_forme 3 = .ok (.invokevirtual 156, 3) := by decide +kernel
theorem dX11_forme_6 : decode cX11_forme 6 = .ok (.astore 5, 2) := by decide +kernel
theorem dX11_forme_8 : decode cX11_forme 8 = .ok (.aload 5, 2) := by decide +kernel
theorem dX11_forme_10 : decode cX11_forme 10 = .ok (.ifnonnull 9, 3) := by decide +kernel
theorem dX11_forme_13 : decode cX11_forme 13 = .ok (.aload_n 0, 1) := by decide +kernel
theorem dX11_forme_14 : decode cX11_forme 14 = .ok (.iconst 1, 1) := by decide +kernel
theorem dX11_forme_15 : decode cX11_forme 15 = .ok (.invokevirtual 71, 3) := by decide +kernel
theorem dX11_forme_18 : decode cX11_forme 18 = .ok (.ireturn, 1) := by decide +kernel
theorem dX11_forme_19 : decode cX11_forme 19 = .ok (.iload 4, 2) := by decide +kernel
theorem dX11_forme_21 : decode cX11_forme 21 = .ok (.invokestatic 181, 3) := by decide +kernel
theorem dX11_forme_24 : decode cX11_forme 24 = .ok (.ifCond .eq 12, 3) := by decide +kernel
theorem dX11_forme_27 : decode cX11_forme 27 = .ok (.iload_n 3, 1) := by decide +kernel
theorem dX11_forme_28 : decode cX11_forme 28 = .ok (.ifCond .lt 8, 3) := by decide +kernel
theorem dX11_forme_31 : decode cX11_forme 31 = .ok (.iload_n 3, 1) := by decide +kernel
theorem dX11_forme_32 : decode cX11_forme 32 = .ok (.iconst 1, 1) := by decide +kernel
theorem dX11_forme_33 : decode cX11_forme 33 = .ok (.if_icmp .le 9, 3) := by decide +kernel
theorem dX11_forme_36 : decode cX11_forme 36 = .ok (.aload_n 0, 1) := by decide +kernel
theorem dX11_forme_37 : decode cX11_forme 37 = .ok (.iconst 3, 1) := by decide +kernel
theorem dX11_forme_38 : decode cX11_forme 38 = .ok (.invokevirtual 71, 3) := by decide +kernel
theorem dX11_forme_41 : decode cX11_forme 41 = .ok (.ireturn, 1) := by decide +kernel
theorem dX11_forme_42 : decode cX11_forme 42 = .ok (.aload_n 0, 1) := by decide +kernel
theorem dX11_forme_43 : decode cX11_forme 43 = .ok (.aload 5, 2) := by decide +kernel
theorem dX11_forme_45 : decode cX11_forme 45 = .ok (.iload_n 2, 1) := by decide +kernel
theorem dX11_forme_46 : decode cX11_forme 46 = .ok (.iload_n 3, 1) := by decide +kernel
theorem dX11_forme_47 : decode cX11_forme 47 = .ok (.iload 4, 2) := by decide +kernel
theorem dX11_forme_49 : decode cX11_forme 49 = .ok (.invokevirtual 193, 3) := by decide +kernel
theorem dX11_forme_52 : decode cX11_forme 52 = .ok (.invokevirtual 82, 3) := by decide +kernel
theorem dX11_forme_55 : decode cX11_forme 55 = .ok (.ireturn, 1) := by decide +kernel
def X11_forme_36  (this : Nat) : MM Int32 :=
  mb (wc 12 (some this) fun t => X11_refuse t (3 : Int32)) fun v1 =>
  mr v1
def X11_forme (this : Nat) (a1 : Int32) (a2 : Int32) (a3 : Int32) (a4 : Int32) : MM Int32 :=
  mb (wc 12 (some this) fun t => X11_bookWithLeaf t a1 a2) fun v1 =>
  if v1 = none then (mb (wc 12 (some this) fun t => X11_refuse t (1 : Int32)) fun v2 =>
  mr v2) else (mb (X11_isFormat a4) fun v3 =>
  if v3 = 0 then ((X11_forme_36 this)) else (if a3 < 0 then ((X11_forme_36 this)) else (if a3 ≤ (1 : Int32) then (mb (wc 2 v1 fun t => X0_formeOf t a2 a3 a4) fun v4 =>
  mb (wc 12 (some this) fun t => X11_answer t v4) fun v5 =>
  mr v5) else ((X11_forme_36 this)))))
set_option maxRecDepth 100000 in
set_option maxHeartbeats 4000000 in
theorem s_X11_forme_36 (G : GG)   (this : Nat) : Sn G yX11_forme cX11_forme 6 (some FieldType.int) 4 95 (fun v : Int32 => some (.int v)) (X11_forme_36  this) 36 [some (va_rf (some this)), none, none, none, none, none] [] := by
  unfold X11_forme_36
  refine sn_aload_n (v := (some this)) (pc' := 37) dX11_forme_36 rfl rfl rfl ?_
  refine sn_iconst (v := (3 : Int32)) (pc' := 38) dX11_forme_37 rfl (by decide) ?_
  refine sn_cV (r := (some this)) (st := []) (As := [.int (3 : Int32)]) (st2 := (fun v => .int v :: [])) (pc' := 41) ci_12 (fun t => c_X11_refuse G t (3 : Int32)) cw_X11_refuse rfl rfl tw318 pw0 tw320 rfl rfl cat_nil rfl (fun _ => rfl) dX11_forme_38 rfl (fun v1 => ?_)
  exact sn_iret dX11_forme_41 rfl rfl
set_option maxRecDepth 100000 in
set_option maxHeartbeats 4000000 in
theorem s_X11_forme (G : GG) (this : Nat) (a1 : Int32) (a2 : Int32) (a3 : Int32) (a4 : Int32) : Sn G yX11_forme cX11_forme 6 (some FieldType.int) 4 95 (fun v : Int32 => some (.int v)) (X11_forme this a1 a2 a3 a4) 0 [some (va_rf (some this)), some (.int a1), some (.int a2), some (.int a3), some (.int a4), none] [] := by
  unfold X11_forme
  refine sn_aload_n (v := (some this)) (pc' := 1) dX11_forme_0 rfl rfl rfl ?_
  refine sn_iload_n (v := a1) (pc' := 2) dX11_forme_1 rfl rfl rfl ?_
  refine sn_iload_n (v := a2) (pc' := 3) dX11_forme_2 rfl rfl rfl ?_
  refine sn_cV (r := (some this)) (st := []) (As := [.int a1, .int a2]) (st2 := (fun v => va_rf v :: [])) (pc' := 6) ci_12 (fun t => c_X11_bookWithLeaf G t a1 a2) cw_X11_bookWithLeaf rfl rfl tw1142 pw39 tw1144 rfl rfl cat_nil rfl (fun _ => rfl) dX11_forme_3 rfl (fun v1 => ?_)
  refine sn_astore (v := v1) (L' := [some (va_rf (some this)), some (.int a1), some (.int a2), some (.int a3), some (.int a4), some (va_rf v1)]) (pc' := 8) dX11_forme_6 rfl rfl rfl ?_
  refine sn_aload (v := v1) (pc' := 10) dX11_forme_8 rfl rfl ?_
  refine sn_ifnonnull (pt := 19) (pf := 13) dX11_forme_10 rfl rfl ?_ ?_
  · refine sn_aload_n (v := (some this)) (pc' := 14) dX11_forme_13 rfl rfl rfl ?_
    refine sn_iconst (v := (1 : Int32)) (pc' := 15) dX11_forme_14 rfl (by decide) ?_
    refine sn_cV (r := (some this)) (st := []) (As := [.int (1 : Int32)]) (st2 := (fun v => .int v :: [])) (pc' := 18) ci_12 (fun t => c_X11_refuse G t (1 : Int32)) cw_X11_refuse rfl rfl tw318 pw0 tw320 rfl rfl cat_nil rfl (fun _ => rfl) dX11_forme_15 rfl (fun v2 => ?_)
    exact sn_iret dX11_forme_18 rfl rfl
  · refine sn_iload (v := a4) (pc' := 21) dX11_forme_19 rfl rfl ?_
    refine sn_cS (st := []) (As := [.int a4]) (st2 := (fun v => .int v :: [])) (pc' := 24) (c_X11_isFormat G a4) cw_X11_isFormat rfl rfl tw1185 tw1186 rfl rfl cat_nil rfl (fun _ => rfl) dX11_forme_21 rfl (fun v3 => ?_)
    refine sn_if_eq (pt := 36) (pf := 27) dX11_forme_24 rfl rfl ?_ ?_
    · exact sn_weak (le_s (le_n (le_n (le_n (le_n (le_n le_e)))))) (s_X11_forme_36 G this)
    · refine sn_iload_n (v := a3) (pc' := 28) dX11_forme_27 rfl rfl rfl ?_
      refine sn_if_lt (pt := 36) (pf := 31) dX11_forme_28 rfl rfl ?_ ?_
      · exact sn_weak (le_s (le_n (le_n (le_n (le_n (le_n le_e)))))) (s_X11_forme_36 G this)
      · refine sn_iload_n (v := a3) (pc' := 32) dX11_forme_31 rfl rfl rfl ?_
        refine sn_iconst (v := (1 : Int32)) (pc' := 33) dX11_forme_32 rfl (by decide) ?_
        refine sn_ic_le (pt := 42) (pf := 36) dX11_forme_33 rfl rfl ?_ ?_
        · refine sn_aload_n (v := (some this)) (pc' := 43) dX11_forme_42 rfl rfl rfl ?_
          refine sn_aload (v := v1) (pc' := 45) dX11_forme_43 rfl rfl ?_
          refine sn_iload_n (v := a2) (pc' := 46) dX11_forme_45 rfl rfl rfl ?_
          refine sn_iload_n (v := a3) (pc' := 47) dX11_forme_46 rfl rfl rfl ?_
          refine sn_iload (v := a4) (pc' := 49) dX11_forme_47 rfl rfl ?_
          refine sn_cV (r := v1) (st := [va_rf (some this)]) (As := [.int a2, .int a3, .int a4]) (st2 := (fun v => .int v :: [va_rf (some this)])) (pc' := 52) ci_2 (fun t => c_X0_formeOf G t a2 a3 a4) cw_X0_formeOf rfl rfl tw1213 tw1215 tw1214 rfl rfl (cat_q cat_nil) rfl (fun _ => rfl) dX11_forme_49 rfl (fun v4 => ?_)
          refine sn_cV (r := (some this)) (st := []) (As := [.int v4]) (st2 := (fun v => .int v :: [])) (pc' := 55) ci_12 (fun t => c_X11_answer G t v4) cw_X11_answer rfl rfl tw326 pw1 tw328 rfl rfl cat_nil rfl (fun _ => rfl) dX11_forme_52 rfl (fun v5 => ?_)
          exact sn_iret dX11_forme_55 rfl rfl
        · exact sn_weak (le_s (le_n (le_n (le_n (le_n (le_n le_e)))))) (s_X11_forme_36 G this)
theorem c_X11_forme (G : GG) (this : Nat) (a1 : Int32) (a2 : Int32) (a3 : Int32) (a4 : Int32) : Cal G yX11_forme cX11_forme 6 (some FieldType.int) 4 95 (fun v : Int32 => some (.int v)) (X11_forme this a1 a2 a3 a4) [.ref this, .int a1, .int a2, .int a3, .int a4] :=
  Cal.of (by decide) (cat_t (cat_i (cat_i (cat_i (cat_i cat_nil))))) rfl (sn_weak (le_s (le_s (le_s (le_s (le_s (le_z le_e)))))) (s_X11_forme G this a1 a2 a3 a4))
theorem cw_X11_forme : CW yX11_forme cX11_forme 6 (some FieldType.int) 4 := ⟨tw1212, tw1, by decide, by decide +kernel⟩
/-! X11_copyAt -/
theorem dX11_copyAt_0 : decode cX11_copyAt 0 = .ok (.iload_n 1, 1) := by decide +kernel
theorem dX11_copyAt_1 : decode cX11_copyAt 1 = .ok (.ifCond .lt 20, 3) := by decide +kernel
theorem dX11_copyAt_4 : decode cX11_copyAt 4 = .ok (.iload_n 1, 1) := by decide +kernel
theorem dX11_copyAt_5 : decode cX11_copyAt 5 = .ok (.aload_n 0, 1) := by decide +kernel
theorem dX11_copyAt_6 : decode cX11_copyAt 6 = .ok (.getfield 140, 3) := by decide +kernel
theorem dX11_copyAt_9 : decode cX11_copyAt 9 = .ok (.if_icmp .ge 12, 3) := by decide +kernel
theorem dX11_copyAt_12 : decode cX11_copyAt 12 = .ok (.iload_n 1, 1) := by decide +kernel
theorem dX11_copyAt_13 : decode cX11_copyAt 13 = .ok (.aload_n 0, 1) := by decide +kernel
theorem dX11_copyAt_14 : decode cX11_copyAt 14 = .ok (.getfield 63, 3) := by decide +kernel
theorem dX11_copyAt_17 : decode cX11_copyAt 17 = .ok (.arraylength, 1) := by decide +kernel
theorem dX11_copyAt_18 : decode cX11_copyAt 18 = .ok (.if_icmp .lt 7, 3) := by decide +kernel
theorem dX11_copyAt_21 : decode cX11_copyAt 21 = .ok (.aconst_null, 1) := by decide +kernel
theorem dX11_copyAt_22 : decode cX11_copyAt 22 = .ok (.goto 9, 3) := by decide +kernel
theorem dX11_copyAt_25 : decode cX11_copyAt 25 = .ok (.aload_n 0, 1) := by decide +kernel
theorem dX11_copyAt_26 : decode cX11_copyAt 26 = .ok (.getfield 63, 3) := by decide +kernel
theorem dX11_copyAt_29 : decode cX11_copyAt 29 = .ok (.iload_n 1, 1) := by decide +kernel
theorem dX11_copyAt_30 : decode cX11_copyAt 30 = .ok (.aaload, 1) := by decide +kernel
theorem dX11_copyAt_31 : decode cX11_copyAt 31 = .ok (.areturn, 1) := by decide +kernel
def X11_copyAt (this : Nat) (a1 : Int32) : MM (Option Nat) :=
  if a1 < 0 then (mr none) else (mb (gI 12 (some this) 9) fun v1 =>
  if v1 ≤ a1 then (mr none) else (mb (gR 12 (some this) 7) fun v2 =>
  mb (aN v2) fun v3 =>
  if a1 < v3 then (mb (gR 12 (some this) 7) fun v4 =>
  mb (aR v4 a1) fun v5 =>
  mr v5) else (mr none)))
set_option maxRecDepth 100000 in
set_option maxHeartbeats 4000000 in
theorem s_X11_copyAt (G : GG) (this : Nat) (a1 : Int32) : Sn G yX11_copyAt cX11_copyAt 2 (some (FieldType.object "LeafFormula$Copy")) 0 0 (fun v : Option Nat => some (va_rf v)) (X11_copyAt this a1) 0 [some (va_rf (some this)), some (.int a1)] [] := by
  unfold X11_copyAt
  refine sn_iload_n (v := a1) (pc' := 1) dX11_copyAt_0 rfl rfl rfl ?_
  refine sn_if_lt (pt := 21) (pf := 4) dX11_copyAt_1 rfl rfl ?_ ?_
  · refine sn_null (pc' := 22) dX11_copyAt_21 rfl ?_
    refine sn_goto (pc' := 31) dX11_copyAt_22 rfl ?_
    exact sn_aret dX11_copyAt_31 rfl (Or.inl ⟨_, rfl⟩)
  · refine sn_iload_n (v := a1) (pc' := 5) dX11_copyAt_4 rfl rfl rfl ?_
    refine sn_aload_n (v := (some this)) (pc' := 6) dX11_copyAt_5 rfl rfl rfl ?_
    refine sn_gI (k := 9) (pc' := 9) ci_12 rfl (Or.inl tw282) dX11_copyAt_6 rfl (fun v1 => ?_)
    refine sn_ic_ge (pt := 21) (pf := 12) dX11_copyAt_9 rfl rfl ?_ ?_
    · refine sn_null (pc' := 22) dX11_copyAt_21 rfl ?_
      refine sn_goto (pc' := 31) dX11_copyAt_22 rfl ?_
      exact sn_aret dX11_copyAt_31 rfl (Or.inl ⟨_, rfl⟩)
    · refine sn_iload_n (v := a1) (pc' := 13) dX11_copyAt_12 rfl rfl rfl ?_
      refine sn_aload_n (v := (some this)) (pc' := 14) dX11_copyAt_13 rfl rfl rfl ?_
      refine sn_gR (k := 7) (pc' := 17) ci_12 rfl (Or.inl tw280) dX11_copyAt_14 rfl (fun v2 => ?_)
      refine sn_aN (pc' := 18) dX11_copyAt_17 rfl (fun v3 => ?_)
      refine sn_ic_lt (pt := 25) (pf := 21) dX11_copyAt_18 rfl rfl ?_ ?_
      · refine sn_aload_n (v := (some this)) (pc' := 26) dX11_copyAt_25 rfl rfl rfl ?_
        refine sn_gR (k := 7) (pc' := 29) ci_12 rfl (Or.inl tw280) dX11_copyAt_26 rfl (fun v4 => ?_)
        refine sn_iload_n (v := a1) (pc' := 30) dX11_copyAt_29 rfl rfl rfl ?_
        refine sn_aR (pc' := 31) dX11_copyAt_30 rfl (fun v5 => ?_)
        exact sn_aret dX11_copyAt_31 rfl (Or.inl ⟨_, rfl⟩)
      · refine sn_null (pc' := 22) dX11_copyAt_21 rfl ?_
        refine sn_goto (pc' := 31) dX11_copyAt_22 rfl ?_
        exact sn_aret dX11_copyAt_31 rfl (Or.inl ⟨_, rfl⟩)
theorem c_X11_copyAt (G : GG) (this : Nat) (a1 : Int32) : Cal G yX11_copyAt cX11_copyAt 2 (some (FieldType.object "LeafFormula$Copy")) 0 0 (fun v : Option Nat => some (va_rf v)) (X11_copyAt this a1) [.ref this, .int a1] :=
  Cal.of (by decide) (cat_t (cat_i cat_nil)) rfl (sn_weak (le_s (le_s le_e)) (s_X11_copyAt G this a1))
theorem cw_X11_copyAt : CW yX11_copyAt cX11_copyAt 2 (some (FieldType.object "LeafFormula$Copy")) 1 := ⟨tw1225, tw1, by decide, by decide +kernel⟩
/-! X2_rowOf -/
theorem dX2_rowOf_0 : decode cX2_rowOf 0 = .ok (.iload_n 1, 1) := by decide +kernel
theorem dX2_rowOf_1 : decode cX2_rowOf 1 = .ok (.tableswitch 60 1 5 #[35, 40, 45, 50, 55], 35) := by decide +kernel
theorem dX2_rowOf_36 : decode cX2_rowOf 36 = .ok (.aload_n 0, 1) := by decide +kernel
theorem dX2_rowOf_37 : decode cX2_rowOf 37 = .ok (.getfield 14, 3) := by decide +kernel
theorem dX2_rowOf_40 : decode cX2_rowOf 40 = .ok (.areturn, 1) := by decide +kernel
theorem dX2_rowOf_41 : decode cX2_rowOf 41 = .ok (.aload_n 0, 1) := by decide +kernel
theorem dX2_rowOf_42 : decode cX2_rowOf 42 = .ok (.getfield 20, 3) := by decide +kernel
theorem dX2_rowOf_45 : decode cX2_rowOf 45 = .ok (.areturn, 1) := by decide +kernel
theorem dX2_rowOf_46 : decode cX2_rowOf 46 = .ok (.aload_n 0, 1) := by decide +kernel
theorem dX2_rowOf_47 : decode cX2_rowOf 47 = .ok (.getfield 23, 3) := by decide +kernel
theorem dX2_rowOf_50 : decode cX2_rowOf 50 = .ok (.areturn, 1) := by decide +kernel
theorem dX2_rowOf_51 : decode cX2_rowOf 51 = .ok (.aload_n 0, 1) := by decide +kernel
theorem dX2_rowOf_52 : decode cX2_rowOf 52 = .ok (.getfield 26, 3) := by decide +kernel
theorem dX2_rowOf_55 : decode cX2_rowOf 55 = .ok (.areturn, 1) := by decide +kernel
theorem dX2_rowOf_56 : decode cX2_rowOf 56 = .ok (.aload_n 0, 1) := by decide +kernel
theorem dX2_rowOf_57 : decode cX2_rowOf 57 = .ok (.getfield 29, 3) := by decide +kernel
theorem dX2_rowOf_60 : decode cX2_rowOf 60 = .ok (.areturn, 1) := by decide +kernel
theorem dX2_rowOf_61 : decode cX2_rowOf 61 = .ok (.aconst_null, 1) := by decide +kernel
theorem dX2_rowOf_62 : decode cX2_rowOf 62 = .ok (.areturn, 1) := by decide +kernel
def X2_rowOf (this : Nat) (a1 : Int32) : MM (Option Nat) :=
  if a1 = (1 : Int32) then (mb (gR 4 (some this) 2) fun v1 =>
  mr v1) else (if a1 = (2 : Int32) then (mb (gR 4 (some this) 3) fun v2 =>
  mr v2) else (if a1 = (3 : Int32) then (mb (gR 4 (some this) 4) fun v3 =>
  mr v3) else (if a1 = (4 : Int32) then (mb (gR 4 (some this) 5) fun v4 =>
  mr v4) else (if a1 = (5 : Int32) then (mb (gR 4 (some this) 6) fun v5 =>
  mr v5) else (mr none)))))
set_option maxRecDepth 100000 in
set_option maxHeartbeats 4000000 in
theorem s_X2_rowOf (G : GG) (this : Nat) (a1 : Int32) : Sn G yX2_rowOf cX2_rowOf 2 (some (FieldType.object "LeafFormula$Row")) 0 0 (fun v : Option Nat => some (va_rf v)) (X2_rowOf this a1) 0 [some (va_rf (some this)), some (.int a1)] [] := by
  unfold X2_rowOf
  refine sn_iload_n (v := a1) (pc' := 1) dX2_rowOf_0 rfl rfl rfl ?_
  refine sn_or (d := a1 = (1 : Int32)) (fun hc => ?_) (fun hc1 => ?_)
  · refine sn_tsI (pt := 36) (off := 35) dX2_rowOf_1 (by rw [hc]; decide) (by rw [hc]; decide) (by rw [hc]; rfl) rfl ?_
    refine sn_aload_n (v := (some this)) (pc' := 37) dX2_rowOf_36 rfl rfl rfl ?_
    refine sn_gR (k := 2) (pc' := 40) ci_4 rfl (Or.inl tw992) dX2_rowOf_37 rfl (fun v1 => ?_)
    exact sn_aret dX2_rowOf_40 rfl (Or.inl ⟨_, rfl⟩)
  refine sn_or (d := a1 = (2 : Int32)) (fun hc => ?_) (fun hc2 => ?_)
  · refine sn_tsI (pt := 41) (off := 40) dX2_rowOf_1 (by rw [hc]; decide) (by rw [hc]; decide) (by rw [hc]; rfl) rfl ?_
    refine sn_aload_n (v := (some this)) (pc' := 42) dX2_rowOf_41 rfl rfl rfl ?_
    refine sn_gR (k := 3) (pc' := 45) ci_4 rfl (Or.inl tw996) dX2_rowOf_42 rfl (fun v2 => ?_)
    exact sn_aret dX2_rowOf_45 rfl (Or.inl ⟨_, rfl⟩)
  refine sn_or (d := a1 = (3 : Int32)) (fun hc => ?_) (fun hc3 => ?_)
  · refine sn_tsI (pt := 46) (off := 45) dX2_rowOf_1 (by rw [hc]; decide) (by rw [hc]; decide) (by rw [hc]; rfl) rfl ?_
    refine sn_aload_n (v := (some this)) (pc' := 47) dX2_rowOf_46 rfl rfl rfl ?_
    refine sn_gR (k := 4) (pc' := 50) ci_4 rfl (Or.inl tw999) dX2_rowOf_47 rfl (fun v3 => ?_)
    exact sn_aret dX2_rowOf_50 rfl (Or.inl ⟨_, rfl⟩)
  refine sn_or (d := a1 = (4 : Int32)) (fun hc => ?_) (fun hc4 => ?_)
  · refine sn_tsI (pt := 51) (off := 50) dX2_rowOf_1 (by rw [hc]; decide) (by rw [hc]; decide) (by rw [hc]; rfl) rfl ?_
    refine sn_aload_n (v := (some this)) (pc' := 52) dX2_rowOf_51 rfl rfl rfl ?_
    refine sn_gR (k := 5) (pc' := 55) ci_4 rfl (Or.inl tw1002) dX2_rowOf_52 rfl (fun v4 => ?_)
    exact sn_aret dX2_rowOf_55 rfl (Or.inl ⟨_, rfl⟩)
  refine sn_or (d := a1 = (5 : Int32)) (fun hc => ?_) (fun hc5 => ?_)
  · refine sn_tsI (pt := 56) (off := 55) dX2_rowOf_1 (by rw [hc]; decide) (by rw [hc]; decide) (by rw [hc]; rfl) rfl ?_
    refine sn_aload_n (v := (some this)) (pc' := 57) dX2_rowOf_56 rfl rfl rfl ?_
    refine sn_gR (k := 6) (pc' := 60) ci_4 rfl (Or.inl tw1005) dX2_rowOf_57 rfl (fun v5 => ?_)
    exact sn_aret dX2_rowOf_60 rfl (Or.inl ⟨_, rfl⟩)
  refine sn_tsO (pt := 61) dX2_rowOf_1 (by
    have h9 := ts_out 1 5 (by decide) (fun j h1 h2 => by
      rcases (show j = 1 ∨ j = 2 ∨ j = 3 ∨ j = 4 ∨ j = 5 by omega) with e | e | e | e | e
      · subst e; exact hc1
      · subst e; exact hc2
      · subst e; exact hc3
      · subst e; exact hc4
      · subst e; exact hc5
      )
    omega) rfl ?_
  refine sn_null (pc' := 62) dX2_rowOf_61 rfl ?_
  exact sn_aret dX2_rowOf_62 rfl (Or.inl ⟨_, rfl⟩)
theorem c_X2_rowOf (G : GG) (this : Nat) (a1 : Int32) : Cal G yX2_rowOf cX2_rowOf 2 (some (FieldType.object "LeafFormula$Row")) 0 0 (fun v : Option Nat => some (va_rf v)) (X2_rowOf this a1) [.ref this, .int a1] :=
  Cal.of (by decide) (cat_t (cat_i cat_nil)) rfl (sn_weak (le_s (le_s le_e)) (s_X2_rowOf G this a1))
theorem cw_X2_rowOf : CW yX2_rowOf cX2_rowOf 2 (some (FieldType.object "LeafFormula$Row")) 1 := ⟨tw1229, tw26, by decide, by decide +kernel⟩
/-! X11_state -/
theorem dX11_state_0 : decode cX11_state 0 = .ok (.aload_n 0, 1) := by decide +kernel
theorem dX11_state_1 : decode cX11_state 1 = .ok (.iload_n 1, 1) := by decide +kernel
theorem dX11_state_2 : decode cX11_state 2 = .ok (.invokevirtual 197, 3) := by decide +kernel
theorem dX11_state_5 : decode cX11_state 5 = .ok (.astore_n 3, 1) := by decide +kernel
theorem dX11_state_6 : decode cX11_state 6 = .ok (.aload_n 3, 1) := by decide +kernel
theorem dX11_state_7 : decode cX11_state 7 = .ok (.ifnonnull 9, 3) := by decide +kernel
theorem dX11_state_10 : decode cX11_state 10 = .ok (.aload_n 0, 1) := by decide +kernel
theorem dX11_state_11 : decode cX11_state 11 = .ok (.iconst 1, 1) := by decide +kernel
theorem dX11_state_12 : decode cX11_state 12 = .ok (.invokevirtual 71, 3) := by decide +kernel
theorem dX11_state_15 : decode cX11_state 15 = .ok (.ireturn, 1) := by decide +kernel
theorem dX11_state_16 : decode cX11_state 16 = .ok (.iload_n 2, 1) := by decide +kernel
theorem dX11_state_17 : decode cX11_state 17 = .ok (.ifCond .ne 12, 3) := by decide +kernel
theorem dX11_state_20 : decode cX11_state 20 = .ok (.aload_n 0, 1) := by decide +kernel
theorem dX11_state_21 : decode cX11_state 21 = .ok (.aload_n 3, 1) := by decide +kernel
theorem dX11_state_22 : decode cX11_state 22 = .ok (.getfield 201, 3) := by decide +kernel
theorem dX11_state_25 : decode cX11_state 25 = .ok (.invokevirtual 82, 3) := by decide +kernel
theorem dX11_state_28 : decode cX11_state 28 = .ok (.ireturn, 1) := by decide +kernel
theorem dX11_state_29 : decode cX11_state 29 = .ok (.aload_n 3, 1) := by decide +kernel
theorem dX11_state_30 : decode cX11_state 30 = .ok (.iload_n 2, 1) := by decide +kernel
theorem dX11_state_31 : decode cX11_state 31 = .ok (.invokevirtual 204, 3) := by decide +kernel
theorem dX11_state_34 : decode cX11_state 34 = .ok (.astore 4, 2) := by decide +kernel
theorem dX11_state_36 : decode cX11_state 36 = .ok (.aload 4, 2) := by decide +kernel
theorem dX11_state_38 : decode cX11_state 38 = .ok (.ifnonnull 11, 3) := by decide +kernel
theorem dX11_state_41 : decode cX11_state 41 = .ok (.aload_n 0, 1) := by decide +kernel
theorem dX11_state_42 : decode cX11_state 42 = .ok (.iconst 3, 1) := by decide +kernel
theorem dX11_state_43 : decode cX11_state 43 = .ok (.invokevirtual 71, 3) := by decide +kernel
theorem dX11_state_46 : decode cX11_state 46 = .ok (.goto 12, 3) := by decide +kernel
theorem dX11_state_49 : decode cX11_state 49 = .ok (.aload_n 0, 1) := by decide +kernel
theorem dX11_state_50 : decode cX11_state 50 = .ok (.aload 4, 2) := by decide +kernel
theorem dX11_state_52 : decode cX11_state 52 = .ok (.getfield 208, 3) := by decide +kernel
theorem dX11_state_55 : decode cX11_state 55 = .ok (.invokevirtual 82, 3) := by decide +kernel
theorem dX11_state_58 : decode cX11_state 58 = .ok (.ireturn, 1) := by decide +kernel
def X11_state (this : Nat) (a1 : Int32) (a2 : Int32) : MM Int32 :=
  mb (wc 12 (some this) fun t => X11_copyAt t a1) fun v1 =>
  if v1 = none then (mb (wc 12 (some this) fun t => X11_refuse t (1 : Int32)) fun v2 =>
  mr v2) else (if a2 = 0 then (mb (gI 4 v1 0) fun v3 =>
  mb (wc 12 (some this) fun t => X11_answer t v3) fun v4 =>
  mr v4) else (mb (wc 4 v1 fun t => X2_rowOf t a2) fun v5 =>
  if v5 = none then (mb (wc 12 (some this) fun t => X11_refuse t (3 : Int32)) fun v6 =>
  mr v6) else (mb (gI 9 v5 1) fun v7 =>
  mb (wc 12 (some this) fun t => X11_answer t v7) fun v8 =>
  mr v8)))
set_option maxRecDepth 100000 in
set_option maxHeartbeats 4000000 in
theorem s_X11_state (G : GG) (this : Nat) (a1 : Int32) (a2 : Int32) : Sn G yX11_state cX11_state 5 (some FieldType.int) 1 21 (fun v : Int32 => some (.int v)) (X11_state this a1 a2) 0 [some (va_rf (some this)), some (.int a1), some (.int a2), none, none] [] := by
  unfold X11_state
  refine sn_aload_n (v := (some this)) (pc' := 1) dX11_state_0 rfl rfl rfl ?_
  refine sn_iload_n (v := a1) (pc' := 2) dX11_state_1 rfl rfl rfl ?_
  refine sn_cV (r := (some this)) (st := []) (As := [.int a1]) (st2 := (fun v => va_rf v :: [])) (pc' := 5) ci_12 (fun t => c_X11_copyAt G t a1) cw_X11_copyAt rfl rfl tw1222 pw41 tw1224 rfl rfl cat_nil rfl (fun _ => rfl) dX11_state_2 rfl (fun v1 => ?_)
  refine sn_astore_n (v := v1) (L' := [some (va_rf (some this)), some (.int a1), some (.int a2), some (va_rf v1), none]) (pc' := 6) dX11_state_5 rfl rfl rfl rfl ?_
  refine sn_aload_n (v := v1) (pc' := 7) dX11_state_6 rfl rfl rfl ?_
  refine sn_ifnonnull (pt := 16) (pf := 10) dX11_state_7 rfl rfl ?_ ?_
  · refine sn_aload_n (v := (some this)) (pc' := 11) dX11_state_10 rfl rfl rfl ?_
    refine sn_iconst (v := (1 : Int32)) (pc' := 12) dX11_state_11 rfl (by decide) ?_
    refine sn_cV (r := (some this)) (st := []) (As := [.int (1 : Int32)]) (st2 := (fun v => .int v :: [])) (pc' := 15) ci_12 (fun t => c_X11_refuse G t (1 : Int32)) cw_X11_refuse rfl rfl tw318 pw0 tw320 rfl rfl cat_nil rfl (fun _ => rfl) dX11_state_12 rfl (fun v2 => ?_)
    exact sn_iret dX11_state_15 rfl rfl
  · refine sn_iload_n (v := a2) (pc' := 17) dX11_state_16 rfl rfl rfl ?_
    refine sn_if_ne (pt := 29) (pf := 20) dX11_state_17 rfl rfl ?_ ?_
    · refine sn_aload_n (v := (some this)) (pc' := 21) dX11_state_20 rfl rfl rfl ?_
      refine sn_aload_n (v := v1) (pc' := 22) dX11_state_21 rfl rfl rfl ?_
      refine sn_gI (k := 0) (pc' := 25) ci_4 rfl (Or.inr ⟨_, nw987⟩) dX11_state_22 rfl (fun v3 => ?_)
      refine sn_cV (r := (some this)) (st := []) (As := [.int v3]) (st2 := (fun v => .int v :: [])) (pc' := 28) ci_12 (fun t => c_X11_answer G t v3) cw_X11_answer rfl rfl tw326 pw1 tw328 rfl rfl cat_nil rfl (fun _ => rfl) dX11_state_25 rfl (fun v4 => ?_)
      exact sn_iret dX11_state_28 rfl rfl
    · refine sn_aload_n (v := v1) (pc' := 30) dX11_state_29 rfl rfl rfl ?_
      refine sn_iload_n (v := a2) (pc' := 31) dX11_state_30 rfl rfl rfl ?_
      refine sn_cV (r := v1) (st := []) (As := [.int a2]) (st2 := (fun v => va_rf v :: [])) (pc' := 34) ci_4 (fun t => c_X2_rowOf G t a2) cw_X2_rowOf rfl rfl tw1226 tw1228 tw1227 rfl rfl cat_nil rfl (fun _ => rfl) dX11_state_31 rfl (fun v5 => ?_)
      refine sn_astore (v := v5) (L' := [some (va_rf (some this)), some (.int a1), some (.int a2), some (va_rf v1), some (va_rf v5)]) (pc' := 36) dX11_state_34 rfl rfl rfl ?_
      refine sn_aload (v := v5) (pc' := 38) dX11_state_36 rfl rfl ?_
      refine sn_ifnonnull (pt := 49) (pf := 41) dX11_state_38 rfl rfl ?_ ?_
      · refine sn_aload_n (v := (some this)) (pc' := 42) dX11_state_41 rfl rfl rfl ?_
        refine sn_iconst (v := (3 : Int32)) (pc' := 43) dX11_state_42 rfl (by decide) ?_
        refine sn_cV (r := (some this)) (st := []) (As := [.int (3 : Int32)]) (st2 := (fun v => .int v :: [])) (pc' := 46) ci_12 (fun t => c_X11_refuse G t (3 : Int32)) cw_X11_refuse rfl rfl tw318 pw0 tw320 rfl rfl cat_nil rfl (fun _ => rfl) dX11_state_43 rfl (fun v6 => ?_)
        refine sn_goto (pc' := 58) dX11_state_46 rfl ?_
        exact sn_iret dX11_state_58 rfl rfl
      · refine sn_aload_n (v := (some this)) (pc' := 50) dX11_state_49 rfl rfl rfl ?_
        refine sn_aload (v := v5) (pc' := 52) dX11_state_50 rfl rfl ?_
        refine sn_gI (k := 1) (pc' := 55) ci_9 rfl (Or.inr ⟨_, nw57⟩) dX11_state_52 rfl (fun v7 => ?_)
        refine sn_cV (r := (some this)) (st := []) (As := [.int v7]) (st2 := (fun v => .int v :: [])) (pc' := 58) ci_12 (fun t => c_X11_answer G t v7) cw_X11_answer rfl rfl tw326 pw1 tw328 rfl rfl cat_nil rfl (fun _ => rfl) dX11_state_55 rfl (fun v8 => ?_)
        exact sn_iret dX11_state_58 rfl rfl
theorem c_X11_state (G : GG) (this : Nat) (a1 : Int32) (a2 : Int32) : Cal G yX11_state cX11_state 5 (some FieldType.int) 1 21 (fun v : Int32 => some (.int v)) (X11_state this a1 a2) [.ref this, .int a1, .int a2] :=
  Cal.of (by decide) (cat_t (cat_i (cat_i cat_nil))) rfl (sn_weak (le_s (le_s (le_s (le_z (le_z le_e))))) (s_X11_state G this a1 a2))
theorem cw_X11_state : CW yX11_state cX11_state 5 (some FieldType.int) 2 := ⟨tw1221, tw1, by decide, by decide +kernel⟩
/-! X11_numberOf -/
theorem dX11_numberOf_0 : decode cX11_numberOf 0 = .ok (.iload_n 2, 1) := by decide +kernel
theorem dX11_numberOf_1 : decode cX11_numberOf 1 = .ok (.ifCond .lt 11, 3) := by decide +kernel
theorem dX11_numberOf_4 : decode cX11_numberOf 4 = .ok (.iload_n 2, 1) := by decide +kernel
theorem dX11_numberOf_5 : decode cX11_numberOf 5 = .ok (.aload_n 1, 1) := by decide +kernel
theorem dX11_numberOf_6 : decode cX11_numberOf 6 = .ok (.getfield 208, 3) := by decide +kernel
theorem dX11_numberOf_9 : decode cX11_numberOf 9 = .ok (.if_icmp .lt 11, 3) := by decide +kernel
theorem dX11_numberOf_12 : decode cX11_numberOf 12 = .ok (.aload_n 0, 1) := by decide +kernel
theorem dX11_numberOf_13 : decode cX11_numberOf 13 = .ok (.iconst 1, 1) := by decide +kernel
theorem dX11_numberOf_14 : decode cX11_numberOf 14 = .ok (.invokevirtual 71, 3) := by decide +kernel
theorem dX11_numberOf_17 : decode cX11_numberOf 17 = .ok (.goto 12, 3) := by decide +kernel
theorem dX11_numberOf_20 : decode cX11_numberOf 20 = .ok (.aload_n 0, 1) := by decide +kernel
theorem dX11_numberOf_21 : decode cX11_numberOf 21 = .ok (.aload_n 1, 1) := by decide +kernel
theorem dX11_numberOf_22 : decode cX11_numberOf 22 = .ok (.iload_n 2, 1) := by decide +kernel
theorem dX11_numberOf_23 : decode cX11_numberOf 23 = .ok (.invokevirtual 240, 3) := by decide +kernel
theorem dX11_numberOf_26 : decode cX11_numberOf 26 = .ok (.invokevirtual 82, 3) := by decide +kernel
theorem dX11_numberOf_29 : decode cX11_numberOf 29 = .ok (.ireturn, 1) := by decide +kernel
def X11_numberOf_12  (this : Nat) : MM Int32 :=
  mb (wc 12 (some this) fun t => X11_refuse t (1 : Int32)) fun v1 =>
  mr v1
def X11_numberOf (this : Nat) (a1 : Option Nat) (a2 : Int32) : MM Int32 :=
  if a2 < 0 then ((X11_numberOf_12 this)) else (mb (gI 9 a1 1) fun v1 =>
  if a2 < v1 then (mb (wc 9 a1 fun t => X8_get t a2) fun v2 =>
  mb (wc 12 (some this) fun t => X11_answer t v2) fun v3 =>
  mr v3) else ((X11_numberOf_12 this)))
set_option maxRecDepth 100000 in
set_option maxHeartbeats 4000000 in
theorem s_X11_numberOf_12 (G : GG)   (this : Nat) : Sn G yX11_numberOf cX11_numberOf 3 (some FieldType.int) 1 21 (fun v : Int32 => some (.int v)) (X11_numberOf_12  this) 12 [some (va_rf (some this)), none, none] [] := by
  unfold X11_numberOf_12
  refine sn_aload_n (v := (some this)) (pc' := 13) dX11_numberOf_12 rfl rfl rfl ?_
  refine sn_iconst (v := (1 : Int32)) (pc' := 14) dX11_numberOf_13 rfl (by decide) ?_
  refine sn_cV (r := (some this)) (st := []) (As := [.int (1 : Int32)]) (st2 := (fun v => .int v :: [])) (pc' := 17) ci_12 (fun t => c_X11_refuse G t (1 : Int32)) cw_X11_refuse rfl rfl tw318 pw0 tw320 rfl rfl cat_nil rfl (fun _ => rfl) dX11_numberOf_14 rfl (fun v1 => ?_)
  refine sn_goto (pc' := 29) dX11_numberOf_17 rfl ?_
  exact sn_iret dX11_numberOf_29 rfl rfl
set_option maxRecDepth 100000 in
set_option maxHeartbeats 4000000 in
theorem s_X11_numberOf (G : GG) (this : Nat) (a1 : Option Nat) (a2 : Int32) : Sn G yX11_numberOf cX11_numberOf 3 (some FieldType.int) 1 21 (fun v : Int32 => some (.int v)) (X11_numberOf this a1 a2) 0 [some (va_rf (some this)), some (va_rf a1), some (.int a2)] [] := by
  unfold X11_numberOf
  refine sn_iload_n (v := a2) (pc' := 1) dX11_numberOf_0 rfl rfl rfl ?_
  refine sn_if_lt (pt := 12) (pf := 4) dX11_numberOf_1 rfl rfl ?_ ?_
  · exact sn_weak (le_s (le_n (le_n le_e))) (s_X11_numberOf_12 G this)
  · refine sn_iload_n (v := a2) (pc' := 5) dX11_numberOf_4 rfl rfl rfl ?_
    refine sn_aload_n (v := a1) (pc' := 6) dX11_numberOf_5 rfl rfl rfl ?_
    refine sn_gI (k := 1) (pc' := 9) ci_9 rfl (Or.inr ⟨_, nw57⟩) dX11_numberOf_6 rfl (fun v1 => ?_)
    refine sn_ic_lt (pt := 20) (pf := 12) dX11_numberOf_9 rfl rfl ?_ ?_
    · refine sn_aload_n (v := (some this)) (pc' := 21) dX11_numberOf_20 rfl rfl rfl ?_
      refine sn_aload_n (v := a1) (pc' := 22) dX11_numberOf_21 rfl rfl rfl ?_
      refine sn_iload_n (v := a2) (pc' := 23) dX11_numberOf_22 rfl rfl rfl ?_
      refine sn_cV (r := a1) (st := [va_rf (some this)]) (As := [.int a2]) (st2 := (fun v => .int v :: [va_rf (some this)])) (pc' := 26) ci_9 (fun t => c_X8_get G t a2) cw_X8_get rfl rfl tw1238 tw497 tw496 rfl rfl (cat_q cat_nil) rfl (fun _ => rfl) dX11_numberOf_23 rfl (fun v2 => ?_)
      refine sn_cV (r := (some this)) (st := []) (As := [.int v2]) (st2 := (fun v => .int v :: [])) (pc' := 29) ci_12 (fun t => c_X11_answer G t v2) cw_X11_answer rfl rfl tw326 pw1 tw328 rfl rfl cat_nil rfl (fun _ => rfl) dX11_numberOf_26 rfl (fun v3 => ?_)
      exact sn_iret dX11_numberOf_29 rfl rfl
    · exact sn_weak (le_s (le_n (le_n le_e))) (s_X11_numberOf_12 G this)
theorem c_X11_numberOf (G : GG) (this : Nat) (a1 : Option Nat) (a2 : Int32) : Cal G yX11_numberOf cX11_numberOf 3 (some FieldType.int) 1 21 (fun v : Int32 => some (.int v)) (X11_numberOf this a1 a2) [.ref this, va_rf a1, .int a2] :=
  Cal.of (by decide) (cat_t (cat_q (cat_i cat_nil))) rfl (sn_weak (le_s (le_s (le_s le_e))) (s_X11_numberOf G this a1 a2))
theorem cw_X11_numberOf : CW yX11_numberOf cX11_numberOf 3 (some FieldType.int) 2 := ⟨tw1237, tw1, by decide, by decide +kernel⟩
/-! X11_entry -/
theorem dX11_entry_0 : decode cX11_entry 0 = .ok (.aload_n 0, 1) := by decide +kernel
theorem dX11_entry_1 : decode cX11_entry 1 = .ok (.iload_n 1, 1) := by decide +kernel
theorem dX11_entry_2 : decode cX11_entry 2 = .ok (.invokevirtual 197, 3) := by decide +kernel
theorem dX11_entry_5 : decode cX11_entry 5 = .ok (.astore_n 3, 1) := by decide +kernel
theorem dX11_entry_6 : decode cX11_entry 6 = .ok (.aload_n 3, 1) := by decide +kernel
theorem dX11_entry_7 : decode cX11_entry 7 = .ok (.ifnonnull 11, 3) := by decide +kernel
theorem dX11_entry_10 : decode cX11_entry 10 = .ok (.aload_n 0, 1) := by decide +kernel
theorem dX11_entry_11 : decode cX11_entry 11 = .ok (.iconst 1, 1) := by decide +kernel
theorem dX11_entry_12 : decode cX11_entry 12 = .ok (.invokevirtual 71, 3) := by decide +kernel
theorem dX11_entry_15 : decode cX11_entry 15 = .ok (.goto 12, 3) := by decide +kernel
theorem dX11_entry_18 : decode cX11_entry 18 = .ok (.aload_n 0, 1) := by decide +kernel
theorem dX11_entry_19 : decode cX11_entry 19 = .ok (.aload_n 3, 1) := by decide +kernel
theorem dX11_entry_20 : decode cX11_entry 20 = .ok (.getfield 209, 3) := by decide +kernel
theorem dX11_entry_23 : decode cX11_entry 23 = .ok (.iload_n 2, 1) := by decide +kernel
theorem dX11_entry_24 : decode cX11_entry 24 = .ok (.invokevirtual 212, 3) := by decide +kernel
theorem dX11_entry_27 : decode cX11_entry 27 = .ok (.ireturn, 1) := by decide +kernel
def X11_entry (this : Nat) (a1 : Int32) (a2 : Int32) : MM Int32 :=
  mb (wc 12 (some this) fun t => X11_copyAt t a1) fun v1 =>
  if v1 = none then (mb (wc 12 (some this) fun t => X11_refuse t (1 : Int32)) fun v2 =>
  mr v2) else (mb (gR 4 v1 2) fun v3 =>
  mb (wc 12 (some this) fun t => X11_numberOf t v3 a2) fun v4 =>
  mr v4)
set_option maxRecDepth 100000 in
set_option maxHeartbeats 4000000 in
theorem s_X11_entry (G : GG) (this : Nat) (a1 : Int32) (a2 : Int32) : Sn G yX11_entry cX11_entry 4 (some FieldType.int) 2 43 (fun v : Int32 => some (.int v)) (X11_entry this a1 a2) 0 [some (va_rf (some this)), some (.int a1), some (.int a2), none] [] := by
  unfold X11_entry
  refine sn_aload_n (v := (some this)) (pc' := 1) dX11_entry_0 rfl rfl rfl ?_
  refine sn_iload_n (v := a1) (pc' := 2) dX11_entry_1 rfl rfl rfl ?_
  refine sn_cV (r := (some this)) (st := []) (As := [.int a1]) (st2 := (fun v => va_rf v :: [])) (pc' := 5) ci_12 (fun t => c_X11_copyAt G t a1) cw_X11_copyAt rfl rfl tw1222 pw41 tw1224 rfl rfl cat_nil rfl (fun _ => rfl) dX11_entry_2 rfl (fun v1 => ?_)
  refine sn_astore_n (v := v1) (L' := [some (va_rf (some this)), some (.int a1), some (.int a2), some (va_rf v1)]) (pc' := 6) dX11_entry_5 rfl rfl rfl rfl ?_
  refine sn_aload_n (v := v1) (pc' := 7) dX11_entry_6 rfl rfl rfl ?_
  refine sn_ifnonnull (pt := 18) (pf := 10) dX11_entry_7 rfl rfl ?_ ?_
  · refine sn_aload_n (v := (some this)) (pc' := 11) dX11_entry_10 rfl rfl rfl ?_
    refine sn_iconst (v := (1 : Int32)) (pc' := 12) dX11_entry_11 rfl (by decide) ?_
    refine sn_cV (r := (some this)) (st := []) (As := [.int (1 : Int32)]) (st2 := (fun v => .int v :: [])) (pc' := 15) ci_12 (fun t => c_X11_refuse G t (1 : Int32)) cw_X11_refuse rfl rfl tw318 pw0 tw320 rfl rfl cat_nil rfl (fun _ => rfl) dX11_entry_12 rfl (fun v2 => ?_)
    refine sn_goto (pc' := 27) dX11_entry_15 rfl ?_
    exact sn_iret dX11_entry_27 rfl rfl
  · refine sn_aload_n (v := (some this)) (pc' := 19) dX11_entry_18 rfl rfl rfl ?_
    refine sn_aload_n (v := v1) (pc' := 20) dX11_entry_19 rfl rfl rfl ?_
    refine sn_gR (k := 2) (pc' := 23) ci_4 rfl (Or.inr ⟨_, nw995⟩) dX11_entry_20 rfl (fun v3 => ?_)
    refine sn_iload_n (v := a2) (pc' := 24) dX11_entry_23 rfl rfl rfl ?_
    refine sn_cV (r := (some this)) (st := []) (As := [va_rf v3, .int a2]) (st2 := (fun v => .int v :: [])) (pc' := 27) ci_12 (fun t => c_X11_numberOf G t v3 a2) cw_X11_numberOf rfl rfl tw1234 pw42 tw1236 rfl rfl cat_nil rfl (fun _ => rfl) dX11_entry_24 rfl (fun v4 => ?_)
    exact sn_iret dX11_entry_27 rfl rfl
theorem c_X11_entry (G : GG) (this : Nat) (a1 : Int32) (a2 : Int32) : Cal G yX11_entry cX11_entry 4 (some FieldType.int) 2 43 (fun v : Int32 => some (.int v)) (X11_entry this a1 a2) [.ref this, .int a1, .int a2] :=
  Cal.of (by decide) (cat_t (cat_i (cat_i cat_nil))) rfl (sn_weak (le_s (le_s (le_s (le_z le_e)))) (s_X11_entry G this a1 a2))
theorem cw_X11_entry : CW yX11_entry cX11_entry 4 (some FieldType.int) 2 := ⟨tw1233, tw1, by decide, by decide +kernel⟩
/-! X11_told -/
theorem dX11_told_0 : decode cX11_told 0 = .ok (.aload_n 0, 1) := by decide +kernel
theorem dX11_told_1 : decode cX11_told 1 = .ok (.iload_n 1, 1) := by decide +kernel
theorem dX11_told_2 : decode cX11_told 2 = .ok (.invokevirtual 197, 3) := by decide +kernel
theorem dX11_told_5 : decode cX11_told 5 = .ok (.astore 4, 2) := by decide +kernel
theorem dX11_told_7 : decode cX11_told 7 = .ok (.aload 4, 2) := by decide +kernel
theorem dX11_told_9 : decode cX11_told 9 = .ok (.ifnonnull 9, 3) := by decide +kernel
theorem dX11_told_12 : decode cX11_told 12 = .ok (.aload_n 0, 1) := by decide +kernel
theorem dX11_told_13 : decode cX11_told 13 = .ok (.iconst 1, 1) := by decide +kernel
theorem dX11_told_14 : decode cX11_told 14 = .ok (.invokevirtual 71, 3) := by decide +kernel
theorem dX11_told_17 : decode cX11_told 17 = .ok (.ireturn, 1) := by decide +kernel
theorem dX11_told_18 : decode cX11_told 18 = .ok (.iload_n 2, 1) := by decide +kernel
theorem dX11_told_19 : decode cX11_told 19 = .ok (.iconst 2, 1) := by decide +kernel
theorem dX11_told_20 : decode cX11_told 20 = .ok (.if_icmp .ge 7, 3) := by decide +kernel
theorem dX11_told_23 : decode cX11_told 23 = .ok (.aconst_null, 1) := by decide +kernel
theorem dX11_told_24 : decode cX11_told 24 = .ok (.goto 9, 3) := by decide +kernel
theorem dX11_told_27 : decode cX11_told 27 = .ok (.aload 4, 2) := by decide +kernel
theorem dX11_told_29 : decode cX11_told 29 = .ok (.iload_n 2, 1) := by decide +kernel
theorem dX11_told_30 : decode cX11_told 30 = .ok (.invokevirtual 204, 3) := by decide +kernel
theorem dX11_told_33 : decode cX11_told 33 = .ok (.astore 5, 2) := by decide +kernel
theorem dX11_told_35 : decode cX11_told 35 = .ok (.aload 5, 2) := by decide +kernel
theorem dX11_told_37 : decode cX11_told 37 = .ok (.ifnonnull 11, 3) := by decide +kernel
theorem dX11_told_40 : decode cX11_told 40 = .ok (.aload_n 0, 1) := by decide +kernel
theorem dX11_told_41 : decode cX11_told 41 = .ok (.iconst 3, 1) := by decide +kernel
theorem dX11_told_42 : decode cX11_told 42 = .ok (.invokevirtual 71, 3) := by decide +kernel
theorem dX11_told_45 : decode cX11_told 45 = .ok (.goto 10, 3) := by decide +kernel
theorem dX11_told_48 : decode cX11_told 48 = .ok (.aload_n 0, 1) := by decide +kernel
theorem dX11_told_49 : decode cX11_told 49 = .ok (.aload 5, 2) := by decide +kernel
theorem dX11_told_51 : decode cX11_told 51 = .ok (.iload_n 3, 1) := by decide +kernel
theorem dX11_told_52 : decode cX11_told 52 = .ok (.invokevirtual 212, 3) := by decide +kernel
theorem dX11_told_55 : decode cX11_told 55 = .ok (.ireturn, 1) := by decide +kernel
def X11_told_33  (this : Nat) (x3 : Int32) (y0 : Option Nat) : MM Int32 :=
  if y0 = none then (mb (wc 12 (some this) fun t => X11_refuse t (3 : Int32)) fun v1 =>
  mr v1) else (mb (wc 12 (some this) fun t => X11_numberOf t y0 x3) fun v2 =>
  mr v2)
def X11_told (this : Nat) (a1 : Int32) (a2 : Int32) (a3 : Int32) : MM Int32 :=
  mb (wc 12 (some this) fun t => X11_copyAt t a1) fun v1 =>
  if v1 = none then (mb (wc 12 (some this) fun t => X11_refuse t (1 : Int32)) fun v2 =>
  mr v2) else (if (2 : Int32) ≤ a2 then (mb (wc 4 v1 fun t => X2_rowOf t a2) fun v3 =>
  (X11_told_33 this a3 v3)) else ((X11_told_33 this a3 none)))
set_option maxRecDepth 100000 in
set_option maxHeartbeats 4000000 in
theorem s_X11_told_33 (G : GG)   (this : Nat) (x3 : Int32) (y0 : Option Nat) : Sn G yX11_told cX11_told 6 (some FieldType.int) 2 43 (fun v : Int32 => some (.int v)) (X11_told_33  this x3 y0) 33 [some (va_rf (some this)), none, none, some (.int x3), none, none] [va_rf y0] := by
  unfold X11_told_33
  refine sn_astore (v := y0) (L' := [some (va_rf (some this)), none, none, some (.int x3), none, some (va_rf y0)]) (pc' := 35) dX11_told_33 rfl rfl rfl ?_
  refine sn_aload (v := y0) (pc' := 37) dX11_told_35 rfl rfl ?_
  refine sn_ifnonnull (pt := 48) (pf := 40) dX11_told_37 rfl rfl ?_ ?_
  · refine sn_aload_n (v := (some this)) (pc' := 41) dX11_told_40 rfl rfl rfl ?_
    refine sn_iconst (v := (3 : Int32)) (pc' := 42) dX11_told_41 rfl (by decide) ?_
    refine sn_cV (r := (some this)) (st := []) (As := [.int (3 : Int32)]) (st2 := (fun v => .int v :: [])) (pc' := 45) ci_12 (fun t => c_X11_refuse G t (3 : Int32)) cw_X11_refuse rfl rfl tw318 pw0 tw320 rfl rfl cat_nil rfl (fun _ => rfl) dX11_told_42 rfl (fun v1 => ?_)
    refine sn_goto (pc' := 55) dX11_told_45 rfl ?_
    exact sn_iret dX11_told_55 rfl rfl
  · refine sn_aload_n (v := (some this)) (pc' := 49) dX11_told_48 rfl rfl rfl ?_
    refine sn_aload (v := y0) (pc' := 51) dX11_told_49 rfl rfl ?_
    refine sn_iload_n (v := x3) (pc' := 52) dX11_told_51 rfl rfl rfl ?_
    refine sn_cV (r := (some this)) (st := []) (As := [va_rf y0, .int x3]) (st2 := (fun v => .int v :: [])) (pc' := 55) ci_12 (fun t => c_X11_numberOf G t y0 x3) cw_X11_numberOf rfl rfl tw1234 pw42 tw1236 rfl rfl cat_nil rfl (fun _ => rfl) dX11_told_52 rfl (fun v2 => ?_)
    exact sn_iret dX11_told_55 rfl rfl
set_option maxRecDepth 100000 in
set_option maxHeartbeats 4000000 in
theorem s_X11_told (G : GG) (this : Nat) (a1 : Int32) (a2 : Int32) (a3 : Int32) : Sn G yX11_told cX11_told 6 (some FieldType.int) 2 43 (fun v : Int32 => some (.int v)) (X11_told this a1 a2 a3) 0 [some (va_rf (some this)), some (.int a1), some (.int a2), some (.int a3), none, none] [] := by
  unfold X11_told
  refine sn_aload_n (v := (some this)) (pc' := 1) dX11_told_0 rfl rfl rfl ?_
  refine sn_iload_n (v := a1) (pc' := 2) dX11_told_1 rfl rfl rfl ?_
  refine sn_cV (r := (some this)) (st := []) (As := [.int a1]) (st2 := (fun v => va_rf v :: [])) (pc' := 5) ci_12 (fun t => c_X11_copyAt G t a1) cw_X11_copyAt rfl rfl tw1222 pw41 tw1224 rfl rfl cat_nil rfl (fun _ => rfl) dX11_told_2 rfl (fun v1 => ?_)
  refine sn_astore (v := v1) (L' := [some (va_rf (some this)), some (.int a1), some (.int a2), some (.int a3), some (va_rf v1), none]) (pc' := 7) dX11_told_5 rfl rfl rfl ?_
  refine sn_aload (v := v1) (pc' := 9) dX11_told_7 rfl rfl ?_
  refine sn_ifnonnull (pt := 18) (pf := 12) dX11_told_9 rfl rfl ?_ ?_
  · refine sn_aload_n (v := (some this)) (pc' := 13) dX11_told_12 rfl rfl rfl ?_
    refine sn_iconst (v := (1 : Int32)) (pc' := 14) dX11_told_13 rfl (by decide) ?_
    refine sn_cV (r := (some this)) (st := []) (As := [.int (1 : Int32)]) (st2 := (fun v => .int v :: [])) (pc' := 17) ci_12 (fun t => c_X11_refuse G t (1 : Int32)) cw_X11_refuse rfl rfl tw318 pw0 tw320 rfl rfl cat_nil rfl (fun _ => rfl) dX11_told_14 rfl (fun v2 => ?_)
    exact sn_iret dX11_told_17 rfl rfl
  · refine sn_iload_n (v := a2) (pc' := 19) dX11_told_18 rfl rfl rfl ?_
    refine sn_iconst (v := (2 : Int32)) (pc' := 20) dX11_told_19 rfl (by decide) ?_
    refine sn_ic_ge (pt := 27) (pf := 23) dX11_told_20 rfl rfl ?_ ?_
    · refine sn_aload (v := v1) (pc' := 29) dX11_told_27 rfl rfl ?_
      refine sn_iload_n (v := a2) (pc' := 30) dX11_told_29 rfl rfl rfl ?_
      refine sn_cV (r := v1) (st := []) (As := [.int a2]) (st2 := (fun v => va_rf v :: [])) (pc' := 33) ci_4 (fun t => c_X2_rowOf G t a2) cw_X2_rowOf rfl rfl tw1226 tw1228 tw1227 rfl rfl cat_nil rfl (fun _ => rfl) dX11_told_30 rfl (fun v3 => ?_)
      exact sn_weak (le_s (le_n (le_n (le_s (le_n (le_n le_e)))))) (s_X11_told_33 G this a3 v3)
    · refine sn_null (pc' := 24) dX11_told_23 rfl ?_
      refine sn_goto (pc' := 33) dX11_told_24 rfl ?_
      exact sn_weak (le_s (le_n (le_n (le_s (le_n (le_n le_e)))))) (s_X11_told_33 G this a3 none)
theorem c_X11_told (G : GG) (this : Nat) (a1 : Int32) (a2 : Int32) (a3 : Int32) : Cal G yX11_told cX11_told 6 (some FieldType.int) 2 43 (fun v : Int32 => some (.int v)) (X11_told this a1 a2 a3) [.ref this, .int a1, .int a2, .int a3] :=
  Cal.of (by decide) (cat_t (cat_i (cat_i (cat_i cat_nil)))) rfl (sn_weak (le_s (le_s (le_s (le_s (le_z (le_z le_e)))))) (s_X11_told G this a1 a2 a3))
theorem cw_X11_told : CW yX11_told cX11_told 6 (some FieldType.int) 3 := ⟨tw1242, tw1, by decide, by decide +kernel⟩
/-! X11_note -/
theorem dX11_note_0 : decode cX11_note 0 = .ok (.aload_n 0, 1) := by decide +kernel
theorem dX11_note_1 : decode cX11_note 1 = .ok (.iload_n 1, 1) := by decide +kernel
theorem dX11_note_2 : decode cX11_note 2 = .ok (.invokevirtual 197, 3) := by decide +kernel
theorem dX11_note_5 : decode cX11_note 5 = .ok (.astore_n 3, 1) := by decide +kernel
theorem dX11_note_6 : decode cX11_note 6 = .ok (.aload_n 3, 1) := by decide +kernel
theorem dX11_note_7 : decode cX11_note 7 = .ok (.ifnonnull 11, 3) := by decide +kernel
theorem dX11_note_10 : decode cX11_note 10 = .ok (.aload_n 0, 1) := by decide +kernel
theorem dX11_note_11 : decode cX11_note 11 = .ok (.iconst 1, 1) := by decide +kernel
theorem dX11_note_12 : decode cX11_note 12 = .ok (.invokevirtual 71, 3) := by decide +kernel
theorem dX11_note_15 : decode cX11_note 15 = .ok (.goto 12, 3) := by decide +kernel
theorem dX11_note_18 : decode cX11_note 18 = .ok (.aload_n 0, 1) := by decide +kernel
theorem dX11_note_19 : decode cX11_note 19 = .ok (.aload_n 3, 1) := by decide +kernel
theorem dX11_note_20 : decode cX11_note 20 = .ok (.getfield 216, 3) := by decide +kernel
theorem dX11_note_23 : decode cX11_note 23 = .ok (.iload_n 2, 1) := by decide +kernel
theorem dX11_note_24 : decode cX11_note 24 = .ok (.invokevirtual 167, 3) := by decide +kernel
theorem dX11_note_27 : decode cX11_note 27 = .ok (.ireturn, 1) := by decide +kernel
def X11_note (this : Nat) (a1 : Int32) (a2 : Int32) : MM Int32 :=
  mb (wc 12 (some this) fun t => X11_copyAt t a1) fun v1 =>
  if v1 = none then (mb (wc 12 (some this) fun t => X11_refuse t (1 : Int32)) fun v2 =>
  mr v2) else (mb (gR 4 v1 7) fun v3 =>
  mb (wc 12 (some this) fun t => X11_byteOf t v3 a2) fun v4 =>
  mr v4)
set_option maxRecDepth 100000 in
set_option maxHeartbeats 4000000 in
theorem s_X11_note (G : GG) (this : Nat) (a1 : Int32) (a2 : Int32) : Sn G yX11_note cX11_note 4 (some FieldType.int) 5 107 (fun v : Int32 => some (.int v)) (X11_note this a1 a2) 0 [some (va_rf (some this)), some (.int a1), some (.int a2), none] [] := by
  unfold X11_note
  refine sn_aload_n (v := (some this)) (pc' := 1) dX11_note_0 rfl rfl rfl ?_
  refine sn_iload_n (v := a1) (pc' := 2) dX11_note_1 rfl rfl rfl ?_
  refine sn_cV (r := (some this)) (st := []) (As := [.int a1]) (st2 := (fun v => va_rf v :: [])) (pc' := 5) ci_12 (fun t => c_X11_copyAt G t a1) cw_X11_copyAt rfl rfl tw1222 pw41 tw1224 rfl rfl cat_nil rfl (fun _ => rfl) dX11_note_2 rfl (fun v1 => ?_)
  refine sn_astore_n (v := v1) (L' := [some (va_rf (some this)), some (.int a1), some (.int a2), some (va_rf v1)]) (pc' := 6) dX11_note_5 rfl rfl rfl rfl ?_
  refine sn_aload_n (v := v1) (pc' := 7) dX11_note_6 rfl rfl rfl ?_
  refine sn_ifnonnull (pt := 18) (pf := 10) dX11_note_7 rfl rfl ?_ ?_
  · refine sn_aload_n (v := (some this)) (pc' := 11) dX11_note_10 rfl rfl rfl ?_
    refine sn_iconst (v := (1 : Int32)) (pc' := 12) dX11_note_11 rfl (by decide) ?_
    refine sn_cV (r := (some this)) (st := []) (As := [.int (1 : Int32)]) (st2 := (fun v => .int v :: [])) (pc' := 15) ci_12 (fun t => c_X11_refuse G t (1 : Int32)) cw_X11_refuse rfl rfl tw318 pw0 tw320 rfl rfl cat_nil rfl (fun _ => rfl) dX11_note_12 rfl (fun v2 => ?_)
    refine sn_goto (pc' := 27) dX11_note_15 rfl ?_
    exact sn_iret dX11_note_27 rfl rfl
  · refine sn_aload_n (v := (some this)) (pc' := 19) dX11_note_18 rfl rfl rfl ?_
    refine sn_aload_n (v := v1) (pc' := 20) dX11_note_19 rfl rfl rfl ?_
    refine sn_gR (k := 7) (pc' := 23) ci_4 rfl (Or.inr ⟨_, nw1008⟩) dX11_note_20 rfl (fun v3 => ?_)
    refine sn_iload_n (v := a2) (pc' := 24) dX11_note_23 rfl rfl rfl ?_
    refine sn_cV (r := (some this)) (st := []) (As := [va_rf v3, .int a2]) (st2 := (fun v => .int v :: [])) (pc' := 27) ci_12 (fun t => c_X11_byteOf G t v3 a2) cw_X11_byteOf rfl rfl tw1155 pw40 tw1157 rfl rfl cat_nil rfl (fun _ => rfl) dX11_note_24 rfl (fun v4 => ?_)
    exact sn_iret dX11_note_27 rfl rfl
theorem c_X11_note (G : GG) (this : Nat) (a1 : Int32) (a2 : Int32) : Cal G yX11_note cX11_note 4 (some FieldType.int) 5 107 (fun v : Int32 => some (.int v)) (X11_note this a1 a2) [.ref this, .int a1, .int a2] :=
  Cal.of (by decide) (cat_t (cat_i (cat_i cat_nil))) rfl (sn_weak (le_s (le_s (le_s (le_z le_e)))) (s_X11_note G this a1 a2))
theorem cw_X11_note : CW yX11_note cX11_note 4 (some FieldType.int) 2 := ⟨tw1246, tw1, by decide, by decide +kernel⟩
/-! X1_markBoth -/
theorem dX1_markBoth_0 : decode cX1_markBoth 0 = .ok (.aload_n 0, 1) := by decide +kernel
theorem dX1_markBoth_1 : decode cX1_markBoth 1 = .ok (.getfield 9, 3) := by decide +kernel
theorem dX1_markBoth_4 : decode cX1_markBoth 4 = .ok (.iconst 0, 1) := by decide +kernel
theorem dX1_markBoth_5 : decode cX1_markBoth 5 = .ok (.invokestatic 78, 3) := by decide +kernel
theorem dX1_markBoth_8 : decode cX1_markBoth 8 = .ok (.iconst 0, 1) := by decide +kernel
theorem dX1_markBoth_9 : decode cX1_markBoth 9 = .ok (.istore_n 3, 1) := by decide +kernel
theorem dX1_markBoth_10 : decode cX1_markBoth 10 = .ok (.iload_n 3, 1) := by decide +kernel
theorem dX1_markBoth_11 : decode cX1_markBoth 11 = .ok (.aload_n 1, 1) := by decide +kernel
theorem dX1_markBoth_12 : decode cX1_markBoth 12 = .ok (.getfield 21, 3) := by decide +kernel
theorem dX1_markBoth_15 : decode cX1_markBoth 15 = .ok (.getfield 84, 3) := by decide +kernel
theorem dX1_markBoth_18 : decode cX1_markBoth 18 = .ok (.if_icmp .ge 22, 3) := by decide +kernel
theorem dX1_markBoth_21 : decode cX1_markBoth 21 = .ok (.aload_n 0, 1) := by decide +kernel
theorem dX1_markBoth_22 : decode cX1_markBoth 22 = .ok (.aload_n 1, 1) := by decide +kernel
theorem dX1_markBoth_23 : decode cX1_markBoth 23 = .ok (.getfield 21, 3) := by decide +kernel
theorem dX1_markBoth_26 : decode cX1_markBoth 26 = .ok (.iload_n 3, 1) := by decide +kernel
theorem dX1_markBoth_27 : decode cX1_markBoth 27 = .ok (.invokevirtual 88, 3) := by decide +kernel
theorem dX1_markBoth_30 : decode cX1_markBoth 30 = .ok (.iconst 1, 1) := by decide +kernel
theorem dX1_markBoth_31 : decode cX1_markBoth 31 = .ok (.invokevirtual 91, 3) := by decide +kernel
theorem dX1_markBoth_34 : decode cX1_markBoth 34 = .ok (.iinc 3 1, 3) := by decide +kernel
theorem dX1_markBoth_37 : decode cX1_markBoth 37 = .ok (.goto (-27), 3) := by decide +kernel
theorem dX1_markBoth_40 : decode cX1_markBoth 40 = .ok (.iconst 0, 1) := by decide +kernel
theorem dX1_markBoth_41 : decode cX1_markBoth 41 = .ok (.istore_n 3, 1) := by decide +kernel
theorem dX1_markBoth_42 : decode cX1_markBoth 42 = .ok (.iload_n 3, 1) := by decide +kernel
theorem dX1_markBoth_43 : decode cX1_markBoth 43 = .ok (.aload_n 2, 1) := by decide +kernel
theorem dX1_markBoth_44 : decode cX1_markBoth 44 = .ok (.getfield 21, 3) := by decide +kernel
theorem dX1_markBoth_47 : decode cX1_markBoth 47 = .ok (.getfield 84, 3) := by decide +kernel
theorem dX1_markBoth_50 : decode cX1_markBoth 50 = .ok (.if_icmp .ge 33, 3) := by decide +kernel
theorem dX1_markBoth_53 : decode cX1_markBoth 53 = .ok (.aload_n 2, 1) := by decide +kernel
theorem dX1_markBoth_54 : decode cX1_markBoth 54 = .ok (.getfield 21, 3) := by decide +kernel
theorem dX1_markBoth_57 : decode cX1_markBoth 57 = .ok (.iload_n 3, 1) := by decide +kernel
theorem dX1_markBoth_58 : decode cX1_markBoth 58 = .ok (.invokevirtual 88, 3) := by decide +kernel
theorem dX1_markBoth_61 : decode cX1_markBoth 61 = .ok (.istore 4, 2) := by decide +kernel
theorem dX1_markBoth_63 : decode cX1_markBoth 63 = .ok (.aload_n 0, 1) := by decide +kernel
theorem dX1_markBoth_64 : decode cX1_markBoth 64 = .ok (.iload 4, 2) := by decide +kernel
theorem dX1_markBoth_66 : decode cX1_markBoth 66 = .ok (.aload_n 0, 1) := by decide +kernel
theorem dX1_markBoth_67 : decode cX1_markBoth 67 = .ok (.iload 4, 2) := by decide +kernel
theorem dX1_markBoth_69 : decode cX1_markBoth 69 = .ok (.invokevirtual 41, 3) := by decide +kernel
theorem dX1_markBoth_72 : decode cX1_markBoth 72 = .ok (.iconst 2, 1) := by decide +kernel
theorem dX1_markBoth_73 : decode cX1_markBoth 73 = .ok (.ior, 1) := by decide +kernel
theorem dX1_markBoth_74 : decode cX1_markBoth 74 = .ok (.invokevirtual 91, 3) := by decide +kernel
theorem dX1_markBoth_77 : decode cX1_markBoth 77 = .ok (.iinc 3 1, 3) := by decide +kernel
theorem dX1_markBoth_80 : decode cX1_markBoth 80 = .ok (.goto (-38), 3) := by decide +kernel
theorem dX1_markBoth_83 : decode cX1_markBoth 83 = .ok (.return_, 1) := by decide +kernel
def X1_markBoth_42_st  (k42 : Nat → Option Nat → Int32 → MM Unit) (this : Nat) (x2 : Option Nat) (x3 : Int32) : MM Unit :=
  mb (gR 4 x2 2) fun v1 =>
  mb (gI 9 v1 1) fun v2 =>
  if v2 ≤ x3 then (mr ()) else (mb (gR 4 x2 2) fun v3 =>
  mb (wc 9 v3 fun t => X8_get t x3) fun v4 =>
  mb (wc 3 (some this) fun t => X1_markAt t v4) fun v5 =>
  mb (wc 3 (some this) fun t => X1_setMark t v4 (v5 ||| (2 : Int32))) fun _ =>
  (k42 this x2 (x3 + (1 : Int32))))
def X1_markBoth_42  : Nat → Nat → Option Nat → Int32 → MM Unit
  | 0 => fun _ _ _ => mf
  | n + 1 => fun this x2 x3 => X1_markBoth_42_st  (X1_markBoth_42  n) this x2 x3
def X1_markBoth_40  (this : Nat) (x2 : Option Nat) : MM Unit :=
  (X1_markBoth_42 LFU this x2 (0 : Int32))
def X1_markBoth_10_st  (k10 : Nat → Option Nat → Option Nat → Int32 → MM Unit) (this : Nat) (x1 : Option Nat) (x2 : Option Nat) (x3 : Int32) : MM Unit :=
  mb (gR 4 x1 2) fun v1 =>
  mb (gI 9 v1 1) fun v2 =>
  if v2 ≤ x3 then ((X1_markBoth_40 this x2)) else (mb (gR 4 x1 2) fun v3 =>
  mb (wc 9 v3 fun t => X8_get t x3) fun v4 =>
  mb (wc 3 (some this) fun t => X1_setMark t v4 (1 : Int32)) fun _ =>
  (k10 this x1 x2 (x3 + (1 : Int32))))
def X1_markBoth_10  : Nat → Nat → Option Nat → Option Nat → Int32 → MM Unit
  | 0 => fun _ _ _ _ => mf
  | n + 1 => fun this x1 x2 x3 => X1_markBoth_10_st  (X1_markBoth_10  n) this x1 x2 x3
def X1_markBoth (this : Nat) (a1 : Option Nat) (a2 : Option Nat) : MM Unit :=
  mb (gR 3 (some this) 0) fun v1 =>
  mb (J7_fill_53178 v1 (0 : Int32)) fun _ =>
  (X1_markBoth_10 LFU this a1 a2 (0 : Int32))
set_option maxRecDepth 100000 in
set_option maxHeartbeats 4000000 in
theorem s_X1_markBoth_42_st (G : GG)   (k42 : Nat → Option Nat → Int32 → MM Unit) (hk42 : ∀ (this : Nat) (x2 : Option Nat) (x3 : Int32), Sn G yX1_markBoth cX1_markBoth 5 none 1 23 (fun _ : Unit => none) (k42 this x2 x3) 42 [some (va_rf (some this)), none, some (va_rf x2), some (.int x3), none] []) (this : Nat) (x2 : Option Nat) (x3 : Int32) : Sn G yX1_markBoth cX1_markBoth 5 none 1 23 (fun _ : Unit => none) (X1_markBoth_42_st  k42 this x2 x3) 42 [some (va_rf (some this)), none, some (va_rf x2), some (.int x3), none] [] := by
  unfold X1_markBoth_42_st
  refine sn_iload_n (v := x3) (pc' := 43) dX1_markBoth_42 rfl rfl rfl ?_
  refine sn_aload_n (v := x2) (pc' := 44) dX1_markBoth_43 rfl rfl rfl ?_
  refine sn_gR (k := 2) (pc' := 47) ci_4 rfl (Or.inr ⟨_, nw993⟩) dX1_markBoth_44 rfl (fun v1 => ?_)
  refine sn_gI (k := 1) (pc' := 50) ci_9 rfl (Or.inr ⟨_, nw55⟩) dX1_markBoth_47 rfl (fun v2 => ?_)
  refine sn_ic_ge (pt := 83) (pf := 53) dX1_markBoth_50 rfl rfl ?_ ?_
  · exact sn_vret dX1_markBoth_83 rfl
  · refine sn_aload_n (v := x2) (pc' := 54) dX1_markBoth_53 rfl rfl rfl ?_
    refine sn_gR (k := 2) (pc' := 57) ci_4 rfl (Or.inr ⟨_, nw993⟩) dX1_markBoth_54 rfl (fun v3 => ?_)
    refine sn_iload_n (v := x3) (pc' := 58) dX1_markBoth_57 rfl rfl rfl ?_
    refine sn_cV (r := v3) (st := []) (As := [.int x3]) (st2 := (fun v => .int v :: [])) (pc' := 61) ci_9 (fun t => c_X8_get G t x3) cw_X8_get rfl rfl tw1035 tw497 tw496 rfl rfl cat_nil rfl (fun _ => rfl) dX1_markBoth_58 rfl (fun v4 => ?_)
    refine sn_istore (v := v4) (L' := [some (va_rf (some this)), none, some (va_rf x2), some (.int x3), some (.int v4)]) (pc' := 63) dX1_markBoth_61 rfl rfl rfl ?_
    refine sn_aload_n (v := (some this)) (pc' := 64) dX1_markBoth_63 rfl rfl rfl ?_
    refine sn_iload (v := v4) (pc' := 66) dX1_markBoth_64 rfl rfl ?_
    refine sn_aload_n (v := (some this)) (pc' := 67) dX1_markBoth_66 rfl rfl rfl ?_
    refine sn_iload (v := v4) (pc' := 69) dX1_markBoth_67 rfl rfl ?_
    refine sn_cV (r := (some this)) (st := [.int v4, va_rf (some this)]) (As := [.int v4]) (st2 := (fun v => .int v :: [.int v4, va_rf (some this)])) (pc' := 72) ci_3 (fun t => c_X1_markAt G t v4) cw_X1_markAt rfl rfl tw1036 pw29 tw1038 rfl rfl (cat_i (cat_q cat_nil)) rfl (fun _ => rfl) dX1_markBoth_69 rfl (fun v5 => ?_)
    refine sn_iconst (v := (2 : Int32)) (pc' := 73) dX1_markBoth_72 rfl (by decide) ?_
    refine sn_ior (pc' := 74) dX1_markBoth_73 rfl ?_
    refine sn_cV (r := (some this)) (st := []) (As := [.int v4, .int (v5 ||| (2 : Int32))]) (st2 := (fun _ => [])) (pc' := 77) ci_3 (fun t => c_X1_setMark G t v4 (v5 ||| (2 : Int32))) cw_X1_setMark rfl rfl tw1040 pw30 tw1042 rfl rfl cat_nil rfl (fun _ => rfl) dX1_markBoth_74 rfl (fun _ => ?_)
    refine sn_iinc (v := x3) (w := 1) (L' := [some (va_rf (some this)), none, some (va_rf x2), some (.int (x3 + (1 : Int32))), some (.int v4)]) (pc' := 80) dX1_markBoth_77 rfl rfl rfl (by decide) rfl ?_
    refine sn_goto (pc' := 42) dX1_markBoth_80 rfl ?_
    exact sn_weak (le_s (le_n (le_s (le_s (le_n le_e))))) (hk42 this x2 (x3 + (1 : Int32)))
set_option maxRecDepth 100000 in
set_option maxHeartbeats 4000000 in
theorem s_X1_markBoth_42 (G : GG)   : ∀ (n : Nat) (this : Nat) (x2 : Option Nat) (x3 : Int32), Sn G yX1_markBoth cX1_markBoth 5 none 1 23 (fun _ : Unit => none) (X1_markBoth_42  n this x2 x3) 42 [some (va_rf (some this)), none, some (va_rf x2), some (.int x3), none] [] := by
  intro n
  induction n with
  | zero => intro this x2 x3; exact sn_mf
  | succ n ih => intro this x2 x3; exact s_X1_markBoth_42_st G   (X1_markBoth_42  n) ih this x2 x3
set_option maxRecDepth 100000 in
set_option maxHeartbeats 4000000 in
theorem s_X1_markBoth_40 (G : GG)   (this : Nat) (x2 : Option Nat) : Sn G yX1_markBoth cX1_markBoth 5 none 1 23 (fun _ : Unit => none) (X1_markBoth_40  this x2) 40 [some (va_rf (some this)), none, some (va_rf x2), none, none] [] := by
  unfold X1_markBoth_40
  refine sn_iconst (v := (0 : Int32)) (pc' := 41) dX1_markBoth_40 rfl (by decide) ?_
  refine sn_istore_n (v := (0 : Int32)) (L' := [some (va_rf (some this)), none, some (va_rf x2), some (.int (0 : Int32)), none]) (pc' := 42) dX1_markBoth_41 rfl rfl rfl rfl ?_
  exact sn_weak (le_s (le_n (le_s (le_s (le_n le_e))))) (s_X1_markBoth_42 G LFU this x2 (0 : Int32))
set_option maxRecDepth 100000 in
set_option maxHeartbeats 4000000 in
theorem s_X1_markBoth_10_st (G : GG)   (k10 : Nat → Option Nat → Option Nat → Int32 → MM Unit) (hk10 : ∀ (this : Nat) (x1 : Option Nat) (x2 : Option Nat) (x3 : Int32), Sn G yX1_markBoth cX1_markBoth 5 none 1 23 (fun _ : Unit => none) (k10 this x1 x2 x3) 10 [some (va_rf (some this)), some (va_rf x1), some (va_rf x2), some (.int x3), none] []) (this : Nat) (x1 : Option Nat) (x2 : Option Nat) (x3 : Int32) : Sn G yX1_markBoth cX1_markBoth 5 none 1 23 (fun _ : Unit => none) (X1_markBoth_10_st  k10 this x1 x2 x3) 10 [some (va_rf (some this)), some (va_rf x1), some (va_rf x2), some (.int x3), none] [] := by
  unfold X1_markBoth_10_st
  refine sn_iload_n (v := x3) (pc' := 11) dX1_markBoth_10 rfl rfl rfl ?_
  refine sn_aload_n (v := x1) (pc' := 12) dX1_markBoth_11 rfl rfl rfl ?_
  refine sn_gR (k := 2) (pc' := 15) ci_4 rfl (Or.inr ⟨_, nw993⟩) dX1_markBoth_12 rfl (fun v1 => ?_)
  refine sn_gI (k := 1) (pc' := 18) ci_9 rfl (Or.inr ⟨_, nw55⟩) dX1_markBoth_15 rfl (fun v2 => ?_)
  refine sn_ic_ge (pt := 40) (pf := 21) dX1_markBoth_18 rfl rfl ?_ ?_
  · exact sn_weak (le_s (le_n (le_s (le_n (le_n le_e))))) (s_X1_markBoth_40 G this x2)
  · refine sn_aload_n (v := (some this)) (pc' := 22) dX1_markBoth_21 rfl rfl rfl ?_
    refine sn_aload_n (v := x1) (pc' := 23) dX1_markBoth_22 rfl rfl rfl ?_
    refine sn_gR (k := 2) (pc' := 26) ci_4 rfl (Or.inr ⟨_, nw993⟩) dX1_markBoth_23 rfl (fun v3 => ?_)
    refine sn_iload_n (v := x3) (pc' := 27) dX1_markBoth_26 rfl rfl rfl ?_
    refine sn_cV (r := v3) (st := [va_rf (some this)]) (As := [.int x3]) (st2 := (fun v => .int v :: [va_rf (some this)])) (pc' := 30) ci_9 (fun t => c_X8_get G t x3) cw_X8_get rfl rfl tw1035 tw497 tw496 rfl rfl (cat_q cat_nil) rfl (fun _ => rfl) dX1_markBoth_27 rfl (fun v4 => ?_)
    refine sn_iconst (v := (1 : Int32)) (pc' := 31) dX1_markBoth_30 rfl (by decide) ?_
    refine sn_cV (r := (some this)) (st := []) (As := [.int v4, .int (1 : Int32)]) (st2 := (fun _ => [])) (pc' := 34) ci_3 (fun t => c_X1_setMark G t v4 (1 : Int32)) cw_X1_setMark rfl rfl tw1040 pw30 tw1042 rfl rfl cat_nil rfl (fun _ => rfl) dX1_markBoth_31 rfl (fun _ => ?_)
    refine sn_iinc (v := x3) (w := 1) (L' := [some (va_rf (some this)), some (va_rf x1), some (va_rf x2), some (.int (x3 + (1 : Int32))), none]) (pc' := 37) dX1_markBoth_34 rfl rfl rfl (by decide) rfl ?_
    refine sn_goto (pc' := 10) dX1_markBoth_37 rfl ?_
    exact sn_weak (le_s (le_s (le_s (le_s (le_n le_e))))) (hk10 this x1 x2 (x3 + (1 : Int32)))
set_option maxRecDepth 100000 in
set_option maxHeartbeats 4000000 in
theorem s_X1_markBoth_10 (G : GG)   : ∀ (n : Nat) (this : Nat) (x1 : Option Nat) (x2 : Option Nat) (x3 : Int32), Sn G yX1_markBoth cX1_markBoth 5 none 1 23 (fun _ : Unit => none) (X1_markBoth_10  n this x1 x2 x3) 10 [some (va_rf (some this)), some (va_rf x1), some (va_rf x2), some (.int x3), none] [] := by
  intro n
  induction n with
  | zero => intro this x1 x2 x3; exact sn_mf
  | succ n ih => intro this x1 x2 x3; exact s_X1_markBoth_10_st G   (X1_markBoth_10  n) ih this x1 x2 x3
set_option maxRecDepth 100000 in
set_option maxHeartbeats 4000000 in
theorem s_X1_markBoth (G : GG) (this : Nat) (a1 : Option Nat) (a2 : Option Nat) : Sn G yX1_markBoth cX1_markBoth 5 none 1 23 (fun _ : Unit => none) (X1_markBoth this a1 a2) 0 [some (va_rf (some this)), some (va_rf a1), some (va_rf a2), none, none] [] := by
  unfold X1_markBoth
  refine sn_aload_n (v := (some this)) (pc' := 1) dX1_markBoth_0 rfl rfl rfl ?_
  refine sn_gR (k := 0) (pc' := 4) ci_3 rfl (Or.inl tw217) dX1_markBoth_1 rfl (fun v1 => ?_)
  refine sn_iconst (v := (0 : Int32)) (pc' := 5) dX1_markBoth_4 rfl (by decide) ?_
  refine sn_cS (st := []) (As := [va_rf v1, .int (0 : Int32)]) (st2 := (fun _ => [])) (pc' := 8) (c_J7_fill_53178 G v1 (0 : Int32)) cw_J7_fill_53178 rfl rfl tw1034 tw528 rfl rfl cat_nil rfl (fun _ => rfl) dX1_markBoth_5 rfl (fun _ => ?_)
  refine sn_iconst (v := (0 : Int32)) (pc' := 9) dX1_markBoth_8 rfl (by decide) ?_
  refine sn_istore_n (v := (0 : Int32)) (L' := [some (va_rf (some this)), some (va_rf a1), some (va_rf a2), some (.int (0 : Int32)), none]) (pc' := 10) dX1_markBoth_9 rfl rfl rfl rfl ?_
  exact sn_weak (le_s (le_s (le_s (le_s (le_n le_e))))) (s_X1_markBoth_10 G LFU this a1 a2 (0 : Int32))
theorem c_X1_markBoth (G : GG) (this : Nat) (a1 : Option Nat) (a2 : Option Nat) : Cal G yX1_markBoth cX1_markBoth 5 none 1 23 (fun _ : Unit => none) (X1_markBoth this a1 a2) [.ref this, va_rf a1, va_rf a2] :=
  Cal.of (by decide) (cat_t (cat_q (cat_q cat_nil))) rfl (sn_weak (le_s (le_s (le_s (le_z (le_z le_e))))) (s_X1_markBoth G this a1 a2))
theorem cw_X1_markBoth : CW yX1_markBoth cX1_markBoth 5 none 2 := ⟨tw1258, tw9, by decide, by decide +kernel⟩
/-! X1_countApart -/
theorem dX1_countApart_0 : decode cX1_countApart 0 = .ok (.aload_n 0, 1) := by decide +kernel
theorem dX1_countApart_1 : decode cX1_countApart 1 = .ok (.aload_n 1, 1) := by decide +kernel
theorem dX1_countApart_2 : decode cX1_countApart 2 = .ok (.aload_n 2, 1) := by decide +kernel
theorem dX1_countApart_3 : decode cX1_countApart 3 = .ok (.invokevirtual 71, 3) := by decide +kernel
theorem dX1_countApart_6 : decode cX1_countApart 6 = .ok (.iconst 0, 1) := by decide +kernel
theorem dX1_countApart_7 : decode cX1_countApart 7 = .ok (.istore_n 3, 1) := by decide +kernel
theorem dX1_countApart_8 : decode cX1_countApart 8 = .ok (.iconst 0, 1) := by decide +kernel
theorem dX1_countApart_9 : decode cX1_countApart 9 = .ok (.istore 4, 2) := by decide +kernel
theorem dX1_countApart_11 : decode cX1_countApart 11 = .ok (.iload 4, 2) := by decide +kernel
theorem dX1_countApart_13 : decode cX1_countApart 13 = .ok (.aload_n 1, 1) := by decide +kernel
theorem dX1_countApart_14 : decode cX1_countApart 14 = .ok (.getfield 31, 3) := by decide +kernel
theorem dX1_countApart_17 : decode cX1_countApart 17 = .ok (.invokevirtual 35, 3) := by decide +kernel
theorem dX1_countApart_20 : decode cX1_countApart 20 = .ok (.if_icmp .ge 32, 3) := by decide +kernel
theorem dX1_countApart_23 : decode cX1_countApart 23 = .ok (.aload_n 0, 1) := by decide +kernel
theorem dX1_countApart_24 : decode cX1_countApart 24 = .ok (.iload 4, 2) := by decide +kernel
theorem dX1_countApart_26 : decode cX1_countApart 26 = .ok (.invokevirtual 41, 3) := by decide +kernel
theorem dX1_countApart_29 : decode cX1_countApart 29 = .ok (.iconst 1, 1) := by decide +kernel
theorem dX1_countApart_30 : decode cX1_countApart 30 = .ok (.if_icmp .eq 13, 3) := by decide +kernel
theorem dX1_countApart_33 : decode cX1_countApart 33 = .ok (.aload_n 0, 1) := by decide +kernel
theorem dX1_countApart_34 : decode cX1_countApart 34 = .ok (.iload 4, 2) := by decide +kernel
theorem dX1_countApart_36 : decode cX1_countApart 36 = .ok (.invokevirtual 41, 3) := by decide +kernel
theorem dX1_countApart_39 : decode cX1_countApart 39 = .ok (.iconst 2, 1) := by decide +kernel
theorem dX1_countApart_40 : decode cX1_countApart 40 = .ok (.if_icmp .ne 6, 3) := by decide +kernel
theorem dX1_countApart_43 : decode cX1_countApart 43 = .ok (.iinc 3 1, 3) := by decide +kernel
theorem dX1_countApart_46 : decode cX1_countApart 46 = .ok (.iinc 4 1, 3) := by decide +kernel
theorem dX1_countApart_49 : decode cX1_countApart 49 = .ok (.goto (-38), 3) := by decide +kernel
theorem dX1_countApart_52 : decode cX1_countApart 52 = .ok (.iload_n 3, 1) := by decide +kernel
theorem dX1_countApart_53 : decode cX1_countApart 53 = .ok (.ireturn, 1) := by decide +kernel
def X1_countApart_46 (k11 : Nat → Option Nat → Int32 → Int32 → MM Int32) (this : Nat) (x1 : Option Nat) (x3 : Int32) (x4 : Int32) : MM Int32 :=
  (k11 this x1 x3 (x4 + (1 : Int32)))
def X1_countApart_43 (k11 : Nat → Option Nat → Int32 → Int32 → MM Int32) (this : Nat) (x1 : Option Nat) (x3 : Int32) (x4 : Int32) : MM Int32 :=
  (X1_countApart_46 k11 this x1 (x3 + (1 : Int32)) x4)
def X1_countApart_11_st  (k11 : Nat → Option Nat → Int32 → Int32 → MM Int32) (this : Nat) (x1 : Option Nat) (x3 : Int32) (x4 : Int32) : MM Int32 :=
  mb (gR 4 x1 1) fun v1 =>
  mb (wc 2 v1 fun t => X0_leafCount t ) fun v2 =>
  if v2 ≤ x4 then (mr x3) else (mb (wc 3 (some this) fun t => X1_markAt t x4) fun v3 =>
  if v3 = (1 : Int32) then ((X1_countApart_43 k11 this x1 x3 x4)) else (mb (wc 3 (some this) fun t => X1_markAt t x4) fun v4 =>
  if v4 = (2 : Int32) then ((X1_countApart_43 k11 this x1 x3 x4)) else ((X1_countApart_46 k11 this x1 x3 x4))))
def X1_countApart_11  : Nat → Nat → Option Nat → Int32 → Int32 → MM Int32
  | 0 => fun _ _ _ _ => mf
  | n + 1 => fun this x1 x3 x4 => X1_countApart_11_st  (X1_countApart_11  n) this x1 x3 x4
def X1_countApart (this : Nat) (a1 : Option Nat) (a2 : Option Nat) : MM Int32 :=
  mb (wc 3 (some this) fun t => X1_markBoth t a1 a2) fun _ =>
  (X1_countApart_11 LFU this a1 (0 : Int32) (0 : Int32))
set_option maxRecDepth 100000 in
set_option maxHeartbeats 4000000 in
theorem s_X1_countApart_46 (G : GG) (k11 : Nat → Option Nat → Int32 → Int32 → MM Int32) (hk11 : ∀ (this : Nat) (x1 : Option Nat) (x3 : Int32) (x4 : Int32), Sn G yX1_countApart cX1_countApart 5 (some FieldType.int) 2 47 (fun v : Int32 => some (.int v)) (k11 this x1 x3 x4) 11 [some (va_rf (some this)), some (va_rf x1), none, some (.int x3), some (.int x4)] []) (this : Nat) (x1 : Option Nat) (x3 : Int32) (x4 : Int32) : Sn G yX1_countApart cX1_countApart 5 (some FieldType.int) 2 47 (fun v : Int32 => some (.int v)) (X1_countApart_46 k11 this x1 x3 x4) 46 [some (va_rf (some this)), some (va_rf x1), none, some (.int x3), some (.int x4)] [] := by
  unfold X1_countApart_46
  refine sn_iinc (v := x4) (w := 1) (L' := [some (va_rf (some this)), some (va_rf x1), none, some (.int x3), some (.int (x4 + (1 : Int32)))]) (pc' := 49) dX1_countApart_46 rfl rfl rfl (by decide) rfl ?_
  refine sn_goto (pc' := 11) dX1_countApart_49 rfl ?_
  exact sn_weak (le_s (le_s (le_n (le_s (le_s le_e))))) (hk11 this x1 x3 (x4 + (1 : Int32)))
set_option maxRecDepth 100000 in
set_option maxHeartbeats 4000000 in
theorem s_X1_countApart_43 (G : GG) (k11 : Nat → Option Nat → Int32 → Int32 → MM Int32) (hk11 : ∀ (this : Nat) (x1 : Option Nat) (x3 : Int32) (x4 : Int32), Sn G yX1_countApart cX1_countApart 5 (some FieldType.int) 2 47 (fun v : Int32 => some (.int v)) (k11 this x1 x3 x4) 11 [some (va_rf (some this)), some (va_rf x1), none, some (.int x3), some (.int x4)] []) (this : Nat) (x1 : Option Nat) (x3 : Int32) (x4 : Int32) : Sn G yX1_countApart cX1_countApart 5 (some FieldType.int) 2 47 (fun v : Int32 => some (.int v)) (X1_countApart_43 k11 this x1 x3 x4) 43 [some (va_rf (some this)), some (va_rf x1), none, some (.int x3), some (.int x4)] [] := by
  unfold X1_countApart_43
  refine sn_iinc (v := x3) (w := 1) (L' := [some (va_rf (some this)), some (va_rf x1), none, some (.int (x3 + (1 : Int32))), some (.int x4)]) (pc' := 46) dX1_countApart_43 rfl rfl rfl (by decide) rfl ?_
  exact sn_weak (le_s (le_s (le_n (le_s (le_s le_e))))) (s_X1_countApart_46 G k11 hk11 this x1 (x3 + (1 : Int32)) x4)
set_option maxRecDepth 100000 in
set_option maxHeartbeats 4000000 in
theorem s_X1_countApart_11_st (G : GG)   (k11 : Nat → Option Nat → Int32 → Int32 → MM Int32) (hk11 : ∀ (this : Nat) (x1 : Option Nat) (x3 : Int32) (x4 : Int32), Sn G yX1_countApart cX1_countApart 5 (some FieldType.int) 2 47 (fun v : Int32 => some (.int v)) (k11 this x1 x3 x4) 11 [some (va_rf (some this)), some (va_rf x1), none, some (.int x3), some (.int x4)] []) (this : Nat) (x1 : Option Nat) (x3 : Int32) (x4 : Int32) : Sn G yX1_countApart cX1_countApart 5 (some FieldType.int) 2 47 (fun v : Int32 => some (.int v)) (X1_countApart_11_st  k11 this x1 x3 x4) 11 [some (va_rf (some this)), some (va_rf x1), none, some (.int x3), some (.int x4)] [] := by
  unfold X1_countApart_11_st
  refine sn_iload (v := x4) (pc' := 13) dX1_countApart_11 rfl rfl ?_
  refine sn_aload_n (v := x1) (pc' := 14) dX1_countApart_13 rfl rfl rfl ?_
  refine sn_gR (k := 1) (pc' := 17) ci_4 rfl (Or.inr ⟨_, nw989⟩) dX1_countApart_14 rfl (fun v1 => ?_)
  refine sn_cV (r := v1) (st := [.int x4]) (As := []) (st2 := (fun v => .int v :: [.int x4])) (pc' := 20) ci_2 (fun t => c_X0_leafCount G t ) cw_X0_leafCount rfl rfl tw1044 tw863 tw862 rfl rfl (cat_i cat_nil) rfl (fun _ => rfl) dX1_countApart_17 rfl (fun v2 => ?_)
  refine sn_ic_ge (pt := 52) (pf := 23) dX1_countApart_20 rfl rfl ?_ ?_
  · refine sn_iload_n (v := x3) (pc' := 53) dX1_countApart_52 rfl rfl rfl ?_
    exact sn_iret dX1_countApart_53 rfl rfl
  · refine sn_aload_n (v := (some this)) (pc' := 24) dX1_countApart_23 rfl rfl rfl ?_
    refine sn_iload (v := x4) (pc' := 26) dX1_countApart_24 rfl rfl ?_
    refine sn_cV (r := (some this)) (st := []) (As := [.int x4]) (st2 := (fun v => .int v :: [])) (pc' := 29) ci_3 (fun t => c_X1_markAt G t x4) cw_X1_markAt rfl rfl tw1036 pw29 tw1038 rfl rfl cat_nil rfl (fun _ => rfl) dX1_countApart_26 rfl (fun v3 => ?_)
    refine sn_iconst (v := (1 : Int32)) (pc' := 30) dX1_countApart_29 rfl (by decide) ?_
    refine sn_ic_eq (pt := 43) (pf := 33) dX1_countApart_30 rfl rfl ?_ ?_
    · exact sn_weak (le_s (le_s (le_n (le_s (le_s le_e))))) (s_X1_countApart_43 G k11 hk11 this x1 x3 x4)
    · refine sn_aload_n (v := (some this)) (pc' := 34) dX1_countApart_33 rfl rfl rfl ?_
      refine sn_iload (v := x4) (pc' := 36) dX1_countApart_34 rfl rfl ?_
      refine sn_cV (r := (some this)) (st := []) (As := [.int x4]) (st2 := (fun v => .int v :: [])) (pc' := 39) ci_3 (fun t => c_X1_markAt G t x4) cw_X1_markAt rfl rfl tw1036 pw29 tw1038 rfl rfl cat_nil rfl (fun _ => rfl) dX1_countApart_36 rfl (fun v4 => ?_)
      refine sn_iconst (v := (2 : Int32)) (pc' := 40) dX1_countApart_39 rfl (by decide) ?_
      refine sn_ic_ne (pt := 46) (pf := 43) dX1_countApart_40 rfl rfl ?_ ?_
      · exact sn_weak (le_s (le_s (le_n (le_s (le_s le_e))))) (s_X1_countApart_43 G k11 hk11 this x1 x3 x4)
      · exact sn_weak (le_s (le_s (le_n (le_s (le_s le_e))))) (s_X1_countApart_46 G k11 hk11 this x1 x3 x4)
set_option maxRecDepth 100000 in
set_option maxHeartbeats 4000000 in
theorem s_X1_countApart_11 (G : GG)   : ∀ (n : Nat) (this : Nat) (x1 : Option Nat) (x3 : Int32) (x4 : Int32), Sn G yX1_countApart cX1_countApart 5 (some FieldType.int) 2 47 (fun v : Int32 => some (.int v)) (X1_countApart_11  n this x1 x3 x4) 11 [some (va_rf (some this)), some (va_rf x1), none, some (.int x3), some (.int x4)] [] := by
  intro n
  induction n with
  | zero => intro this x1 x3 x4; exact sn_mf
  | succ n ih => intro this x1 x3 x4; exact s_X1_countApart_11_st G   (X1_countApart_11  n) ih this x1 x3 x4
set_option maxRecDepth 100000 in
set_option maxHeartbeats 4000000 in
theorem s_X1_countApart (G : GG) (this : Nat) (a1 : Option Nat) (a2 : Option Nat) : Sn G yX1_countApart cX1_countApart 5 (some FieldType.int) 2 47 (fun v : Int32 => some (.int v)) (X1_countApart this a1 a2) 0 [some (va_rf (some this)), some (va_rf a1), some (va_rf a2), none, none] [] := by
  unfold X1_countApart
  refine sn_aload_n (v := (some this)) (pc' := 1) dX1_countApart_0 rfl rfl rfl ?_
  refine sn_aload_n (v := a1) (pc' := 2) dX1_countApart_1 rfl rfl rfl ?_
  refine sn_aload_n (v := a2) (pc' := 3) dX1_countApart_2 rfl rfl rfl ?_
  refine sn_cV (r := (some this)) (st := []) (As := [va_rf a1, va_rf a2]) (st2 := (fun _ => [])) (pc' := 6) ci_3 (fun t => c_X1_markBoth G t a1 a2) cw_X1_markBoth rfl rfl tw1255 pw43 tw1257 rfl rfl cat_nil rfl (fun _ => rfl) dX1_countApart_3 rfl (fun _ => ?_)
  refine sn_iconst (v := (0 : Int32)) (pc' := 7) dX1_countApart_6 rfl (by decide) ?_
  refine sn_istore_n (v := (0 : Int32)) (L' := [some (va_rf (some this)), some (va_rf a1), some (va_rf a2), some (.int (0 : Int32)), none]) (pc' := 8) dX1_countApart_7 rfl rfl rfl rfl ?_
  refine sn_iconst (v := (0 : Int32)) (pc' := 9) dX1_countApart_8 rfl (by decide) ?_
  refine sn_istore (v := (0 : Int32)) (L' := [some (va_rf (some this)), some (va_rf a1), some (va_rf a2), some (.int (0 : Int32)), some (.int (0 : Int32))]) (pc' := 11) dX1_countApart_9 rfl rfl rfl ?_
  exact sn_weak (le_s (le_s (le_n (le_s (le_s le_e))))) (s_X1_countApart_11 G LFU this a1 (0 : Int32) (0 : Int32))
theorem c_X1_countApart (G : GG) (this : Nat) (a1 : Option Nat) (a2 : Option Nat) : Cal G yX1_countApart cX1_countApart 5 (some FieldType.int) 2 47 (fun v : Int32 => some (.int v)) (X1_countApart this a1 a2) [.ref this, va_rf a1, va_rf a2] :=
  Cal.of (by decide) (cat_t (cat_q (cat_q cat_nil))) rfl (sn_weak (le_s (le_s (le_s (le_z (le_z le_e))))) (s_X1_countApart G this a1 a2))
theorem cw_X1_countApart : CW yX1_countApart cX1_countApart 5 (some FieldType.int) 2 := ⟨tw1254, tw9, by decide, by decide +kernel⟩
/-! X11_apart -/
theorem dX11_apart_0 : decode cX11_apart 0 = .ok (.aload_n 0, 1) := by decide +kernel
theorem dX11_apart_1 : decode cX11_apart 1 = .ok (.iload_n 1, 1) := by decide +kernel
theorem dX11_apart_2 : decode cX11_apart 2 = .ok (.invokevirtual 197, 3) := by decide +kernel
theorem dX11_apart_5 : decode cX11_apart 5 = .ok (.astore_n 3, 1) := by decide +kernel
theorem dX11_apart_6 : decode cX11_apart 6 = .ok (.aload_n 0, 1) := by decide +kernel
theorem dX11_apart_7 : decode cX11_apart 7 = .ok (.iload_n 2, 1) := by decide +kernel
theorem dX11_apart_8 : decode cX11_apart 8 = .ok (.invokevirtual 197, 3) := by decide +kernel
theorem dX11_apart_11 : decode cX11_apart 11 = .ok (.astore 4, 2) := by decide +kernel
theorem dX11_apart_13 : decode cX11_apart 13 = .ok (.aload_n 3, 1) := by decide +kernel
theorem dX11_apart_14 : decode cX11_apart 14 = .ok (.ifnull 8, 3) := by decide +kernel
theorem dX11_apart_17 : decode cX11_apart 17 = .ok (.aload 4, 2) := by decide +kernel
theorem dX11_apart_19 : decode cX11_apart 19 = .ok (.ifnonnull 9, 3) := by decide +kernel
theorem dX11_apart_22 : decode cX11_apart 22 = .ok (.aload_n 0, 1) := by decide +kernel
theorem dX11_apart_23 : decode cX11_apart 23 = .ok (.iconst 1, 1) := by decide +kernel
theorem dX11_apart_24 : decode cX11_apart 24 = .ok (.invokevirtual 71, 3) := by decide +kernel
theorem dX11_apart_27 : decode cX11_apart 27 = .ok (.ireturn, 1) := by decide +kernel
theorem dX11_apart_28 : decode cX11_apart 28 = .ok (.aload_n 3, 1) := by decide +kernel
theorem dX11_apart_29 : decode cX11_apart 29 = .ok (.getfield 201, 3) := by decide +kernel
theorem dX11_apart_32 : decode cX11_apart 32 = .ok (.aload 4, 2) := by decide +kernel
theorem dX11_apart_34 : decode cX11_apart 34 = .ok (.getfield 201, 3) := by decide +kernel
theorem dX11_apart_37 : decode cX11_apart 37 = .ok (.if_icmp .eq 9, 3) := by decide +kernel
theorem dX11_apart_40 : decode cX11_apart 40 = .ok (.aload_n 0, 1) := by decide +kernel
theorem dX11_apart_41 : decode cX11_apart 41 = .ok (.iconst 4, 1) := by decide +kernel
theorem dX11_apart_42 : decode cX11_apart 42 = .ok (.invokevirtual 71, 3) := by decide +kernel
theorem dX11_apart_45 : decode cX11_apart 45 = .ok (.ireturn, 1) := by decide +kernel
theorem dX11_apart_46 : decode cX11_apart 46 = .ok (.aload_n 0, 1) := by decide +kernel
theorem dX11_apart_47 : decode cX11_apart 47 = .ok (.aload_n 0, 1) := by decide +kernel
theorem dX11_apart_48 : decode cX11_apart 48 = .ok (.getfield 44, 3) := by decide +kernel
theorem dX11_apart_51 : decode cX11_apart 51 = .ok (.aload_n 3, 1) := by decide +kernel
theorem dX11_apart_52 : decode cX11_apart 52 = .ok (.aload 4, 2) := by decide +kernel
theorem dX11_apart_54 : decode cX11_apart 54 = .ok (.invokevirtual 219, 3) := by decide +kernel
theorem dX11_apart_57 : decode cX11_apart 57 = .ok (.invokevirtual 82, 3) := by decide +kernel
theorem dX11_apart_60 : decode cX11_apart 60 = .ok (.ireturn, 1) := by decide +kernel
def X11_apart_22  (this : Nat) : MM Int32 :=
  mb (wc 12 (some this) fun t => X11_refuse t (1 : Int32)) fun v1 =>
  mr v1
def X11_apart (this : Nat) (a1 : Int32) (a2 : Int32) : MM Int32 :=
  mb (wc 12 (some this) fun t => X11_copyAt t a1) fun v1 =>
  mb (wc 12 (some this) fun t => X11_copyAt t a2) fun v2 =>
  if v1 = none then ((X11_apart_22 this)) else (if v2 = none then ((X11_apart_22 this)) else (mb (gI 4 v1 0) fun v3 =>
  mb (gI 4 v2 0) fun v4 =>
  if v3 = v4 then (mb (gR 12 (some this) 4) fun v5 =>
  mb (wc 3 v5 fun t => X1_countApart t v1 v2) fun v6 =>
  mb (wc 12 (some this) fun t => X11_answer t v6) fun v7 =>
  mr v7) else (mb (wc 12 (some this) fun t => X11_refuse t (4 : Int32)) fun v8 =>
  mr v8)))
set_option maxRecDepth 100000 in
set_option maxHeartbeats 4000000 in
theorem s_X11_apart_22 (G : GG)   (this : Nat) : Sn G yX11_apart cX11_apart 5 (some FieldType.int) 3 71 (fun v : Int32 => some (.int v)) (X11_apart_22  this) 22 [some (va_rf (some this)), none, none, none, none] [] := by
  unfold X11_apart_22
  refine sn_aload_n (v := (some this)) (pc' := 23) dX11_apart_22 rfl rfl rfl ?_
  refine sn_iconst (v := (1 : Int32)) (pc' := 24) dX11_apart_23 rfl (by decide) ?_
  refine sn_cV (r := (some this)) (st := []) (As := [.int (1 : Int32)]) (st2 := (fun v => .int v :: [])) (pc' := 27) ci_12 (fun t => c_X11_refuse G t (1 : Int32)) cw_X11_refuse rfl rfl tw318 pw0 tw320 rfl rfl cat_nil rfl (fun _ => rfl) dX11_apart_24 rfl (fun v1 => ?_)
  exact sn_iret dX11_apart_27 rfl rfl
set_option maxRecDepth 100000 in
set_option maxHeartbeats 4000000 in
theorem s_X11_apart (G : GG) (this : Nat) (a1 : Int32) (a2 : Int32) : Sn G yX11_apart cX11_apart 5 (some FieldType.int) 3 71 (fun v : Int32 => some (.int v)) (X11_apart this a1 a2) 0 [some (va_rf (some this)), some (.int a1), some (.int a2), none, none] [] := by
  unfold X11_apart
  refine sn_aload_n (v := (some this)) (pc' := 1) dX11_apart_0 rfl rfl rfl ?_
  refine sn_iload_n (v := a1) (pc' := 2) dX11_apart_1 rfl rfl rfl ?_
  refine sn_cV (r := (some this)) (st := []) (As := [.int a1]) (st2 := (fun v => va_rf v :: [])) (pc' := 5) ci_12 (fun t => c_X11_copyAt G t a1) cw_X11_copyAt rfl rfl tw1222 pw41 tw1224 rfl rfl cat_nil rfl (fun _ => rfl) dX11_apart_2 rfl (fun v1 => ?_)
  refine sn_astore_n (v := v1) (L' := [some (va_rf (some this)), some (.int a1), some (.int a2), some (va_rf v1), none]) (pc' := 6) dX11_apart_5 rfl rfl rfl rfl ?_
  refine sn_aload_n (v := (some this)) (pc' := 7) dX11_apart_6 rfl rfl rfl ?_
  refine sn_iload_n (v := a2) (pc' := 8) dX11_apart_7 rfl rfl rfl ?_
  refine sn_cV (r := (some this)) (st := []) (As := [.int a2]) (st2 := (fun v => va_rf v :: [])) (pc' := 11) ci_12 (fun t => c_X11_copyAt G t a2) cw_X11_copyAt rfl rfl tw1222 pw41 tw1224 rfl rfl cat_nil rfl (fun _ => rfl) dX11_apart_8 rfl (fun v2 => ?_)
  refine sn_astore (v := v2) (L' := [some (va_rf (some this)), some (.int a1), some (.int a2), some (va_rf v1), some (va_rf v2)]) (pc' := 13) dX11_apart_11 rfl rfl rfl ?_
  refine sn_aload_n (v := v1) (pc' := 14) dX11_apart_13 rfl rfl rfl ?_
  refine sn_ifnull (pt := 22) (pf := 17) dX11_apart_14 rfl rfl ?_ ?_
  · exact sn_weak (le_s (le_n (le_n (le_n (le_n le_e))))) (s_X11_apart_22 G this)
  · refine sn_aload (v := v2) (pc' := 19) dX11_apart_17 rfl rfl ?_
    refine sn_ifnonnull (pt := 28) (pf := 22) dX11_apart_19 rfl rfl ?_ ?_
    · exact sn_weak (le_s (le_n (le_n (le_n (le_n le_e))))) (s_X11_apart_22 G this)
    · refine sn_aload_n (v := v1) (pc' := 29) dX11_apart_28 rfl rfl rfl ?_
      refine sn_gI (k := 0) (pc' := 32) ci_4 rfl (Or.inr ⟨_, nw987⟩) dX11_apart_29 rfl (fun v3 => ?_)
      refine sn_aload (v := v2) (pc' := 34) dX11_apart_32 rfl rfl ?_
      refine sn_gI (k := 0) (pc' := 37) ci_4 rfl (Or.inr ⟨_, nw987⟩) dX11_apart_34 rfl (fun v4 => ?_)
      refine sn_ic_eq (pt := 46) (pf := 40) dX11_apart_37 rfl rfl ?_ ?_
      · refine sn_aload_n (v := (some this)) (pc' := 47) dX11_apart_46 rfl rfl rfl ?_
        refine sn_aload_n (v := (some this)) (pc' := 48) dX11_apart_47 rfl rfl rfl ?_
        refine sn_gR (k := 4) (pc' := 51) ci_12 rfl (Or.inl tw277) dX11_apart_48 rfl (fun v5 => ?_)
        refine sn_aload_n (v := v1) (pc' := 52) dX11_apart_51 rfl rfl rfl ?_
        refine sn_aload (v := v2) (pc' := 54) dX11_apart_52 rfl rfl ?_
        refine sn_cV (r := v5) (st := [va_rf (some this)]) (As := [va_rf v1, va_rf v2]) (st2 := (fun v => .int v :: [va_rf (some this)])) (pc' := 57) ci_3 (fun t => c_X1_countApart G t v1 v2) cw_X1_countApart rfl rfl tw1251 tw1253 tw1252 rfl rfl (cat_q cat_nil) rfl (fun _ => rfl) dX11_apart_54 rfl (fun v6 => ?_)
        refine sn_cV (r := (some this)) (st := []) (As := [.int v6]) (st2 := (fun v => .int v :: [])) (pc' := 60) ci_12 (fun t => c_X11_answer G t v6) cw_X11_answer rfl rfl tw326 pw1 tw328 rfl rfl cat_nil rfl (fun _ => rfl) dX11_apart_57 rfl (fun v7 => ?_)
        exact sn_iret dX11_apart_60 rfl rfl
      · refine sn_aload_n (v := (some this)) (pc' := 41) dX11_apart_40 rfl rfl rfl ?_
        refine sn_iconst (v := (4 : Int32)) (pc' := 42) dX11_apart_41 rfl (by decide) ?_
        refine sn_cV (r := (some this)) (st := []) (As := [.int (4 : Int32)]) (st2 := (fun v => .int v :: [])) (pc' := 45) ci_12 (fun t => c_X11_refuse G t (4 : Int32)) cw_X11_refuse rfl rfl tw318 pw0 tw320 rfl rfl cat_nil rfl (fun _ => rfl) dX11_apart_42 rfl (fun v8 => ?_)
        exact sn_iret dX11_apart_45 rfl rfl
theorem c_X11_apart (G : GG) (this : Nat) (a1 : Int32) (a2 : Int32) : Cal G yX11_apart cX11_apart 5 (some FieldType.int) 3 71 (fun v : Int32 => some (.int v)) (X11_apart this a1 a2) [.ref this, .int a1, .int a2] :=
  Cal.of (by decide) (cat_t (cat_i (cat_i cat_nil))) rfl (sn_weak (le_s (le_s (le_s (le_z (le_z le_e))))) (s_X11_apart G this a1 a2))
theorem cw_X11_apart : CW yX11_apart cX11_apart 5 (some FieldType.int) 2 := ⟨tw1250, tw1, by decide, by decide +kernel⟩
/-! X1_listTogether -/
theorem dX1_listTogether_0 : decode cX1_listTogether 0 = .ok (.aload_n 0, 1) := by decide +kernel
theorem dX1_listTogether_1 : decode cX1_listTogether 1 = .ok (.aload_n 1, 1) := by decide +kernel
theorem dX1_listTogether_2 : decode cX1_listTogether 2 = .ok (.aload_n 2, 1) := by decide +kernel
theorem dX1_listTogether_3 : decode cX1_listTogether 3 = .ok (.invokevirtual 71, 3) := by decide +kernel
theorem dX1_listTogether_6 : decode cX1_listTogether 6 = .ok (.aload_n 3, 1) := by decide +kernel
theorem dX1_listTogether_7 : decode cX1_listTogether 7 = .ok (.invokevirtual 75, 3) := by decide +kernel
theorem dX1_listTogether_10 : decode cX1_listTogether 10 = .ok (.iconst 0, 1) := by decide +kernel
theorem dX1_listTogether_11 : decode cX1_listTogether 11 = .ok (.istore 4, 2) := by decide +kernel
theorem dX1_listTogether_13 : decode cX1_listTogether 13 = .ok (.iload 4, 2) := by decide +kernel
theorem dX1_listTogether_15 : decode cX1_listTogether 15 = .ok (.aload_n 1, 1) := by decide +kernel
theorem dX1_listTogether_16 : decode cX1_listTogether 16 = .ok (.getfield 31, 3) := by decide +kernel
theorem dX1_listTogether_19 : decode cX1_listTogether 19 = .ok (.invokevirtual 35, 3) := by decide +kernel
theorem dX1_listTogether_22 : decode cX1_listTogether 22 = .ok (.if_icmp .ge 25, 3) := by decide +kernel
theorem dX1_listTogether_25 : decode cX1_listTogether 25 = .ok (.aload_n 0, 1) := by decide +kernel
theorem dX1_listTogether_26 : decode cX1_listTogether 26 = .ok (.iload 4, 2) := by decide +kernel
theorem dX1_listTogether_28 : decode cX1_listTogether 28 = .ok (.invokevirtual 41, 3) := by decide +kernel
theorem dX1_listTogether_31 : decode cX1_listTogether 31 = .ok (.ifCond .eq 10, 3) := by decide +kernel
theorem dX1_listTogether_34 : decode cX1_listTogether 34 = .ok (.aload_n 3, 1) := by decide +kernel
theorem dX1_listTogether_35 : decode cX1_listTogether 35 = .ok (.iload 4, 2) := by decide +kernel
theorem dX1_listTogether_37 : decode cX1_listTogether 37 = .ok (.invokevirtual 51, 3) := by decide +kernel
theorem dX1_listTogether_40 : decode cX1_listTogether 40 = .ok (.pop, 1) := by decide +kernel
theorem dX1_listTogether_41 : decode cX1_listTogether 41 = .ok (.iinc 4 1, 3) := by decide +kernel
theorem dX1_listTogether_44 : decode cX1_listTogether 44 = .ok (.goto (-31), 3) := by decide +kernel
theorem dX1_listTogether_47 : decode cX1_listTogether 47 = .ok (.return_, 1) := by decide +kernel
def X1_listTogether_41 (k13 : Nat → Option Nat → Option Nat → Int32 → MM Unit) (this : Nat) (x1 : Option Nat) (x3 : Option Nat) (x4 : Int32) : MM Unit :=
  (k13 this x1 x3 (x4 + (1 : Int32)))
def X1_listTogether_13_st  (k13 : Nat → Option Nat → Option Nat → Int32 → MM Unit) (this : Nat) (x1 : Option Nat) (x3 : Option Nat) (x4 : Int32) : MM Unit :=
  mb (gR 4 x1 1) fun v1 =>
  mb (wc 2 v1 fun t => X0_leafCount t ) fun v2 =>
  if v2 ≤ x4 then (mr ()) else (mb (wc 3 (some this) fun t => X1_markAt t x4) fun v3 =>
  if v3 = 0 then ((X1_listTogether_41 k13 this x1 x3 x4)) else (mb (wc 9 x3 fun t => X8_add t x4) fun v4 =>
  (X1_listTogether_41 k13 this x1 x3 x4)))
def X1_listTogether_13  : Nat → Nat → Option Nat → Option Nat → Int32 → MM Unit
  | 0 => fun _ _ _ _ => mf
  | n + 1 => fun this x1 x3 x4 => X1_listTogether_13_st  (X1_listTogether_13  n) this x1 x3 x4
def X1_listTogether (this : Nat) (a1 : Option Nat) (a2 : Option Nat) (a3 : Option Nat) : MM Unit :=
  mb (wc 3 (some this) fun t => X1_markBoth t a1 a2) fun _ =>
  mb (wc 9 a3 fun t => X8_clear t ) fun _ =>
  (X1_listTogether_13 LFU this a1 a3 (0 : Int32))
set_option maxRecDepth 100000 in
set_option maxHeartbeats 4000000 in
theorem s_X1_listTogether_41 (G : GG) (k13 : Nat → Option Nat → Option Nat → Int32 → MM Unit) (hk13 : ∀ (this : Nat) (x1 : Option Nat) (x3 : Option Nat) (x4 : Int32), Sn G yX1_listTogether cX1_listTogether 5 none 2 47 (fun _ : Unit => none) (k13 this x1 x3 x4) 13 [some (va_rf (some this)), some (va_rf x1), none, some (va_rf x3), some (.int x4)] []) (this : Nat) (x1 : Option Nat) (x3 : Option Nat) (x4 : Int32) : Sn G yX1_listTogether cX1_listTogether 5 none 2 47 (fun _ : Unit => none) (X1_listTogether_41 k13 this x1 x3 x4) 41 [some (va_rf (some this)), some (va_rf x1), none, some (va_rf x3), some (.int x4)] [] := by
  unfold X1_listTogether_41
  refine sn_iinc (v := x4) (w := 1) (L' := [some (va_rf (some this)), some (va_rf x1), none, some (va_rf x3), some (.int (x4 + (1 : Int32)))]) (pc' := 44) dX1_listTogether_41 rfl rfl rfl (by decide) rfl ?_
  refine sn_goto (pc' := 13) dX1_listTogether_44 rfl ?_
  exact sn_weak (le_s (le_s (le_n (le_s (le_s le_e))))) (hk13 this x1 x3 (x4 + (1 : Int32)))
set_option maxRecDepth 100000 in
set_option maxHeartbeats 4000000 in
theorem s_X1_listTogether_13_st (G : GG)   (k13 : Nat → Option Nat → Option Nat → Int32 → MM Unit) (hk13 : ∀ (this : Nat) (x1 : Option Nat) (x3 : Option Nat) (x4 : Int32), Sn G yX1_listTogether cX1_listTogether 5 none 2 47 (fun _ : Unit => none) (k13 this x1 x3 x4) 13 [some (va_rf (some this)), some (va_rf x1), none, some (va_rf x3), some (.int x4)] []) (this : Nat) (x1 : Option Nat) (x3 : Option Nat) (x4 : Int32) : Sn G yX1_listTogether cX1_listTogether 5 none 2 47 (fun _ : Unit => none) (X1_listTogether_13_st  k13 this x1 x3 x4) 13 [some (va_rf (some this)), some (va_rf x1), none, some (va_rf x3), some (.int x4)] [] := by
  unfold X1_listTogether_13_st
  refine sn_iload (v := x4) (pc' := 15) dX1_listTogether_13 rfl rfl ?_
  refine sn_aload_n (v := x1) (pc' := 16) dX1_listTogether_15 rfl rfl rfl ?_
  refine sn_gR (k := 1) (pc' := 19) ci_4 rfl (Or.inr ⟨_, nw989⟩) dX1_listTogether_16 rfl (fun v1 => ?_)
  refine sn_cV (r := v1) (st := [.int x4]) (As := []) (st2 := (fun v => .int v :: [.int x4])) (pc' := 22) ci_2 (fun t => c_X0_leafCount G t ) cw_X0_leafCount rfl rfl tw1044 tw863 tw862 rfl rfl (cat_i cat_nil) rfl (fun _ => rfl) dX1_listTogether_19 rfl (fun v2 => ?_)
  refine sn_ic_ge (pt := 47) (pf := 25) dX1_listTogether_22 rfl rfl ?_ ?_
  · exact sn_vret dX1_listTogether_47 rfl
  · refine sn_aload_n (v := (some this)) (pc' := 26) dX1_listTogether_25 rfl rfl rfl ?_
    refine sn_iload (v := x4) (pc' := 28) dX1_listTogether_26 rfl rfl ?_
    refine sn_cV (r := (some this)) (st := []) (As := [.int x4]) (st2 := (fun v => .int v :: [])) (pc' := 31) ci_3 (fun t => c_X1_markAt G t x4) cw_X1_markAt rfl rfl tw1036 pw29 tw1038 rfl rfl cat_nil rfl (fun _ => rfl) dX1_listTogether_28 rfl (fun v3 => ?_)
    refine sn_if_eq (pt := 41) (pf := 34) dX1_listTogether_31 rfl rfl ?_ ?_
    · exact sn_weak (le_s (le_s (le_n (le_s (le_s le_e))))) (s_X1_listTogether_41 G k13 hk13 this x1 x3 x4)
    · refine sn_aload_n (v := x3) (pc' := 35) dX1_listTogether_34 rfl rfl rfl ?_
      refine sn_iload (v := x4) (pc' := 37) dX1_listTogether_35 rfl rfl ?_
      refine sn_cV (r := x3) (st := []) (As := [.int x4]) (st2 := (fun v => .int v :: [])) (pc' := 40) ci_9 (fun t => c_X8_add G t x4) cw_X8_add rfl rfl tw1054 tw484 tw483 rfl rfl cat_nil rfl (fun _ => rfl) dX1_listTogether_37 rfl (fun v4 => ?_)
      refine sn_pop (pc' := 41) dX1_listTogether_40 rfl rfl ?_
      exact sn_weak (le_s (le_s (le_n (le_s (le_s le_e))))) (s_X1_listTogether_41 G k13 hk13 this x1 x3 x4)
set_option maxRecDepth 100000 in
set_option maxHeartbeats 4000000 in
theorem s_X1_listTogether_13 (G : GG)   : ∀ (n : Nat) (this : Nat) (x1 : Option Nat) (x3 : Option Nat) (x4 : Int32), Sn G yX1_listTogether cX1_listTogether 5 none 2 47 (fun _ : Unit => none) (X1_listTogether_13  n this x1 x3 x4) 13 [some (va_rf (some this)), some (va_rf x1), none, some (va_rf x3), some (.int x4)] [] := by
  intro n
  induction n with
  | zero => intro this x1 x3 x4; exact sn_mf
  | succ n ih => intro this x1 x3 x4; exact s_X1_listTogether_13_st G   (X1_listTogether_13  n) ih this x1 x3 x4
set_option maxRecDepth 100000 in
set_option maxHeartbeats 4000000 in
theorem s_X1_listTogether (G : GG) (this : Nat) (a1 : Option Nat) (a2 : Option Nat) (a3 : Option Nat) : Sn G yX1_listTogether cX1_listTogether 5 none 2 47 (fun _ : Unit => none) (X1_listTogether this a1 a2 a3) 0 [some (va_rf (some this)), some (va_rf a1), some (va_rf a2), some (va_rf a3), none] [] := by
  unfold X1_listTogether
  refine sn_aload_n (v := (some this)) (pc' := 1) dX1_listTogether_0 rfl rfl rfl ?_
  refine sn_aload_n (v := a1) (pc' := 2) dX1_listTogether_1 rfl rfl rfl ?_
  refine sn_aload_n (v := a2) (pc' := 3) dX1_listTogether_2 rfl rfl rfl ?_
  refine sn_cV (r := (some this)) (st := []) (As := [va_rf a1, va_rf a2]) (st2 := (fun _ => [])) (pc' := 6) ci_3 (fun t => c_X1_markBoth G t a1 a2) cw_X1_markBoth rfl rfl tw1255 pw43 tw1257 rfl rfl cat_nil rfl (fun _ => rfl) dX1_listTogether_3 rfl (fun _ => ?_)
  refine sn_aload_n (v := a3) (pc' := 7) dX1_listTogether_6 rfl rfl rfl ?_
  refine sn_cV (r := a3) (st := []) (As := []) (st2 := (fun _ => [])) (pc' := 10) ci_9 (fun t => c_X8_clear G t ) cw_X8_clear rfl rfl tw1267 tw356 tw355 rfl rfl cat_nil rfl (fun _ => rfl) dX1_listTogether_7 rfl (fun _ => ?_)
  refine sn_iconst (v := (0 : Int32)) (pc' := 11) dX1_listTogether_10 rfl (by decide) ?_
  refine sn_istore (v := (0 : Int32)) (L' := [some (va_rf (some this)), some (va_rf a1), some (va_rf a2), some (va_rf a3), some (.int (0 : Int32))]) (pc' := 13) dX1_listTogether_11 rfl rfl rfl ?_
  exact sn_weak (le_s (le_s (le_n (le_s (le_s le_e))))) (s_X1_listTogether_13 G LFU this a1 a3 (0 : Int32))
theorem c_X1_listTogether (G : GG) (this : Nat) (a1 : Option Nat) (a2 : Option Nat) (a3 : Option Nat) : Cal G yX1_listTogether cX1_listTogether 5 none 2 47 (fun _ : Unit => none) (X1_listTogether this a1 a2 a3) [.ref this, va_rf a1, va_rf a2, va_rf a3] :=
  Cal.of (by decide) (cat_t (cat_q (cat_q (cat_q cat_nil)))) rfl (sn_weak (le_s (le_s (le_s (le_s (le_z le_e))))) (s_X1_listTogether G this a1 a2 a3))
theorem cw_X1_listTogether : CW yX1_listTogether cX1_listTogether 5 none 3 := ⟨tw1266, tw9, by decide, by decide +kernel⟩
/-! X11_together -/
theorem dX11_together_0 : decode cX11_together 0 = .ok (.aload_n 0, 1) := by decide +kernel
theorem dX11_together_1 : decode cX11_together 1 = .ok (.iload_n 1, 1) := by decide +kernel
theorem dX11_together_2 : decode cX11_together 2 = .ok (.invokevirtual 197, 3) := by decide +kernel
theorem dX11_together_5 : decode cX11_together 5 = .ok (.astore_n 3, 1) := by decide +kernel
theorem dX11_together_6 : decode cX11_together 6 = .ok (.aload_n 0, 1) := by decide +kernel
theorem dX11_together_7 : decode cX11_together 7 = .ok (.iload_n 2, 1) := by decide +kernel
theorem dX11_together_8 : decode cX11_together 8 = .ok (.invokevirtual 197, 3) := by decide +kernel
theorem dX11_together_11 : decode cX11_together 11 = .ok (.astore 4, 2) := by decide +kernel
theorem dX11_together_13 : decode cX11_together 13 = .ok (.aload_n 3, 1) := by decide +kernel
theorem dX11_together_14 : decode cX11_together 14 = .ok (.ifnull 8, 3) := by decide +kernel
theorem dX11_together_17 : decode cX11_together 17 = .ok (.aload 4, 2) := by decide +kernel
theorem dX11_together_19 : decode cX11_together 19 = .ok (.ifnonnull 9, 3) := by decide +kernel
theorem dX11_together_22 : decode cX11_together 22 = .ok (.aload_n 0, 1) := by decide +kernel
theorem dX11_together_23 : decode cX11_together 23 = .ok (.iconst 1, 1) := by decide +kernel
theorem dX11_together_24 : decode cX11_together 24 = .ok (.invokevirtual 71, 3) := by decide +kernel
theorem dX11_together_27 : decode cX11_together 27 = .ok (.ireturn, 1) := by decide +kernel
theorem dX11_together_28 : decode cX11_together 28 = .ok (.aload_n 3, 1) := by decide +kernel
theorem dX11_together_29 : decode cX11_together 29 = .ok (.getfield 201, 3) := by decide +kernel
theorem dX11_together_32 : decode cX11_together 32 = .ok (.aload 4, 2) := by decide +kernel
theorem dX11_together_34 : decode cX11_together 34 = .ok (.getfield 201, 3) := by decide +kernel
theorem dX11_together_37 : decode cX11_together 37 = .ok (.if_icmp .eq 9, 3) := by decide +kernel
theorem dX11_together_40 : decode cX11_together 40 = .ok (.aload_n 0, 1) := by decide +kernel
theorem dX11_together_41 : decode cX11_together 41 = .ok (.iconst 4, 1) := by decide +kernel
theorem dX11_together_42 : decode cX11_together 42 = .ok (.invokevirtual 71, 3) := by decide +kernel
theorem dX11_together_45 : decode cX11_together 45 = .ok (.ireturn, 1) := by decide +kernel
theorem dX11_together_46 : decode cX11_together 46 = .ok (.aload_n 0, 1) := by decide +kernel
theorem dX11_together_47 : decode cX11_together 47 = .ok (.getfield 44, 3) := by decide +kernel
theorem dX11_together_50 : decode cX11_together 50 = .ok (.aload_n 3, 1) := by decide +kernel
theorem dX11_together_51 : decode cX11_together 51 = .ok (.aload 4, 2) := by decide +kernel
theorem dX11_together_53 : decode cX11_together 53 = .ok (.aload_n 0, 1) := by decide +kernel
theorem dX11_together_54 : decode cX11_together 54 = .ok (.getfield 37, 3) := by decide +kernel
theorem dX11_together_57 : decode cX11_together 57 = .ok (.invokevirtual 223, 3) := by decide +kernel
theorem dX11_together_60 : decode cX11_together 60 = .ok (.aload_n 0, 1) := by decide +kernel
theorem dX11_together_61 : decode cX11_together 61 = .ok (.aload_n 3, 1) := by decide +kernel
theorem dX11_together_62 : decode cX11_together 62 = .ok (.getfield 201, 3) := by decide +kernel
theorem dX11_together_65 : decode cX11_together 65 = .ok (.aload_n 3, 1) := by decide +kernel
theorem dX11_together_66 : decode cX11_together 66 = .ok (.getfield 227, 3) := by decide +kernel
theorem dX11_together_69 : decode cX11_together 69 = .ok (.invokevirtual 119, 3) := by decide +kernel
theorem dX11_together_72 : decode cX11_together 72 = .ok (.ireturn, 1) := by decide +kernel
def X11_together_22  (this : Nat) : MM Int32 :=
  mb (wc 12 (some this) fun t => X11_refuse t (1 : Int32)) fun v1 =>
  mr v1
def X11_together (this : Nat) (a1 : Int32) (a2 : Int32) : MM Int32 :=
  mb (wc 12 (some this) fun t => X11_copyAt t a1) fun v1 =>
  mb (wc 12 (some this) fun t => X11_copyAt t a2) fun v2 =>
  if v1 = none then ((X11_together_22 this)) else (if v2 = none then ((X11_together_22 this)) else (mb (gI 4 v1 0) fun v3 =>
  mb (gI 4 v2 0) fun v4 =>
  if v3 = v4 then (mb (gR 12 (some this) 4) fun v5 =>
  mb (gR 12 (some this) 3) fun v6 =>
  mb (wc 3 v5 fun t => X1_listTogether t v1 v2 v6) fun _ =>
  mb (gI 4 v1 0) fun v7 =>
  mb (gR 4 v1 1) fun v8 =>
  mb (wc 12 (some this) fun t => X11_keepCopy t v7 v8) fun v9 =>
  mr v9) else (mb (wc 12 (some this) fun t => X11_refuse t (4 : Int32)) fun v10 =>
  mr v10)))
set_option maxRecDepth 100000 in
set_option maxHeartbeats 4000000 in
theorem s_X11_together_22 (G : GG)   (this : Nat) : Sn G yX11_together cX11_together 5 (some FieldType.int) 11 243 (fun v : Int32 => some (.int v)) (X11_together_22  this) 22 [some (va_rf (some this)), none, none, none, none] [] := by
  unfold X11_together_22
  refine sn_aload_n (v := (some this)) (pc' := 23) dX11_together_22 rfl rfl rfl ?_
  refine sn_iconst (v := (1 : Int32)) (pc' := 24) dX11_together_23 rfl (by decide) ?_
  refine sn_cV (r := (some this)) (st := []) (As := [.int (1 : Int32)]) (st2 := (fun v => .int v :: [])) (pc' := 27) ci_12 (fun t => c_X11_refuse G t (1 : Int32)) cw_X11_refuse rfl rfl tw318 pw0 tw320 rfl rfl cat_nil rfl (fun _ => rfl) dX11_together_24 rfl (fun v1 => ?_)
  exact sn_iret dX11_together_27 rfl rfl
set_option maxRecDepth 100000 in
set_option maxHeartbeats 4000000 in
theorem s_X11_together (G : GG) (this : Nat) (a1 : Int32) (a2 : Int32) : Sn G yX11_together cX11_together 5 (some FieldType.int) 11 243 (fun v : Int32 => some (.int v)) (X11_together this a1 a2) 0 [some (va_rf (some this)), some (.int a1), some (.int a2), none, none] [] := by
  unfold X11_together
  refine sn_aload_n (v := (some this)) (pc' := 1) dX11_together_0 rfl rfl rfl ?_
  refine sn_iload_n (v := a1) (pc' := 2) dX11_together_1 rfl rfl rfl ?_
  refine sn_cV (r := (some this)) (st := []) (As := [.int a1]) (st2 := (fun v => va_rf v :: [])) (pc' := 5) ci_12 (fun t => c_X11_copyAt G t a1) cw_X11_copyAt rfl rfl tw1222 pw41 tw1224 rfl rfl cat_nil rfl (fun _ => rfl) dX11_together_2 rfl (fun v1 => ?_)
  refine sn_astore_n (v := v1) (L' := [some (va_rf (some this)), some (.int a1), some (.int a2), some (va_rf v1), none]) (pc' := 6) dX11_together_5 rfl rfl rfl rfl ?_
  refine sn_aload_n (v := (some this)) (pc' := 7) dX11_together_6 rfl rfl rfl ?_
  refine sn_iload_n (v := a2) (pc' := 8) dX11_together_7 rfl rfl rfl ?_
  refine sn_cV (r := (some this)) (st := []) (As := [.int a2]) (st2 := (fun v => va_rf v :: [])) (pc' := 11) ci_12 (fun t => c_X11_copyAt G t a2) cw_X11_copyAt rfl rfl tw1222 pw41 tw1224 rfl rfl cat_nil rfl (fun _ => rfl) dX11_together_8 rfl (fun v2 => ?_)
  refine sn_astore (v := v2) (L' := [some (va_rf (some this)), some (.int a1), some (.int a2), some (va_rf v1), some (va_rf v2)]) (pc' := 13) dX11_together_11 rfl rfl rfl ?_
  refine sn_aload_n (v := v1) (pc' := 14) dX11_together_13 rfl rfl rfl ?_
  refine sn_ifnull (pt := 22) (pf := 17) dX11_together_14 rfl rfl ?_ ?_
  · exact sn_weak (le_s (le_n (le_n (le_n (le_n le_e))))) (s_X11_together_22 G this)
  · refine sn_aload (v := v2) (pc' := 19) dX11_together_17 rfl rfl ?_
    refine sn_ifnonnull (pt := 28) (pf := 22) dX11_together_19 rfl rfl ?_ ?_
    · exact sn_weak (le_s (le_n (le_n (le_n (le_n le_e))))) (s_X11_together_22 G this)
    · refine sn_aload_n (v := v1) (pc' := 29) dX11_together_28 rfl rfl rfl ?_
      refine sn_gI (k := 0) (pc' := 32) ci_4 rfl (Or.inr ⟨_, nw987⟩) dX11_together_29 rfl (fun v3 => ?_)
      refine sn_aload (v := v2) (pc' := 34) dX11_together_32 rfl rfl ?_
      refine sn_gI (k := 0) (pc' := 37) ci_4 rfl (Or.inr ⟨_, nw987⟩) dX11_together_34 rfl (fun v4 => ?_)
      refine sn_ic_eq (pt := 46) (pf := 40) dX11_together_37 rfl rfl ?_ ?_
      · refine sn_aload_n (v := (some this)) (pc' := 47) dX11_together_46 rfl rfl rfl ?_
        refine sn_gR (k := 4) (pc' := 50) ci_12 rfl (Or.inl tw277) dX11_together_47 rfl (fun v5 => ?_)
        refine sn_aload_n (v := v1) (pc' := 51) dX11_together_50 rfl rfl rfl ?_
        refine sn_aload (v := v2) (pc' := 53) dX11_together_51 rfl rfl ?_
        refine sn_aload_n (v := (some this)) (pc' := 54) dX11_together_53 rfl rfl rfl ?_
        refine sn_gR (k := 3) (pc' := 57) ci_12 rfl (Or.inl tw276) dX11_together_54 rfl (fun v6 => ?_)
        refine sn_cV (r := v5) (st := []) (As := [va_rf v1, va_rf v2, va_rf v6]) (st2 := (fun _ => [])) (pc' := 60) ci_3 (fun t => c_X1_listTogether G t v1 v2 v6) cw_X1_listTogether rfl rfl tw1263 tw1265 tw1264 rfl rfl cat_nil rfl (fun _ => rfl) dX11_together_57 rfl (fun _ => ?_)
        refine sn_aload_n (v := (some this)) (pc' := 61) dX11_together_60 rfl rfl rfl ?_
        refine sn_aload_n (v := v1) (pc' := 62) dX11_together_61 rfl rfl rfl ?_
        refine sn_gI (k := 0) (pc' := 65) ci_4 rfl (Or.inr ⟨_, nw987⟩) dX11_together_62 rfl (fun v7 => ?_)
        refine sn_aload_n (v := v1) (pc' := 66) dX11_together_65 rfl rfl rfl ?_
        refine sn_gR (k := 1) (pc' := 69) ci_4 rfl (Or.inr ⟨_, nw991⟩) dX11_together_66 rfl (fun v8 => ?_)
        refine sn_cV (r := (some this)) (st := []) (As := [.int v7, va_rf v8]) (st2 := (fun v => .int v :: [])) (pc' := 72) ci_12 (fun t => c_X11_keepCopy G t v7 v8) cw_X11_keepCopy rfl rfl tw967 pw27 tw969 rfl rfl cat_nil rfl (fun _ => rfl) dX11_together_69 rfl (fun v9 => ?_)
        exact sn_iret dX11_together_72 rfl rfl
      · refine sn_aload_n (v := (some this)) (pc' := 41) dX11_together_40 rfl rfl rfl ?_
        refine sn_iconst (v := (4 : Int32)) (pc' := 42) dX11_together_41 rfl (by decide) ?_
        refine sn_cV (r := (some this)) (st := []) (As := [.int (4 : Int32)]) (st2 := (fun v => .int v :: [])) (pc' := 45) ci_12 (fun t => c_X11_refuse G t (4 : Int32)) cw_X11_refuse rfl rfl tw318 pw0 tw320 rfl rfl cat_nil rfl (fun _ => rfl) dX11_together_42 rfl (fun v10 => ?_)
        exact sn_iret dX11_together_45 rfl rfl
theorem c_X11_together (G : GG) (this : Nat) (a1 : Int32) (a2 : Int32) : Cal G yX11_together cX11_together 5 (some FieldType.int) 11 243 (fun v : Int32 => some (.int v)) (X11_together this a1 a2) [.ref this, .int a1, .int a2] :=
  Cal.of (by decide) (cat_t (cat_i (cat_i cat_nil))) rfl (sn_weak (le_s (le_s (le_s (le_z (le_z le_e))))) (s_X11_together G this a1 a2))
theorem cw_X11_together : CW yX11_together cX11_together 5 (some FieldType.int) 2 := ⟨tw1262, tw1, by decide, by decide +kernel⟩
/-! X11_status -/
theorem dX11_status_0 : decode cX11_status 0 = .ok (.aload_n 0, 1) := by decide +kernel
theorem dX11_status_1 : decode cX11_status 1 = .ok (.getfield 231, 3) := by decide +kernel
theorem dX11_status_4 : decode cX11_status 4 = .ok (.ireturn, 1) := by decide +kernel
def X11_status (this : Nat) : MM Int32 :=
  mb (gI 12 (some this) 11) fun v1 =>
  mr v1
set_option maxRecDepth 100000 in
set_option maxHeartbeats 4000000 in
theorem s_X11_status (G : GG) (this : Nat) : Sn G yX11_status cX11_status 1 (some FieldType.int) 0 0 (fun v : Int32 => some (.int v)) (X11_status this) 0 [some (va_rf (some this))] [] := by
  unfold X11_status
  refine sn_aload_n (v := (some this)) (pc' := 1) dX11_status_0 rfl rfl rfl ?_
  refine sn_gI (k := 11) (pc' := 4) ci_12 rfl (Or.inl tw284) dX11_status_1 rfl (fun v1 => ?_)
  exact sn_iret dX11_status_4 rfl rfl
theorem c_X11_status (G : GG) (this : Nat) : Cal G yX11_status cX11_status 1 (some FieldType.int) 0 0 (fun v : Int32 => some (.int v)) (X11_status this) [.ref this] :=
  Cal.of (by decide) (cat_t cat_nil) rfl (sn_weak (le_s le_e) (s_X11_status G this))
theorem cw_X11_status : CW yX11_status cX11_status 1 (some FieldType.int) 0 := ⟨tw1271, tw1, by decide, by decide +kernel⟩
