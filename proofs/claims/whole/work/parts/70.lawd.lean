/-! ===== the law, walked ===== -/
abbrev cLW : ByteArray := code
abbrev yLW : MethodName := x
theorem tw0 : (Jvm.Cond.initialized "LeafFormulaLaw") ∈ gtbl := gt_of 93 (by decide +kernel) (by decide +kernel)
theorem tw27 : (Jvm.Cond.classLink "LeafFormulaLaw" (7 : Nat) "LeafFormula") ∈ gtbl := gt_of 120 (by decide +kernel) (by decide +kernel)
theorem tw28 : (Jvm.Cond.instantiable "LeafFormula" (12 : Nat)) ∈ gtbl := gt_of 121 (by decide +kernel) (by decide +kernel)
theorem tw29 : (Jvm.Cond.methodLink "LeafFormulaLaw" (9 : Nat) ({ cls := "LeafFormula", name := "<init>", desc := "()V" } : Jvm.MethodName)) ∈ gtbl := gt_of 122 (by decide +kernel) (by decide +kernel)
theorem tw30 : (Jvm.Cond.instanceMethod ({ cls := "LeafFormula", name := "<init>", desc := "()V" } : Jvm.MethodName)) ∈ gtbl := gt_of 123 (by decide +kernel) (by decide +kernel)
theorem tw310 : (Jvm.Cond.methodLink "LeafFormulaLaw" (13 : Nat) ({ cls := "LeafFormula", name := "feed", desc := "(IIIII)I" } : Jvm.MethodName)) ∈ gtbl := gt_of 403 (by decide +kernel) (by decide +kernel)
theorem tw311 : (Jvm.Cond.instanceMethod ({ cls := "LeafFormula", name := "feed", desc := "(IIIII)I" } : Jvm.MethodName)) ∈ gtbl := gt_of 404 (by decide +kernel) (by decide +kernel)
theorem tw312 : (Jvm.Cond.selects "LeafFormula" ({ cls := "LeafFormula", name := "feed", desc := "(IIIII)I" } : Jvm.MethodName) ({ cls := "LeafFormula", name := "feed", desc := "(IIIII)I" } : Jvm.MethodName)) ∈ gtbl := gt_of 405 (by decide +kernel) (by decide +kernel)
theorem tw330 : (Jvm.Cond.methodLink "LeafFormulaLaw" (18 : Nat) ({ cls := "LeafFormula", name := "end", desc := "(I)I" } : Jvm.MethodName)) ∈ gtbl := gt_of 423 (by decide +kernel) (by decide +kernel)
theorem tw331 : (Jvm.Cond.instanceMethod ({ cls := "LeafFormula", name := "end", desc := "(I)I" } : Jvm.MethodName)) ∈ gtbl := gt_of 424 (by decide +kernel) (by decide +kernel)
theorem tw332 : (Jvm.Cond.selects "LeafFormula" ({ cls := "LeafFormula", name := "end", desc := "(I)I" } : Jvm.MethodName) ({ cls := "LeafFormula", name := "end", desc := "(I)I" } : Jvm.MethodName)) ∈ gtbl := gt_of 425 (by decide +kernel) (by decide +kernel)
theorem tw338 : (Jvm.Cond.methodLink "LeafFormulaLaw" (23 : Nat) ({ cls := "LeafFormula", name := "book", desc := "()I" } : Jvm.MethodName)) ∈ gtbl := gt_of 431 (by decide +kernel) (by decide +kernel)
theorem tw339 : (Jvm.Cond.instanceMethod ({ cls := "LeafFormula", name := "book", desc := "()I" } : Jvm.MethodName)) ∈ gtbl := gt_of 432 (by decide +kernel) (by decide +kernel)
theorem tw340 : (Jvm.Cond.selects "LeafFormula" ({ cls := "LeafFormula", name := "book", desc := "()I" } : Jvm.MethodName) ({ cls := "LeafFormula", name := "book", desc := "()I" } : Jvm.MethodName)) ∈ gtbl := gt_of 433 (by decide +kernel) (by decide +kernel)
theorem tw906 : (Jvm.Cond.methodLink "LeafFormulaLaw" (28 : Nat) ({ cls := "LeafFormula", name := "change", desc := "(I)I" } : Jvm.MethodName)) ∈ gtbl := gt_of 999 (by decide +kernel) (by decide +kernel)
theorem tw907 : (Jvm.Cond.instanceMethod ({ cls := "LeafFormula", name := "change", desc := "(I)I" } : Jvm.MethodName)) ∈ gtbl := gt_of 1000 (by decide +kernel) (by decide +kernel)
theorem tw908 : (Jvm.Cond.selects "LeafFormula" ({ cls := "LeafFormula", name := "change", desc := "(I)I" } : Jvm.MethodName) ({ cls := "LeafFormula", name := "change", desc := "(I)I" } : Jvm.MethodName)) ∈ gtbl := gt_of 1001 (by decide +kernel) (by decide +kernel)
theorem tw925 : (Jvm.Cond.methodLink "LeafFormulaLaw" (32 : Nat) ({ cls := "LeafFormula", name := "copy", desc := "(I)I" } : Jvm.MethodName)) ∈ gtbl := gt_of 1018 (by decide +kernel) (by decide +kernel)
theorem tw926 : (Jvm.Cond.instanceMethod ({ cls := "LeafFormula", name := "copy", desc := "(I)I" } : Jvm.MethodName)) ∈ gtbl := gt_of 1019 (by decide +kernel) (by decide +kernel)
theorem tw927 : (Jvm.Cond.selects "LeafFormula" ({ cls := "LeafFormula", name := "copy", desc := "(I)I" } : Jvm.MethodName) ({ cls := "LeafFormula", name := "copy", desc := "(I)I" } : Jvm.MethodName)) ∈ gtbl := gt_of 1020 (by decide +kernel) (by decide +kernel)
theorem tw1092 : (Jvm.Cond.methodLink "LeafFormulaLaw" (36 : Nat) ({ cls := "LeafFormula", name := "find", desc := "(I)I" } : Jvm.MethodName)) ∈ gtbl := gt_of 1185 (by decide +kernel) (by decide +kernel)
theorem tw1093 : (Jvm.Cond.instanceMethod ({ cls := "LeafFormula", name := "find", desc := "(I)I" } : Jvm.MethodName)) ∈ gtbl := gt_of 1186 (by decide +kernel) (by decide +kernel)
theorem tw1094 : (Jvm.Cond.selects "LeafFormula" ({ cls := "LeafFormula", name := "find", desc := "(I)I" } : Jvm.MethodName) ({ cls := "LeafFormula", name := "find", desc := "(I)I" } : Jvm.MethodName)) ∈ gtbl := gt_of 1187 (by decide +kernel) (by decide +kernel)
theorem tw1101 : (Jvm.Cond.methodLink "LeafFormulaLaw" (40 : Nat) ({ cls := "LeafFormula", name := "place", desc := "()I" } : Jvm.MethodName)) ∈ gtbl := gt_of 1194 (by decide +kernel) (by decide +kernel)
theorem tw1102 : (Jvm.Cond.instanceMethod ({ cls := "LeafFormula", name := "place", desc := "()I" } : Jvm.MethodName)) ∈ gtbl := gt_of 1195 (by decide +kernel) (by decide +kernel)
theorem tw1103 : (Jvm.Cond.selects "LeafFormula" ({ cls := "LeafFormula", name := "place", desc := "()I" } : Jvm.MethodName) ({ cls := "LeafFormula", name := "place", desc := "()I" } : Jvm.MethodName)) ∈ gtbl := gt_of 1196 (by decide +kernel) (by decide +kernel)
theorem tw1105 : (Jvm.Cond.methodLink "LeafFormulaLaw" (44 : Nat) ({ cls := "LeafFormula", name := "fault", desc := "()I" } : Jvm.MethodName)) ∈ gtbl := gt_of 1198 (by decide +kernel) (by decide +kernel)
theorem tw1106 : (Jvm.Cond.instanceMethod ({ cls := "LeafFormula", name := "fault", desc := "()I" } : Jvm.MethodName)) ∈ gtbl := gt_of 1199 (by decide +kernel) (by decide +kernel)
theorem tw1107 : (Jvm.Cond.selects "LeafFormula" ({ cls := "LeafFormula", name := "fault", desc := "()I" } : Jvm.MethodName) ({ cls := "LeafFormula", name := "fault", desc := "()I" } : Jvm.MethodName)) ∈ gtbl := gt_of 1200 (by decide +kernel) (by decide +kernel)
theorem tw1109 : (Jvm.Cond.methodLink "LeafFormulaLaw" (48 : Nat) ({ cls := "LeafFormula", name := "count", desc := "(I)I" } : Jvm.MethodName)) ∈ gtbl := gt_of 1202 (by decide +kernel) (by decide +kernel)
theorem tw1110 : (Jvm.Cond.instanceMethod ({ cls := "LeafFormula", name := "count", desc := "(I)I" } : Jvm.MethodName)) ∈ gtbl := gt_of 1203 (by decide +kernel) (by decide +kernel)
theorem tw1111 : (Jvm.Cond.selects "LeafFormula" ({ cls := "LeafFormula", name := "count", desc := "(I)I" } : Jvm.MethodName) ({ cls := "LeafFormula", name := "count", desc := "(I)I" } : Jvm.MethodName)) ∈ gtbl := gt_of 1204 (by decide +kernel) (by decide +kernel)
theorem tw1113 : (Jvm.Cond.methodLink "LeafFormulaLaw" (52 : Nat) ({ cls := "LeafFormula", name := "gatherings", desc := "(I)I" } : Jvm.MethodName)) ∈ gtbl := gt_of 1206 (by decide +kernel) (by decide +kernel)
theorem tw1114 : (Jvm.Cond.instanceMethod ({ cls := "LeafFormula", name := "gatherings", desc := "(I)I" } : Jvm.MethodName)) ∈ gtbl := gt_of 1207 (by decide +kernel) (by decide +kernel)
theorem tw1115 : (Jvm.Cond.selects "LeafFormula" ({ cls := "LeafFormula", name := "gatherings", desc := "(I)I" } : Jvm.MethodName) ({ cls := "LeafFormula", name := "gatherings", desc := "(I)I" } : Jvm.MethodName)) ∈ gtbl := gt_of 1208 (by decide +kernel) (by decide +kernel)
theorem tw1117 : (Jvm.Cond.methodLink "LeafFormulaLaw" (56 : Nat) ({ cls := "LeafFormula", name := "gathering", desc := "(III)I" } : Jvm.MethodName)) ∈ gtbl := gt_of 1210 (by decide +kernel) (by decide +kernel)
theorem tw1118 : (Jvm.Cond.instanceMethod ({ cls := "LeafFormula", name := "gathering", desc := "(III)I" } : Jvm.MethodName)) ∈ gtbl := gt_of 1211 (by decide +kernel) (by decide +kernel)
theorem tw1119 : (Jvm.Cond.selects "LeafFormula" ({ cls := "LeafFormula", name := "gathering", desc := "(III)I" } : Jvm.MethodName) ({ cls := "LeafFormula", name := "gathering", desc := "(III)I" } : Jvm.MethodName)) ∈ gtbl := gt_of 1212 (by decide +kernel) (by decide +kernel)
theorem tw1133 : (Jvm.Cond.methodLink "LeafFormulaLaw" (61 : Nat) ({ cls := "LeafFormula", name := "leaves", desc := "(I)I" } : Jvm.MethodName)) ∈ gtbl := gt_of 1226 (by decide +kernel) (by decide +kernel)
theorem tw1134 : (Jvm.Cond.instanceMethod ({ cls := "LeafFormula", name := "leaves", desc := "(I)I" } : Jvm.MethodName)) ∈ gtbl := gt_of 1227 (by decide +kernel) (by decide +kernel)
theorem tw1135 : (Jvm.Cond.selects "LeafFormula" ({ cls := "LeafFormula", name := "leaves", desc := "(I)I" } : Jvm.MethodName) ({ cls := "LeafFormula", name := "leaves", desc := "(I)I" } : Jvm.MethodName)) ∈ gtbl := gt_of 1228 (by decide +kernel) (by decide +kernel)
theorem tw1138 : (Jvm.Cond.methodLink "LeafFormulaLaw" (65 : Nat) ({ cls := "LeafFormula", name := "leaf", desc := "(III)I" } : Jvm.MethodName)) ∈ gtbl := gt_of 1231 (by decide +kernel) (by decide +kernel)
theorem tw1139 : (Jvm.Cond.instanceMethod ({ cls := "LeafFormula", name := "leaf", desc := "(III)I" } : Jvm.MethodName)) ∈ gtbl := gt_of 1232 (by decide +kernel) (by decide +kernel)
theorem tw1140 : (Jvm.Cond.selects "LeafFormula" ({ cls := "LeafFormula", name := "leaf", desc := "(III)I" } : Jvm.MethodName) ({ cls := "LeafFormula", name := "leaf", desc := "(III)I" } : Jvm.MethodName)) ∈ gtbl := gt_of 1233 (by decide +kernel) (by decide +kernel)
theorem tw1151 : (Jvm.Cond.methodLink "LeafFormulaLaw" (69 : Nat) ({ cls := "LeafFormula", name := "letter", desc := "(II)I" } : Jvm.MethodName)) ∈ gtbl := gt_of 1244 (by decide +kernel) (by decide +kernel)
theorem tw1152 : (Jvm.Cond.instanceMethod ({ cls := "LeafFormula", name := "letter", desc := "(II)I" } : Jvm.MethodName)) ∈ gtbl := gt_of 1245 (by decide +kernel) (by decide +kernel)
theorem tw1153 : (Jvm.Cond.selects "LeafFormula" ({ cls := "LeafFormula", name := "letter", desc := "(II)I" } : Jvm.MethodName) ({ cls := "LeafFormula", name := "letter", desc := "(II)I" } : Jvm.MethodName)) ∈ gtbl := gt_of 1246 (by decide +kernel) (by decide +kernel)
theorem tw1161 : (Jvm.Cond.methodLink "LeafFormulaLaw" (74 : Nat) ({ cls := "LeafFormula", name := "name", desc := "(III)I" } : Jvm.MethodName)) ∈ gtbl := gt_of 1254 (by decide +kernel) (by decide +kernel)
theorem tw1162 : (Jvm.Cond.instanceMethod ({ cls := "LeafFormula", name := "name", desc := "(III)I" } : Jvm.MethodName)) ∈ gtbl := gt_of 1255 (by decide +kernel) (by decide +kernel)
theorem tw1163 : (Jvm.Cond.selects "LeafFormula" ({ cls := "LeafFormula", name := "name", desc := "(III)I" } : Jvm.MethodName) ({ cls := "LeafFormula", name := "name", desc := "(III)I" } : Jvm.MethodName)) ∈ gtbl := gt_of 1256 (by decide +kernel) (by decide +kernel)
theorem tw1169 : (Jvm.Cond.methodLink "LeafFormulaLaw" (78 : Nat) ({ cls := "LeafFormula", name := "same", desc := "(II)I" } : Jvm.MethodName)) ∈ gtbl := gt_of 1262 (by decide +kernel) (by decide +kernel)
theorem tw1170 : (Jvm.Cond.instanceMethod ({ cls := "LeafFormula", name := "same", desc := "(II)I" } : Jvm.MethodName)) ∈ gtbl := gt_of 1263 (by decide +kernel) (by decide +kernel)
theorem tw1171 : (Jvm.Cond.selects "LeafFormula" ({ cls := "LeafFormula", name := "same", desc := "(II)I" } : Jvm.MethodName) ({ cls := "LeafFormula", name := "same", desc := "(II)I" } : Jvm.MethodName)) ∈ gtbl := gt_of 1264 (by decide +kernel) (by decide +kernel)
theorem tw1181 : (Jvm.Cond.methodLink "LeafFormulaLaw" (82 : Nat) ({ cls := "LeafFormula", name := "sheets", desc := "(II)I" } : Jvm.MethodName)) ∈ gtbl := gt_of 1274 (by decide +kernel) (by decide +kernel)
theorem tw1182 : (Jvm.Cond.instanceMethod ({ cls := "LeafFormula", name := "sheets", desc := "(II)I" } : Jvm.MethodName)) ∈ gtbl := gt_of 1275 (by decide +kernel) (by decide +kernel)
theorem tw1183 : (Jvm.Cond.selects "LeafFormula" ({ cls := "LeafFormula", name := "sheets", desc := "(II)I" } : Jvm.MethodName) ({ cls := "LeafFormula", name := "sheets", desc := "(II)I" } : Jvm.MethodName)) ∈ gtbl := gt_of 1276 (by decide +kernel) (by decide +kernel)
theorem tw1196 : (Jvm.Cond.methodLink "LeafFormulaLaw" (86 : Nat) ({ cls := "LeafFormula", name := "sheet", desc := "(IIII)I" } : Jvm.MethodName)) ∈ gtbl := gt_of 1289 (by decide +kernel) (by decide +kernel)
theorem tw1197 : (Jvm.Cond.instanceMethod ({ cls := "LeafFormula", name := "sheet", desc := "(IIII)I" } : Jvm.MethodName)) ∈ gtbl := gt_of 1290 (by decide +kernel) (by decide +kernel)
theorem tw1198 : (Jvm.Cond.selects "LeafFormula" ({ cls := "LeafFormula", name := "sheet", desc := "(IIII)I" } : Jvm.MethodName) ({ cls := "LeafFormula", name := "sheet", desc := "(IIII)I" } : Jvm.MethodName)) ∈ gtbl := gt_of 1291 (by decide +kernel) (by decide +kernel)
theorem tw1209 : (Jvm.Cond.methodLink "LeafFormulaLaw" (91 : Nat) ({ cls := "LeafFormula", name := "forme", desc := "(IIII)I" } : Jvm.MethodName)) ∈ gtbl := gt_of 1302 (by decide +kernel) (by decide +kernel)
theorem tw1210 : (Jvm.Cond.instanceMethod ({ cls := "LeafFormula", name := "forme", desc := "(IIII)I" } : Jvm.MethodName)) ∈ gtbl := gt_of 1303 (by decide +kernel) (by decide +kernel)
theorem tw1211 : (Jvm.Cond.selects "LeafFormula" ({ cls := "LeafFormula", name := "forme", desc := "(IIII)I" } : Jvm.MethodName) ({ cls := "LeafFormula", name := "forme", desc := "(IIII)I" } : Jvm.MethodName)) ∈ gtbl := gt_of 1304 (by decide +kernel) (by decide +kernel)
theorem tw1218 : (Jvm.Cond.methodLink "LeafFormulaLaw" (95 : Nat) ({ cls := "LeafFormula", name := "state", desc := "(II)I" } : Jvm.MethodName)) ∈ gtbl := gt_of 1311 (by decide +kernel) (by decide +kernel)
theorem tw1219 : (Jvm.Cond.instanceMethod ({ cls := "LeafFormula", name := "state", desc := "(II)I" } : Jvm.MethodName)) ∈ gtbl := gt_of 1312 (by decide +kernel) (by decide +kernel)
theorem tw1220 : (Jvm.Cond.selects "LeafFormula" ({ cls := "LeafFormula", name := "state", desc := "(II)I" } : Jvm.MethodName) ({ cls := "LeafFormula", name := "state", desc := "(II)I" } : Jvm.MethodName)) ∈ gtbl := gt_of 1313 (by decide +kernel) (by decide +kernel)
theorem tw1230 : (Jvm.Cond.methodLink "LeafFormulaLaw" (99 : Nat) ({ cls := "LeafFormula", name := "entry", desc := "(II)I" } : Jvm.MethodName)) ∈ gtbl := gt_of 1323 (by decide +kernel) (by decide +kernel)
theorem tw1231 : (Jvm.Cond.instanceMethod ({ cls := "LeafFormula", name := "entry", desc := "(II)I" } : Jvm.MethodName)) ∈ gtbl := gt_of 1324 (by decide +kernel) (by decide +kernel)
theorem tw1232 : (Jvm.Cond.selects "LeafFormula" ({ cls := "LeafFormula", name := "entry", desc := "(II)I" } : Jvm.MethodName) ({ cls := "LeafFormula", name := "entry", desc := "(II)I" } : Jvm.MethodName)) ∈ gtbl := gt_of 1325 (by decide +kernel) (by decide +kernel)
theorem tw1239 : (Jvm.Cond.methodLink "LeafFormulaLaw" (103 : Nat) ({ cls := "LeafFormula", name := "told", desc := "(III)I" } : Jvm.MethodName)) ∈ gtbl := gt_of 1332 (by decide +kernel) (by decide +kernel)
theorem tw1240 : (Jvm.Cond.instanceMethod ({ cls := "LeafFormula", name := "told", desc := "(III)I" } : Jvm.MethodName)) ∈ gtbl := gt_of 1333 (by decide +kernel) (by decide +kernel)
theorem tw1241 : (Jvm.Cond.selects "LeafFormula" ({ cls := "LeafFormula", name := "told", desc := "(III)I" } : Jvm.MethodName) ({ cls := "LeafFormula", name := "told", desc := "(III)I" } : Jvm.MethodName)) ∈ gtbl := gt_of 1334 (by decide +kernel) (by decide +kernel)
theorem tw1243 : (Jvm.Cond.methodLink "LeafFormulaLaw" (107 : Nat) ({ cls := "LeafFormula", name := "note", desc := "(II)I" } : Jvm.MethodName)) ∈ gtbl := gt_of 1336 (by decide +kernel) (by decide +kernel)
theorem tw1244 : (Jvm.Cond.instanceMethod ({ cls := "LeafFormula", name := "note", desc := "(II)I" } : Jvm.MethodName)) ∈ gtbl := gt_of 1337 (by decide +kernel) (by decide +kernel)
theorem tw1245 : (Jvm.Cond.selects "LeafFormula" ({ cls := "LeafFormula", name := "note", desc := "(II)I" } : Jvm.MethodName) ({ cls := "LeafFormula", name := "note", desc := "(II)I" } : Jvm.MethodName)) ∈ gtbl := gt_of 1338 (by decide +kernel) (by decide +kernel)
theorem tw1247 : (Jvm.Cond.methodLink "LeafFormulaLaw" (111 : Nat) ({ cls := "LeafFormula", name := "apart", desc := "(II)I" } : Jvm.MethodName)) ∈ gtbl := gt_of 1340 (by decide +kernel) (by decide +kernel)
theorem tw1248 : (Jvm.Cond.instanceMethod ({ cls := "LeafFormula", name := "apart", desc := "(II)I" } : Jvm.MethodName)) ∈ gtbl := gt_of 1341 (by decide +kernel) (by decide +kernel)
theorem tw1249 : (Jvm.Cond.selects "LeafFormula" ({ cls := "LeafFormula", name := "apart", desc := "(II)I" } : Jvm.MethodName) ({ cls := "LeafFormula", name := "apart", desc := "(II)I" } : Jvm.MethodName)) ∈ gtbl := gt_of 1342 (by decide +kernel) (by decide +kernel)
theorem tw1259 : (Jvm.Cond.methodLink "LeafFormulaLaw" (115 : Nat) ({ cls := "LeafFormula", name := "together", desc := "(II)I" } : Jvm.MethodName)) ∈ gtbl := gt_of 1352 (by decide +kernel) (by decide +kernel)
theorem tw1260 : (Jvm.Cond.instanceMethod ({ cls := "LeafFormula", name := "together", desc := "(II)I" } : Jvm.MethodName)) ∈ gtbl := gt_of 1353 (by decide +kernel) (by decide +kernel)
theorem tw1261 : (Jvm.Cond.selects "LeafFormula" ({ cls := "LeafFormula", name := "together", desc := "(II)I" } : Jvm.MethodName) ({ cls := "LeafFormula", name := "together", desc := "(II)I" } : Jvm.MethodName)) ∈ gtbl := gt_of 1354 (by decide +kernel) (by decide +kernel)
theorem tw1268 : (Jvm.Cond.methodLink "LeafFormulaLaw" (119 : Nat) ({ cls := "LeafFormula", name := "status", desc := "()I" } : Jvm.MethodName)) ∈ gtbl := gt_of 1361 (by decide +kernel) (by decide +kernel)
theorem tw1269 : (Jvm.Cond.instanceMethod ({ cls := "LeafFormula", name := "status", desc := "()I" } : Jvm.MethodName)) ∈ gtbl := gt_of 1362 (by decide +kernel) (by decide +kernel)
theorem tw1270 : (Jvm.Cond.selects "LeafFormula" ({ cls := "LeafFormula", name := "status", desc := "()I" } : Jvm.MethodName) ({ cls := "LeafFormula", name := "status", desc := "()I" } : Jvm.MethodName)) ∈ gtbl := gt_of 1363 (by decide +kernel) (by decide +kernel)
theorem tw1272 : (Jvm.Cond.classLink "LeafFormulaLaw" (10 : Nat) "LeafFormulaModel") ∈ gtbl := gt_of 1365 (by decide +kernel) (by decide +kernel)
theorem tw1273 : (Jvm.Cond.instantiable "LeafFormulaModel" (49 : Nat)) ∈ gtbl := gt_of 1366 (by decide +kernel) (by decide +kernel)
theorem tw1274 : (Jvm.Cond.methodLink "LeafFormulaLaw" (12 : Nat) ({ cls := "LeafFormulaModel", name := "<init>", desc := "()V" } : Jvm.MethodName)) ∈ gtbl := gt_of 1367 (by decide +kernel) (by decide +kernel)
theorem tw1275 : (Jvm.Cond.instanceMethod ({ cls := "LeafFormulaModel", name := "<init>", desc := "()V" } : Jvm.MethodName)) ∈ gtbl := gt_of 1368 (by decide +kernel) (by decide +kernel)
theorem tw1427 : (Jvm.Cond.methodLink "LeafFormulaLaw" (17 : Nat) ({ cls := "LeafFormulaModel", name := "feed", desc := "(IIIII)I" } : Jvm.MethodName)) ∈ gtbl := gt_of 1520 (by decide +kernel) (by decide +kernel)
theorem tw1428 : (Jvm.Cond.instanceMethod ({ cls := "LeafFormulaModel", name := "feed", desc := "(IIIII)I" } : Jvm.MethodName)) ∈ gtbl := gt_of 1521 (by decide +kernel) (by decide +kernel)
theorem tw1429 : (Jvm.Cond.selects "LeafFormulaModel" ({ cls := "LeafFormulaModel", name := "feed", desc := "(IIIII)I" } : Jvm.MethodName) ({ cls := "LeafFormulaModel", name := "feed", desc := "(IIIII)I" } : Jvm.MethodName)) ∈ gtbl := gt_of 1522 (by decide +kernel) (by decide +kernel)
theorem tw1439 : (Jvm.Cond.methodLink "LeafFormulaLaw" (22 : Nat) ({ cls := "LeafFormulaModel", name := "end", desc := "(I)I" } : Jvm.MethodName)) ∈ gtbl := gt_of 1532 (by decide +kernel) (by decide +kernel)
theorem tw1440 : (Jvm.Cond.instanceMethod ({ cls := "LeafFormulaModel", name := "end", desc := "(I)I" } : Jvm.MethodName)) ∈ gtbl := gt_of 1533 (by decide +kernel) (by decide +kernel)
theorem tw1441 : (Jvm.Cond.selects "LeafFormulaModel" ({ cls := "LeafFormulaModel", name := "end", desc := "(I)I" } : Jvm.MethodName) ({ cls := "LeafFormulaModel", name := "end", desc := "(I)I" } : Jvm.MethodName)) ∈ gtbl := gt_of 1534 (by decide +kernel) (by decide +kernel)
theorem tw1446 : (Jvm.Cond.methodLink "LeafFormulaLaw" (27 : Nat) ({ cls := "LeafFormulaModel", name := "book", desc := "()I" } : Jvm.MethodName)) ∈ gtbl := gt_of 1539 (by decide +kernel) (by decide +kernel)
theorem tw1447 : (Jvm.Cond.instanceMethod ({ cls := "LeafFormulaModel", name := "book", desc := "()I" } : Jvm.MethodName)) ∈ gtbl := gt_of 1540 (by decide +kernel) (by decide +kernel)
theorem tw1448 : (Jvm.Cond.selects "LeafFormulaModel" ({ cls := "LeafFormulaModel", name := "book", desc := "()I" } : Jvm.MethodName) ({ cls := "LeafFormulaModel", name := "book", desc := "()I" } : Jvm.MethodName)) ∈ gtbl := gt_of 1541 (by decide +kernel) (by decide +kernel)
theorem tw1550 : (Jvm.Cond.methodLink "LeafFormulaLaw" (31 : Nat) ({ cls := "LeafFormulaModel", name := "change", desc := "(I)I" } : Jvm.MethodName)) ∈ gtbl := gt_of 1643 (by decide +kernel) (by decide +kernel)
theorem tw1551 : (Jvm.Cond.instanceMethod ({ cls := "LeafFormulaModel", name := "change", desc := "(I)I" } : Jvm.MethodName)) ∈ gtbl := gt_of 1644 (by decide +kernel) (by decide +kernel)
theorem tw1552 : (Jvm.Cond.selects "LeafFormulaModel" ({ cls := "LeafFormulaModel", name := "change", desc := "(I)I" } : Jvm.MethodName) ({ cls := "LeafFormulaModel", name := "change", desc := "(I)I" } : Jvm.MethodName)) ∈ gtbl := gt_of 1645 (by decide +kernel) (by decide +kernel)
theorem tw1562 : (Jvm.Cond.methodLink "LeafFormulaLaw" (35 : Nat) ({ cls := "LeafFormulaModel", name := "copy", desc := "(I)I" } : Jvm.MethodName)) ∈ gtbl := gt_of 1655 (by decide +kernel) (by decide +kernel)
theorem tw1563 : (Jvm.Cond.instanceMethod ({ cls := "LeafFormulaModel", name := "copy", desc := "(I)I" } : Jvm.MethodName)) ∈ gtbl := gt_of 1656 (by decide +kernel) (by decide +kernel)
theorem tw1564 : (Jvm.Cond.selects "LeafFormulaModel" ({ cls := "LeafFormulaModel", name := "copy", desc := "(I)I" } : Jvm.MethodName) ({ cls := "LeafFormulaModel", name := "copy", desc := "(I)I" } : Jvm.MethodName)) ∈ gtbl := gt_of 1657 (by decide +kernel) (by decide +kernel)
theorem tw1578 : (Jvm.Cond.methodLink "LeafFormulaLaw" (39 : Nat) ({ cls := "LeafFormulaModel", name := "find", desc := "(I)I" } : Jvm.MethodName)) ∈ gtbl := gt_of 1671 (by decide +kernel) (by decide +kernel)
theorem tw1579 : (Jvm.Cond.instanceMethod ({ cls := "LeafFormulaModel", name := "find", desc := "(I)I" } : Jvm.MethodName)) ∈ gtbl := gt_of 1672 (by decide +kernel) (by decide +kernel)
theorem tw1580 : (Jvm.Cond.selects "LeafFormulaModel" ({ cls := "LeafFormulaModel", name := "find", desc := "(I)I" } : Jvm.MethodName) ({ cls := "LeafFormulaModel", name := "find", desc := "(I)I" } : Jvm.MethodName)) ∈ gtbl := gt_of 1673 (by decide +kernel) (by decide +kernel)
theorem tw1582 : (Jvm.Cond.methodLink "LeafFormulaLaw" (43 : Nat) ({ cls := "LeafFormulaModel", name := "place", desc := "()I" } : Jvm.MethodName)) ∈ gtbl := gt_of 1675 (by decide +kernel) (by decide +kernel)
theorem tw1583 : (Jvm.Cond.instanceMethod ({ cls := "LeafFormulaModel", name := "place", desc := "()I" } : Jvm.MethodName)) ∈ gtbl := gt_of 1676 (by decide +kernel) (by decide +kernel)
theorem tw1584 : (Jvm.Cond.selects "LeafFormulaModel" ({ cls := "LeafFormulaModel", name := "place", desc := "()I" } : Jvm.MethodName) ({ cls := "LeafFormulaModel", name := "place", desc := "()I" } : Jvm.MethodName)) ∈ gtbl := gt_of 1677 (by decide +kernel) (by decide +kernel)
theorem tw1586 : (Jvm.Cond.methodLink "LeafFormulaLaw" (47 : Nat) ({ cls := "LeafFormulaModel", name := "fault", desc := "()I" } : Jvm.MethodName)) ∈ gtbl := gt_of 1679 (by decide +kernel) (by decide +kernel)
theorem tw1587 : (Jvm.Cond.instanceMethod ({ cls := "LeafFormulaModel", name := "fault", desc := "()I" } : Jvm.MethodName)) ∈ gtbl := gt_of 1680 (by decide +kernel) (by decide +kernel)
theorem tw1588 : (Jvm.Cond.selects "LeafFormulaModel" ({ cls := "LeafFormulaModel", name := "fault", desc := "()I" } : Jvm.MethodName) ({ cls := "LeafFormulaModel", name := "fault", desc := "()I" } : Jvm.MethodName)) ∈ gtbl := gt_of 1681 (by decide +kernel) (by decide +kernel)
theorem tw1590 : (Jvm.Cond.methodLink "LeafFormulaLaw" (51 : Nat) ({ cls := "LeafFormulaModel", name := "count", desc := "(I)I" } : Jvm.MethodName)) ∈ gtbl := gt_of 1683 (by decide +kernel) (by decide +kernel)
theorem tw1591 : (Jvm.Cond.instanceMethod ({ cls := "LeafFormulaModel", name := "count", desc := "(I)I" } : Jvm.MethodName)) ∈ gtbl := gt_of 1684 (by decide +kernel) (by decide +kernel)
theorem tw1592 : (Jvm.Cond.selects "LeafFormulaModel" ({ cls := "LeafFormulaModel", name := "count", desc := "(I)I" } : Jvm.MethodName) ({ cls := "LeafFormulaModel", name := "count", desc := "(I)I" } : Jvm.MethodName)) ∈ gtbl := gt_of 1685 (by decide +kernel) (by decide +kernel)
theorem tw1594 : (Jvm.Cond.methodLink "LeafFormulaLaw" (55 : Nat) ({ cls := "LeafFormulaModel", name := "gatherings", desc := "(I)I" } : Jvm.MethodName)) ∈ gtbl := gt_of 1687 (by decide +kernel) (by decide +kernel)
theorem tw1595 : (Jvm.Cond.instanceMethod ({ cls := "LeafFormulaModel", name := "gatherings", desc := "(I)I" } : Jvm.MethodName)) ∈ gtbl := gt_of 1688 (by decide +kernel) (by decide +kernel)
theorem tw1596 : (Jvm.Cond.selects "LeafFormulaModel" ({ cls := "LeafFormulaModel", name := "gatherings", desc := "(I)I" } : Jvm.MethodName) ({ cls := "LeafFormulaModel", name := "gatherings", desc := "(I)I" } : Jvm.MethodName)) ∈ gtbl := gt_of 1689 (by decide +kernel) (by decide +kernel)
theorem tw1598 : (Jvm.Cond.methodLink "LeafFormulaLaw" (60 : Nat) ({ cls := "LeafFormulaModel", name := "gathering", desc := "(III)I" } : Jvm.MethodName)) ∈ gtbl := gt_of 1691 (by decide +kernel) (by decide +kernel)
theorem tw1599 : (Jvm.Cond.instanceMethod ({ cls := "LeafFormulaModel", name := "gathering", desc := "(III)I" } : Jvm.MethodName)) ∈ gtbl := gt_of 1692 (by decide +kernel) (by decide +kernel)
theorem tw1600 : (Jvm.Cond.selects "LeafFormulaModel" ({ cls := "LeafFormulaModel", name := "gathering", desc := "(III)I" } : Jvm.MethodName) ({ cls := "LeafFormulaModel", name := "gathering", desc := "(III)I" } : Jvm.MethodName)) ∈ gtbl := gt_of 1693 (by decide +kernel) (by decide +kernel)
theorem tw1602 : (Jvm.Cond.methodLink "LeafFormulaLaw" (64 : Nat) ({ cls := "LeafFormulaModel", name := "leaves", desc := "(I)I" } : Jvm.MethodName)) ∈ gtbl := gt_of 1695 (by decide +kernel) (by decide +kernel)
theorem tw1603 : (Jvm.Cond.instanceMethod ({ cls := "LeafFormulaModel", name := "leaves", desc := "(I)I" } : Jvm.MethodName)) ∈ gtbl := gt_of 1696 (by decide +kernel) (by decide +kernel)
theorem tw1604 : (Jvm.Cond.selects "LeafFormulaModel" ({ cls := "LeafFormulaModel", name := "leaves", desc := "(I)I" } : Jvm.MethodName) ({ cls := "LeafFormulaModel", name := "leaves", desc := "(I)I" } : Jvm.MethodName)) ∈ gtbl := gt_of 1697 (by decide +kernel) (by decide +kernel)
theorem tw1606 : (Jvm.Cond.methodLink "LeafFormulaLaw" (68 : Nat) ({ cls := "LeafFormulaModel", name := "leaf", desc := "(III)I" } : Jvm.MethodName)) ∈ gtbl := gt_of 1699 (by decide +kernel) (by decide +kernel)
theorem tw1607 : (Jvm.Cond.instanceMethod ({ cls := "LeafFormulaModel", name := "leaf", desc := "(III)I" } : Jvm.MethodName)) ∈ gtbl := gt_of 1700 (by decide +kernel) (by decide +kernel)
theorem tw1608 : (Jvm.Cond.selects "LeafFormulaModel" ({ cls := "LeafFormulaModel", name := "leaf", desc := "(III)I" } : Jvm.MethodName) ({ cls := "LeafFormulaModel", name := "leaf", desc := "(III)I" } : Jvm.MethodName)) ∈ gtbl := gt_of 1701 (by decide +kernel) (by decide +kernel)
theorem tw1622 : (Jvm.Cond.methodLink "LeafFormulaLaw" (73 : Nat) ({ cls := "LeafFormulaModel", name := "letter", desc := "(II)I" } : Jvm.MethodName)) ∈ gtbl := gt_of 1715 (by decide +kernel) (by decide +kernel)
theorem tw1623 : (Jvm.Cond.instanceMethod ({ cls := "LeafFormulaModel", name := "letter", desc := "(II)I" } : Jvm.MethodName)) ∈ gtbl := gt_of 1716 (by decide +kernel) (by decide +kernel)
theorem tw1624 : (Jvm.Cond.selects "LeafFormulaModel" ({ cls := "LeafFormulaModel", name := "letter", desc := "(II)I" } : Jvm.MethodName) ({ cls := "LeafFormulaModel", name := "letter", desc := "(II)I" } : Jvm.MethodName)) ∈ gtbl := gt_of 1717 (by decide +kernel) (by decide +kernel)
theorem tw1657 : (Jvm.Cond.methodLink "LeafFormulaLaw" (77 : Nat) ({ cls := "LeafFormulaModel", name := "name", desc := "(III)I" } : Jvm.MethodName)) ∈ gtbl := gt_of 1750 (by decide +kernel) (by decide +kernel)
theorem tw1658 : (Jvm.Cond.instanceMethod ({ cls := "LeafFormulaModel", name := "name", desc := "(III)I" } : Jvm.MethodName)) ∈ gtbl := gt_of 1751 (by decide +kernel) (by decide +kernel)
theorem tw1659 : (Jvm.Cond.selects "LeafFormulaModel" ({ cls := "LeafFormulaModel", name := "name", desc := "(III)I" } : Jvm.MethodName) ({ cls := "LeafFormulaModel", name := "name", desc := "(III)I" } : Jvm.MethodName)) ∈ gtbl := gt_of 1752 (by decide +kernel) (by decide +kernel)
theorem tw1665 : (Jvm.Cond.methodLink "LeafFormulaLaw" (81 : Nat) ({ cls := "LeafFormulaModel", name := "same", desc := "(II)I" } : Jvm.MethodName)) ∈ gtbl := gt_of 1758 (by decide +kernel) (by decide +kernel)
theorem tw1666 : (Jvm.Cond.instanceMethod ({ cls := "LeafFormulaModel", name := "same", desc := "(II)I" } : Jvm.MethodName)) ∈ gtbl := gt_of 1759 (by decide +kernel) (by decide +kernel)
theorem tw1667 : (Jvm.Cond.selects "LeafFormulaModel" ({ cls := "LeafFormulaModel", name := "same", desc := "(II)I" } : Jvm.MethodName) ({ cls := "LeafFormulaModel", name := "same", desc := "(II)I" } : Jvm.MethodName)) ∈ gtbl := gt_of 1760 (by decide +kernel) (by decide +kernel)
theorem tw1669 : (Jvm.Cond.methodLink "LeafFormulaLaw" (85 : Nat) ({ cls := "LeafFormulaModel", name := "sheets", desc := "(II)I" } : Jvm.MethodName)) ∈ gtbl := gt_of 1762 (by decide +kernel) (by decide +kernel)
theorem tw1670 : (Jvm.Cond.instanceMethod ({ cls := "LeafFormulaModel", name := "sheets", desc := "(II)I" } : Jvm.MethodName)) ∈ gtbl := gt_of 1763 (by decide +kernel) (by decide +kernel)
theorem tw1671 : (Jvm.Cond.selects "LeafFormulaModel" ({ cls := "LeafFormulaModel", name := "sheets", desc := "(II)I" } : Jvm.MethodName) ({ cls := "LeafFormulaModel", name := "sheets", desc := "(II)I" } : Jvm.MethodName)) ∈ gtbl := gt_of 1764 (by decide +kernel) (by decide +kernel)
theorem tw1683 : (Jvm.Cond.methodLink "LeafFormulaLaw" (90 : Nat) ({ cls := "LeafFormulaModel", name := "sheet", desc := "(IIII)I" } : Jvm.MethodName)) ∈ gtbl := gt_of 1776 (by decide +kernel) (by decide +kernel)
theorem tw1684 : (Jvm.Cond.instanceMethod ({ cls := "LeafFormulaModel", name := "sheet", desc := "(IIII)I" } : Jvm.MethodName)) ∈ gtbl := gt_of 1777 (by decide +kernel) (by decide +kernel)
theorem tw1685 : (Jvm.Cond.selects "LeafFormulaModel" ({ cls := "LeafFormulaModel", name := "sheet", desc := "(IIII)I" } : Jvm.MethodName) ({ cls := "LeafFormulaModel", name := "sheet", desc := "(IIII)I" } : Jvm.MethodName)) ∈ gtbl := gt_of 1778 (by decide +kernel) (by decide +kernel)
theorem tw1690 : (Jvm.Cond.methodLink "LeafFormulaLaw" (94 : Nat) ({ cls := "LeafFormulaModel", name := "forme", desc := "(IIII)I" } : Jvm.MethodName)) ∈ gtbl := gt_of 1783 (by decide +kernel) (by decide +kernel)
theorem tw1691 : (Jvm.Cond.instanceMethod ({ cls := "LeafFormulaModel", name := "forme", desc := "(IIII)I" } : Jvm.MethodName)) ∈ gtbl := gt_of 1784 (by decide +kernel) (by decide +kernel)
theorem tw1692 : (Jvm.Cond.selects "LeafFormulaModel" ({ cls := "LeafFormulaModel", name := "forme", desc := "(IIII)I" } : Jvm.MethodName) ({ cls := "LeafFormulaModel", name := "forme", desc := "(IIII)I" } : Jvm.MethodName)) ∈ gtbl := gt_of 1785 (by decide +kernel) (by decide +kernel)
theorem tw1694 : (Jvm.Cond.methodLink "LeafFormulaLaw" (98 : Nat) ({ cls := "LeafFormulaModel", name := "state", desc := "(II)I" } : Jvm.MethodName)) ∈ gtbl := gt_of 1787 (by decide +kernel) (by decide +kernel)
theorem tw1695 : (Jvm.Cond.instanceMethod ({ cls := "LeafFormulaModel", name := "state", desc := "(II)I" } : Jvm.MethodName)) ∈ gtbl := gt_of 1788 (by decide +kernel) (by decide +kernel)
theorem tw1696 : (Jvm.Cond.selects "LeafFormulaModel" ({ cls := "LeafFormulaModel", name := "state", desc := "(II)I" } : Jvm.MethodName) ({ cls := "LeafFormulaModel", name := "state", desc := "(II)I" } : Jvm.MethodName)) ∈ gtbl := gt_of 1789 (by decide +kernel) (by decide +kernel)
theorem tw1719 : (Jvm.Cond.methodLink "LeafFormulaLaw" (102 : Nat) ({ cls := "LeafFormulaModel", name := "entry", desc := "(II)I" } : Jvm.MethodName)) ∈ gtbl := gt_of 1812 (by decide +kernel) (by decide +kernel)
theorem tw1720 : (Jvm.Cond.instanceMethod ({ cls := "LeafFormulaModel", name := "entry", desc := "(II)I" } : Jvm.MethodName)) ∈ gtbl := gt_of 1813 (by decide +kernel) (by decide +kernel)
theorem tw1721 : (Jvm.Cond.selects "LeafFormulaModel" ({ cls := "LeafFormulaModel", name := "entry", desc := "(II)I" } : Jvm.MethodName) ({ cls := "LeafFormulaModel", name := "entry", desc := "(II)I" } : Jvm.MethodName)) ∈ gtbl := gt_of 1814 (by decide +kernel) (by decide +kernel)
theorem tw1723 : (Jvm.Cond.methodLink "LeafFormulaLaw" (106 : Nat) ({ cls := "LeafFormulaModel", name := "told", desc := "(III)I" } : Jvm.MethodName)) ∈ gtbl := gt_of 1816 (by decide +kernel) (by decide +kernel)
theorem tw1724 : (Jvm.Cond.instanceMethod ({ cls := "LeafFormulaModel", name := "told", desc := "(III)I" } : Jvm.MethodName)) ∈ gtbl := gt_of 1817 (by decide +kernel) (by decide +kernel)
theorem tw1725 : (Jvm.Cond.selects "LeafFormulaModel" ({ cls := "LeafFormulaModel", name := "told", desc := "(III)I" } : Jvm.MethodName) ({ cls := "LeafFormulaModel", name := "told", desc := "(III)I" } : Jvm.MethodName)) ∈ gtbl := gt_of 1818 (by decide +kernel) (by decide +kernel)
theorem tw1727 : (Jvm.Cond.methodLink "LeafFormulaLaw" (110 : Nat) ({ cls := "LeafFormulaModel", name := "note", desc := "(II)I" } : Jvm.MethodName)) ∈ gtbl := gt_of 1820 (by decide +kernel) (by decide +kernel)
theorem tw1728 : (Jvm.Cond.instanceMethod ({ cls := "LeafFormulaModel", name := "note", desc := "(II)I" } : Jvm.MethodName)) ∈ gtbl := gt_of 1821 (by decide +kernel) (by decide +kernel)
theorem tw1729 : (Jvm.Cond.selects "LeafFormulaModel" ({ cls := "LeafFormulaModel", name := "note", desc := "(II)I" } : Jvm.MethodName) ({ cls := "LeafFormulaModel", name := "note", desc := "(II)I" } : Jvm.MethodName)) ∈ gtbl := gt_of 1822 (by decide +kernel) (by decide +kernel)
theorem tw1745 : (Jvm.Cond.methodLink "LeafFormulaLaw" (114 : Nat) ({ cls := "LeafFormulaModel", name := "apart", desc := "(II)I" } : Jvm.MethodName)) ∈ gtbl := gt_of 1838 (by decide +kernel) (by decide +kernel)
theorem tw1746 : (Jvm.Cond.instanceMethod ({ cls := "LeafFormulaModel", name := "apart", desc := "(II)I" } : Jvm.MethodName)) ∈ gtbl := gt_of 1839 (by decide +kernel) (by decide +kernel)
theorem tw1747 : (Jvm.Cond.selects "LeafFormulaModel" ({ cls := "LeafFormulaModel", name := "apart", desc := "(II)I" } : Jvm.MethodName) ({ cls := "LeafFormulaModel", name := "apart", desc := "(II)I" } : Jvm.MethodName)) ∈ gtbl := gt_of 1840 (by decide +kernel) (by decide +kernel)
theorem tw1757 : (Jvm.Cond.methodLink "LeafFormulaLaw" (118 : Nat) ({ cls := "LeafFormulaModel", name := "together", desc := "(II)I" } : Jvm.MethodName)) ∈ gtbl := gt_of 1850 (by decide +kernel) (by decide +kernel)
theorem tw1758 : (Jvm.Cond.instanceMethod ({ cls := "LeafFormulaModel", name := "together", desc := "(II)I" } : Jvm.MethodName)) ∈ gtbl := gt_of 1851 (by decide +kernel) (by decide +kernel)
theorem tw1759 : (Jvm.Cond.selects "LeafFormulaModel" ({ cls := "LeafFormulaModel", name := "together", desc := "(II)I" } : Jvm.MethodName) ({ cls := "LeafFormulaModel", name := "together", desc := "(II)I" } : Jvm.MethodName)) ∈ gtbl := gt_of 1852 (by decide +kernel) (by decide +kernel)
theorem tw1761 : (Jvm.Cond.methodLink "LeafFormulaLaw" (122 : Nat) ({ cls := "LeafFormulaModel", name := "status", desc := "()I" } : Jvm.MethodName)) ∈ gtbl := gt_of 1854 (by decide +kernel) (by decide +kernel)
theorem tw1762 : (Jvm.Cond.instanceMethod ({ cls := "LeafFormulaModel", name := "status", desc := "()I" } : Jvm.MethodName)) ∈ gtbl := gt_of 1855 (by decide +kernel) (by decide +kernel)
theorem tw1763 : (Jvm.Cond.selects "LeafFormulaModel" ({ cls := "LeafFormulaModel", name := "status", desc := "()I" } : Jvm.MethodName) ({ cls := "LeafFormulaModel", name := "status", desc := "()I" } : Jvm.MethodName)) ∈ gtbl := gt_of 1856 (by decide +kernel) (by decide +kernel)
theorem dLW_0 : decode cLW 0 = .ok (.new 7, 3) := by decide +kernel
theorem dLW_3 : decode cLW 3 = .ok (.dup, 1) := by decide +kernel
theorem dLW_4 : decode cLW 4 = .ok (.invokespecial 9, 3) := by decide +kernel
theorem dLW_7 : decode cLW 7 = .ok (.astore_n 1, 1) := by decide +kernel
theorem dLW_8 : decode cLW 8 = .ok (.new 10, 3) := by decide +kernel
theorem dLW_11 : decode cLW 11 = .ok (.dup, 1) := by decide +kernel
theorem dLW_12 : decode cLW 12 = .ok (.invokespecial 12, 3) := by decide +kernel
theorem dLW_15 : decode cLW 15 = .ok (.astore_n 2, 1) := by decide +kernel
theorem dLW_16 : decode cLW 16 = .ok (.iconst 0, 1) := by decide +kernel
theorem dLW_17 : decode cLW 17 = .ok (.istore_n 3, 1) := by decide +kernel
theorem dLW_18 : decode cLW 18 = .ok (.iload_n 3, 1) := by decide +kernel
theorem dLW_19 : decode cLW 19 = .ok (.aload_n 0, 1) := by decide +kernel
theorem dLW_20 : decode cLW 20 = .ok (.arraylength, 1) := by decide +kernel
theorem dLW_21 : decode cLW 21 = .ok (.bipush 6, 2) := by decide +kernel
theorem dLW_23 : decode cLW 23 = .ok (.isub, 1) := by decide +kernel
theorem dLW_24 : decode cLW 24 = .ok (.if_icmp .gt 952, 3) := by decide +kernel
theorem dLW_27 : decode cLW 27 = .ok (.aload_n 0, 1) := by decide +kernel
theorem dLW_28 : decode cLW 28 = .ok (.iload_n 3, 1) := by decide +kernel
theorem dLW_29 : decode cLW 29 = .ok (.iaload, 1) := by decide +kernel
theorem dLW_30 : decode cLW 30 = .ok (.bipush 31, 2) := by decide +kernel
theorem dLW_32 : decode cLW 32 = .ok (.iand, 1) := by decide +kernel
theorem dLW_33 : decode cLW 33 = .ok (.tableswitch 937 0 25 #[119, 182, 205, 218, 241, 264, 287, 300, 313, 336, 359, 402, 425, 468, 501, 544, 577, 610, 663, 716, 749, 782, 825, 858, 891, 924], 119) := by decide +kernel
theorem dLW_152 : decode cLW 152 = .ok (.aload_n 1, 1) := by decide +kernel
theorem dLW_153 : decode cLW 153 = .ok (.aload_n 0, 1) := by decide +kernel
theorem dLW_154 : decode cLW 154 = .ok (.iload_n 3, 1) := by decide +kernel
theorem dLW_155 : decode cLW 155 = .ok (.iconst 1, 1) := by decide +kernel
theorem dLW_156 : decode cLW 156 = .ok (.iadd, 1) := by decide +kernel
theorem dLW_157 : decode cLW 157 = .ok (.iaload, 1) := by decide +kernel
theorem dLW_158 : decode cLW 158 = .ok (.aload_n 0, 1) := by decide +kernel
theorem dLW_159 : decode cLW 159 = .ok (.iload_n 3, 1) := by decide +kernel
theorem dLW_160 : decode cLW 160 = .ok (.iconst 2, 1) := by decide +kernel
theorem dLW_161 : decode cLW 161 = .ok (.iadd, 1) := by decide +kernel
theorem dLW_162 : decode cLW 162 = .ok (.iaload, 1) := by decide +kernel
theorem dLW_163 : decode cLW 163 = .ok (.aload_n 0, 1) := by decide +kernel
theorem dLW_164 : decode cLW 164 = .ok (.iload_n 3, 1) := by decide +kernel
theorem dLW_165 : decode cLW 165 = .ok (.iconst 3, 1) := by decide +kernel
theorem dLW_166 : decode cLW 166 = .ok (.iadd, 1) := by decide +kernel
theorem dLW_167 : decode cLW 167 = .ok (.iaload, 1) := by decide +kernel
theorem dLW_168 : decode cLW 168 = .ok (.aload_n 0, 1) := by decide +kernel
theorem dLW_169 : decode cLW 169 = .ok (.iload_n 3, 1) := by decide +kernel
theorem dLW_170 : decode cLW 170 = .ok (.iconst 4, 1) := by decide +kernel
theorem dLW_171 : decode cLW 171 = .ok (.iadd, 1) := by decide +kernel
theorem dLW_172 : decode cLW 172 = .ok (.iaload, 1) := by decide +kernel
theorem dLW_173 : decode cLW 173 = .ok (.aload_n 0, 1) := by decide +kernel
theorem dLW_174 : decode cLW 174 = .ok (.iload_n 3, 1) := by decide +kernel
theorem dLW_175 : decode cLW 175 = .ok (.iconst 5, 1) := by decide +kernel
theorem dLW_176 : decode cLW 176 = .ok (.iadd, 1) := by decide +kernel
theorem dLW_177 : decode cLW 177 = .ok (.iaload, 1) := by decide +kernel
theorem dLW_178 : decode cLW 178 = .ok (.invokevirtual 13, 3) := by decide +kernel
theorem dLW_181 : decode cLW 181 = .ok (.aload_n 2, 1) := by decide +kernel
theorem dLW_182 : decode cLW 182 = .ok (.aload_n 0, 1) := by decide +kernel
theorem dLW_183 : decode cLW 183 = .ok (.iload_n 3, 1) := by decide +kernel
theorem dLW_184 : decode cLW 184 = .ok (.iconst 1, 1) := by decide +kernel
theorem dLW_185 : decode cLW 185 = .ok (.iadd, 1) := by decide +kernel
theorem dLW_186 : decode cLW 186 = .ok (.iaload, 1) := by decide +kernel
theorem dLW_187 : decode cLW 187 = .ok (.aload_n 0, 1) := by decide +kernel
theorem dLW_188 : decode cLW 188 = .ok (.iload_n 3, 1) := by decide +kernel
theorem dLW_189 : decode cLW 189 = .ok (.iconst 2, 1) := by decide +kernel
theorem dLW_190 : decode cLW 190 = .ok (.iadd, 1) := by decide +kernel
theorem dLW_191 : decode cLW 191 = .ok (.iaload, 1) := by decide +kernel
theorem dLW_192 : decode cLW 192 = .ok (.aload_n 0, 1) := by decide +kernel
theorem dLW_193 : decode cLW 193 = .ok (.iload_n 3, 1) := by decide +kernel
theorem dLW_194 : decode cLW 194 = .ok (.iconst 3, 1) := by decide +kernel
theorem dLW_195 : decode cLW 195 = .ok (.iadd, 1) := by decide +kernel
theorem dLW_196 : decode cLW 196 = .ok (.iaload, 1) := by decide +kernel
theorem dLW_197 : decode cLW 197 = .ok (.aload_n 0, 1) := by decide +kernel
theorem dLW_198 : decode cLW 198 = .ok (.iload_n 3, 1) := by decide +kernel
theorem dLW_199 : decode cLW 199 = .ok (.iconst 4, 1) := by decide +kernel
theorem dLW_200 : decode cLW 200 = .ok (.iadd, 1) := by decide +kernel
theorem dLW_201 : decode cLW 201 = .ok (.iaload, 1) := by decide +kernel
theorem dLW_202 : decode cLW 202 = .ok (.aload_n 0, 1) := by decide +kernel
theorem dLW_203 : decode cLW 203 = .ok (.iload_n 3, 1) := by decide +kernel
theorem dLW_204 : decode cLW 204 = .ok (.iconst 5, 1) := by decide +kernel
theorem dLW_205 : decode cLW 205 = .ok (.iadd, 1) := by decide +kernel
theorem dLW_206 : decode cLW 206 = .ok (.iaload, 1) := by decide +kernel
theorem dLW_207 : decode cLW 207 = .ok (.invokevirtual 17, 3) := by decide +kernel
theorem dLW_210 : decode cLW 210 = .ok (.if_icmp .eq 760, 3) := by decide +kernel
theorem dLW_213 : decode cLW 213 = .ok (.iconst 0, 1) := by decide +kernel
theorem dLW_214 : decode cLW 214 = .ok (.ireturn, 1) := by decide +kernel
theorem dLW_215 : decode cLW 215 = .ok (.aload_n 1, 1) := by decide +kernel
theorem dLW_216 : decode cLW 216 = .ok (.aload_n 0, 1) := by decide +kernel
theorem dLW_217 : decode cLW 217 = .ok (.iload_n 3, 1) := by decide +kernel
theorem dLW_218 : decode cLW 218 = .ok (.iconst 1, 1) := by decide +kernel
theorem dLW_219 : decode cLW 219 = .ok (.iadd, 1) := by decide +kernel
theorem dLW_220 : decode cLW 220 = .ok (.iaload, 1) := by decide +kernel
theorem dLW_221 : decode cLW 221 = .ok (.invokevirtual 18, 3) := by decide +kernel
theorem dLW_224 : decode cLW 224 = .ok (.aload_n 2, 1) := by decide +kernel
theorem dLW_225 : decode cLW 225 = .ok (.aload_n 0, 1) := by decide +kernel
theorem dLW_226 : decode cLW 226 = .ok (.iload_n 3, 1) := by decide +kernel
theorem dLW_227 : decode cLW 227 = .ok (.iconst 1, 1) := by decide +kernel
theorem dLW_228 : decode cLW 228 = .ok (.iadd, 1) := by decide +kernel
theorem dLW_229 : decode cLW 229 = .ok (.iaload, 1) := by decide +kernel
theorem dLW_230 : decode cLW 230 = .ok (.invokevirtual 22, 3) := by decide +kernel
theorem dLW_233 : decode cLW 233 = .ok (.if_icmp .eq 737, 3) := by decide +kernel
theorem dLW_236 : decode cLW 236 = .ok (.iconst 0, 1) := by decide +kernel
theorem dLW_237 : decode cLW 237 = .ok (.ireturn, 1) := by decide +kernel
theorem dLW_238 : decode cLW 238 = .ok (.aload_n 1, 1) := by decide +kernel
theorem dLW_239 : decode cLW 239 = .ok (.invokevirtual 23, 3) := by decide +kernel
theorem dLW_242 : decode cLW 242 = .ok (.aload_n 2, 1) := by decide +kernel
theorem dLW_243 : decode cLW 243 = .ok (.invokevirtual 27, 3) := by decide +kernel
theorem dLW_246 : decode cLW 246 = .ok (.if_icmp .eq 724, 3) := by decide +kernel
theorem dLW_249 : decode cLW 249 = .ok (.iconst 0, 1) := by decide +kernel
theorem dLW_250 : decode cLW 250 = .ok (.ireturn, 1) := by decide +kernel
theorem dLW_251 : decode cLW 251 = .ok (.aload_n 1, 1) := by decide +kernel
theorem dLW_252 : decode cLW 252 = .ok (.aload_n 0, 1) := by decide +kernel
theorem dLW_253 : decode cLW 253 = .ok (.iload_n 3, 1) := by decide +kernel
theorem dLW_254 : decode cLW 254 = .ok (.iconst 1, 1) := by decide +kernel
theorem dLW_255 : decode cLW 255 = .ok (.iadd, 1) := by decide +kernel
theorem dLW_256 : decode cLW 256 = .ok (.iaload, 1) := by decide +kernel
theorem dLW_257 : decode cLW 257 = .ok (.invokevirtual 28, 3) := by decide +kernel
theorem dLW_260 : decode cLW 260 = .ok (.aload_n 2, 1) := by decide +kernel
theorem dLW_261 : decode cLW 261 = .ok (.aload_n 0, 1) := by decide +kernel
theorem dLW_262 : decode cLW 262 = .ok (.iload_n 3, 1) := by decide +kernel
theorem dLW_263 : decode cLW 263 = .ok (.iconst 1, 1) := by decide +kernel
theorem dLW_264 : decode cLW 264 = .ok (.iadd, 1) := by decide +kernel
theorem dLW_265 : decode cLW 265 = .ok (.iaload, 1) := by decide +kernel
theorem dLW_266 : decode cLW 266 = .ok (.invokevirtual 31, 3) := by decide +kernel
theorem dLW_269 : decode cLW 269 = .ok (.if_icmp .eq 701, 3) := by decide +kernel
theorem dLW_272 : decode cLW 272 = .ok (.iconst 0, 1) := by decide +kernel
theorem dLW_273 : decode cLW 273 = .ok (.ireturn, 1) := by decide +kernel
theorem dLW_274 : decode cLW 274 = .ok (.aload_n 1, 1) := by decide +kernel
theorem dLW_275 : decode cLW 275 = .ok (.aload_n 0, 1) := by decide +kernel
theorem dLW_276 : decode cLW 276 = .ok (.iload_n 3, 1) := by decide +kernel
theorem dLW_277 : decode cLW 277 = .ok (.iconst 1, 1) := by decide +kernel
theorem dLW_278 : decode cLW 278 = .ok (.iadd, 1) := by decide +kernel
theorem dLW_279 : decode cLW 279 = .ok (.iaload, 1) := by decide +kernel
theorem dLW_280 : decode cLW 280 = .ok (.invokevirtual 32, 3) := by decide +kernel
theorem dLW_283 : decode cLW 283 = .ok (.aload_n 2, 1) := by decide +kernel
theorem dLW_284 : decode cLW 284 = .ok (.aload_n 0, 1) := by decide +kernel
theorem dLW_285 : decode cLW 285 = .ok (.iload_n 3, 1) := by decide +kernel
theorem dLW_286 : decode cLW 286 = .ok (.iconst 1, 1) := by decide +kernel
theorem dLW_287 : decode cLW 287 = .ok (.iadd, 1) := by decide +kernel
theorem dLW_288 : decode cLW 288 = .ok (.iaload, 1) := by decide +kernel
theorem dLW_289 : decode cLW 289 = .ok (.invokevirtual 35, 3) := by decide +kernel
theorem dLW_292 : decode cLW 292 = .ok (.if_icmp .eq 678, 3) := by decide +kernel
theorem dLW_295 : decode cLW 295 = .ok (.iconst 0, 1) := by decide +kernel
theorem dLW_296 : decode cLW 296 = .ok (.ireturn, 1) := by decide +kernel
theorem dLW_297 : decode cLW 297 = .ok (.aload_n 1, 1) := by decide +kernel
theorem dLW_298 : decode cLW 298 = .ok (.aload_n 0, 1) := by decide +kernel
theorem dLW_299 : decode cLW 299 = .ok (.iload_n 3, 1) := by decide +kernel
theorem dLW_300 : decode cLW 300 = .ok (.iconst 1, 1) := by decide +kernel
theorem dLW_301 : decode cLW 301 = .ok (.iadd, 1) := by decide +kernel
theorem dLW_302 : decode cLW 302 = .ok (.iaload, 1) := by decide +kernel
theorem dLW_303 : decode cLW 303 = .ok (.invokevirtual 36, 3) := by decide +kernel
theorem dLW_306 : decode cLW 306 = .ok (.aload_n 2, 1) := by decide +kernel
theorem dLW_307 : decode cLW 307 = .ok (.aload_n 0, 1) := by decide +kernel
theorem dLW_308 : decode cLW 308 = .ok (.iload_n 3, 1) := by decide +kernel
theorem dLW_309 : decode cLW 309 = .ok (.iconst 1, 1) := by decide +kernel
theorem dLW_310 : decode cLW 310 = .ok (.iadd, 1) := by decide +kernel
theorem dLW_311 : decode cLW 311 = .ok (.iaload, 1) := by decide +kernel
theorem dLW_312 : decode cLW 312 = .ok (.invokevirtual 39, 3) := by decide +kernel
theorem dLW_315 : decode cLW 315 = .ok (.if_icmp .eq 655, 3) := by decide +kernel
theorem dLW_318 : decode cLW 318 = .ok (.iconst 0, 1) := by decide +kernel
theorem dLW_319 : decode cLW 319 = .ok (.ireturn, 1) := by decide +kernel
theorem dLW_320 : decode cLW 320 = .ok (.aload_n 1, 1) := by decide +kernel
theorem dLW_321 : decode cLW 321 = .ok (.invokevirtual 40, 3) := by decide +kernel
theorem dLW_324 : decode cLW 324 = .ok (.aload_n 2, 1) := by decide +kernel
theorem dLW_325 : decode cLW 325 = .ok (.invokevirtual 43, 3) := by decide +kernel
theorem dLW_328 : decode cLW 328 = .ok (.if_icmp .eq 642, 3) := by decide +kernel
theorem dLW_331 : decode cLW 331 = .ok (.iconst 0, 1) := by decide +kernel
theorem dLW_332 : decode cLW 332 = .ok (.ireturn, 1) := by decide +kernel
theorem dLW_333 : decode cLW 333 = .ok (.aload_n 1, 1) := by decide +kernel
theorem dLW_334 : decode cLW 334 = .ok (.invokevirtual 44, 3) := by decide +kernel
theorem dLW_337 : decode cLW 337 = .ok (.aload_n 2, 1) := by decide +kernel
theorem dLW_338 : decode cLW 338 = .ok (.invokevirtual 47, 3) := by decide +kernel
theorem dLW_341 : decode cLW 341 = .ok (.if_icmp .eq 629, 3) := by decide +kernel
theorem dLW_344 : decode cLW 344 = .ok (.iconst 0, 1) := by decide +kernel
theorem dLW_345 : decode cLW 345 = .ok (.ireturn, 1) := by decide +kernel
theorem dLW_346 : decode cLW 346 = .ok (.aload_n 1, 1) := by decide +kernel
theorem dLW_347 : decode cLW 347 = .ok (.aload_n 0, 1) := by decide +kernel
theorem dLW_348 : decode cLW 348 = .ok (.iload_n 3, 1) := by decide +kernel
theorem dLW_349 : decode cLW 349 = .ok (.iconst 1, 1) := by decide +kernel
theorem dLW_350 : decode cLW 350 = .ok (.iadd, 1) := by decide +kernel
theorem dLW_351 : decode cLW 351 = .ok (.iaload, 1) := by decide +kernel
theorem dLW_352 : decode cLW 352 = .ok (.invokevirtual 48, 3) := by decide +kernel
theorem dLW_355 : decode cLW 355 = .ok (.aload_n 2, 1) := by decide +kernel
theorem dLW_356 : decode cLW 356 = .ok (.aload_n 0, 1) := by decide +kernel
theorem dLW_357 : decode cLW 357 = .ok (.iload_n 3, 1) := by decide +kernel
theorem dLW_358 : decode cLW 358 = .ok (.iconst 1, 1) := by decide +kernel
theorem dLW_359 : decode cLW 359 = .ok (.iadd, 1) := by decide +kernel
theorem dLW_360 : decode cLW 360 = .ok (.iaload, 1) := by decide +kernel
theorem dLW_361 : decode cLW 361 = .ok (.invokevirtual 51, 3) := by decide +kernel
theorem dLW_364 : decode cLW 364 = .ok (.if_icmp .eq 606, 3) := by decide +kernel
theorem dLW_367 : decode cLW 367 = .ok (.iconst 0, 1) := by decide +kernel
theorem dLW_368 : decode cLW 368 = .ok (.ireturn, 1) := by decide +kernel
theorem dLW_369 : decode cLW 369 = .ok (.aload_n 1, 1) := by decide +kernel
theorem dLW_370 : decode cLW 370 = .ok (.aload_n 0, 1) := by decide +kernel
theorem dLW_371 : decode cLW 371 = .ok (.iload_n 3, 1) := by decide +kernel
theorem dLW_372 : decode cLW 372 = .ok (.iconst 1, 1) := by decide +kernel
theorem dLW_373 : decode cLW 373 = .ok (.iadd, 1) := by decide +kernel
theorem dLW_374 : decode cLW 374 = .ok (.iaload, 1) := by decide +kernel
theorem dLW_375 : decode cLW 375 = .ok (.invokevirtual 52, 3) := by decide +kernel
theorem dLW_378 : decode cLW 378 = .ok (.aload_n 2, 1) := by decide +kernel
theorem dLW_379 : decode cLW 379 = .ok (.aload_n 0, 1) := by decide +kernel
theorem dLW_380 : decode cLW 380 = .ok (.iload_n 3, 1) := by decide +kernel
theorem dLW_381 : decode cLW 381 = .ok (.iconst 1, 1) := by decide +kernel
theorem dLW_382 : decode cLW 382 = .ok (.iadd, 1) := by decide +kernel
theorem dLW_383 : decode cLW 383 = .ok (.iaload, 1) := by decide +kernel
theorem dLW_384 : decode cLW 384 = .ok (.invokevirtual 55, 3) := by decide +kernel
theorem dLW_387 : decode cLW 387 = .ok (.if_icmp .eq 583, 3) := by decide +kernel
theorem dLW_390 : decode cLW 390 = .ok (.iconst 0, 1) := by decide +kernel
theorem dLW_391 : decode cLW 391 = .ok (.ireturn, 1) := by decide +kernel
theorem dLW_392 : decode cLW 392 = .ok (.aload_n 1, 1) := by decide +kernel
theorem dLW_393 : decode cLW 393 = .ok (.aload_n 0, 1) := by decide +kernel
theorem dLW_394 : decode cLW 394 = .ok (.iload_n 3, 1) := by decide +kernel
theorem dLW_395 : decode cLW 395 = .ok (.iconst 1, 1) := by decide +kernel
theorem dLW_396 : decode cLW 396 = .ok (.iadd, 1) := by decide +kernel
theorem dLW_397 : decode cLW 397 = .ok (.iaload, 1) := by decide +kernel
theorem dLW_398 : decode cLW 398 = .ok (.aload_n 0, 1) := by decide +kernel
theorem dLW_399 : decode cLW 399 = .ok (.iload_n 3, 1) := by decide +kernel
theorem dLW_400 : decode cLW 400 = .ok (.iconst 2, 1) := by decide +kernel
theorem dLW_401 : decode cLW 401 = .ok (.iadd, 1) := by decide +kernel
theorem dLW_402 : decode cLW 402 = .ok (.iaload, 1) := by decide +kernel
theorem dLW_403 : decode cLW 403 = .ok (.aload_n 0, 1) := by decide +kernel
theorem dLW_404 : decode cLW 404 = .ok (.iload_n 3, 1) := by decide +kernel
theorem dLW_405 : decode cLW 405 = .ok (.iconst 3, 1) := by decide +kernel
theorem dLW_406 : decode cLW 406 = .ok (.iadd, 1) := by decide +kernel
theorem dLW_407 : decode cLW 407 = .ok (.iaload, 1) := by decide +kernel
theorem dLW_408 : decode cLW 408 = .ok (.invokevirtual 56, 3) := by decide +kernel
theorem dLW_411 : decode cLW 411 = .ok (.aload_n 2, 1) := by decide +kernel
theorem dLW_412 : decode cLW 412 = .ok (.aload_n 0, 1) := by decide +kernel
theorem dLW_413 : decode cLW 413 = .ok (.iload_n 3, 1) := by decide +kernel
theorem dLW_414 : decode cLW 414 = .ok (.iconst 1, 1) := by decide +kernel
theorem dLW_415 : decode cLW 415 = .ok (.iadd, 1) := by decide +kernel
theorem dLW_416 : decode cLW 416 = .ok (.iaload, 1) := by decide +kernel
theorem dLW_417 : decode cLW 417 = .ok (.aload_n 0, 1) := by decide +kernel
theorem dLW_418 : decode cLW 418 = .ok (.iload_n 3, 1) := by decide +kernel
theorem dLW_419 : decode cLW 419 = .ok (.iconst 2, 1) := by decide +kernel
theorem dLW_420 : decode cLW 420 = .ok (.iadd, 1) := by decide +kernel
theorem dLW_421 : decode cLW 421 = .ok (.iaload, 1) := by decide +kernel
theorem dLW_422 : decode cLW 422 = .ok (.aload_n 0, 1) := by decide +kernel
theorem dLW_423 : decode cLW 423 = .ok (.iload_n 3, 1) := by decide +kernel
theorem dLW_424 : decode cLW 424 = .ok (.iconst 3, 1) := by decide +kernel
theorem dLW_425 : decode cLW 425 = .ok (.iadd, 1) := by decide +kernel
theorem dLW_426 : decode cLW 426 = .ok (.iaload, 1) := by decide +kernel
theorem dLW_427 : decode cLW 427 = .ok (.invokevirtual 60, 3) := by decide +kernel
theorem dLW_430 : decode cLW 430 = .ok (.if_icmp .eq 540, 3) := by decide +kernel
theorem dLW_433 : decode cLW 433 = .ok (.iconst 0, 1) := by decide +kernel
theorem dLW_434 : decode cLW 434 = .ok (.ireturn, 1) := by decide +kernel
theorem dLW_435 : decode cLW 435 = .ok (.aload_n 1, 1) := by decide +kernel
theorem dLW_436 : decode cLW 436 = .ok (.aload_n 0, 1) := by decide +kernel
theorem dLW_437 : decode cLW 437 = .ok (.iload_n 3, 1) := by decide +kernel
theorem dLW_438 : decode cLW 438 = .ok (.iconst 1, 1) := by decide +kernel
theorem dLW_439 : decode cLW 439 = .ok (.iadd, 1) := by decide +kernel
theorem dLW_440 : decode cLW 440 = .ok (.iaload, 1) := by decide +kernel
theorem dLW_441 : decode cLW 441 = .ok (.invokevirtual 61, 3) := by decide +kernel
theorem dLW_444 : decode cLW 444 = .ok (.aload_n 2, 1) := by decide +kernel
theorem dLW_445 : decode cLW 445 = .ok (.aload_n 0, 1) := by decide +kernel
theorem dLW_446 : decode cLW 446 = .ok (.iload_n 3, 1) := by decide +kernel
theorem dLW_447 : decode cLW 447 = .ok (.iconst 1, 1) := by decide +kernel
theorem dLW_448 : decode cLW 448 = .ok (.iadd, 1) := by decide +kernel
theorem dLW_449 : decode cLW 449 = .ok (.iaload, 1) := by decide +kernel
theorem dLW_450 : decode cLW 450 = .ok (.invokevirtual 64, 3) := by decide +kernel
theorem dLW_453 : decode cLW 453 = .ok (.if_icmp .eq 517, 3) := by decide +kernel
theorem dLW_456 : decode cLW 456 = .ok (.iconst 0, 1) := by decide +kernel
theorem dLW_457 : decode cLW 457 = .ok (.ireturn, 1) := by decide +kernel
theorem dLW_458 : decode cLW 458 = .ok (.aload_n 1, 1) := by decide +kernel
theorem dLW_459 : decode cLW 459 = .ok (.aload_n 0, 1) := by decide +kernel
theorem dLW_460 : decode cLW 460 = .ok (.iload_n 3, 1) := by decide +kernel
theorem dLW_461 : decode cLW 461 = .ok (.iconst 1, 1) := by decide +kernel
theorem dLW_462 : decode cLW 462 = .ok (.iadd, 1) := by decide +kernel
theorem dLW_463 : decode cLW 463 = .ok (.iaload, 1) := by decide +kernel
theorem dLW_464 : decode cLW 464 = .ok (.aload_n 0, 1) := by decide +kernel
theorem dLW_465 : decode cLW 465 = .ok (.iload_n 3, 1) := by decide +kernel
theorem dLW_466 : decode cLW 466 = .ok (.iconst 2, 1) := by decide +kernel
theorem dLW_467 : decode cLW 467 = .ok (.iadd, 1) := by decide +kernel
theorem dLW_468 : decode cLW 468 = .ok (.iaload, 1) := by decide +kernel
theorem dLW_469 : decode cLW 469 = .ok (.aload_n 0, 1) := by decide +kernel
theorem dLW_470 : decode cLW 470 = .ok (.iload_n 3, 1) := by decide +kernel
theorem dLW_471 : decode cLW 471 = .ok (.iconst 3, 1) := by decide +kernel
theorem dLW_472 : decode cLW 472 = .ok (.iadd, 1) := by decide +kernel
theorem dLW_473 : decode cLW 473 = .ok (.iaload, 1) := by decide +kernel
theorem dLW_474 : decode cLW 474 = .ok (.invokevirtual 65, 3) := by decide +kernel
theorem dLW_477 : decode cLW 477 = .ok (.aload_n 2, 1) := by decide +kernel
theorem dLW_478 : decode cLW 478 = .ok (.aload_n 0, 1) := by decide +kernel
theorem dLW_479 : decode cLW 479 = .ok (.iload_n 3, 1) := by decide +kernel
theorem dLW_480 : decode cLW 480 = .ok (.iconst 1, 1) := by decide +kernel
theorem dLW_481 : decode cLW 481 = .ok (.iadd, 1) := by decide +kernel
theorem dLW_482 : decode cLW 482 = .ok (.iaload, 1) := by decide +kernel
theorem dLW_483 : decode cLW 483 = .ok (.aload_n 0, 1) := by decide +kernel
theorem dLW_484 : decode cLW 484 = .ok (.iload_n 3, 1) := by decide +kernel
theorem dLW_485 : decode cLW 485 = .ok (.iconst 2, 1) := by decide +kernel
theorem dLW_486 : decode cLW 486 = .ok (.iadd, 1) := by decide +kernel
theorem dLW_487 : decode cLW 487 = .ok (.iaload, 1) := by decide +kernel
theorem dLW_488 : decode cLW 488 = .ok (.aload_n 0, 1) := by decide +kernel
theorem dLW_489 : decode cLW 489 = .ok (.iload_n 3, 1) := by decide +kernel
theorem dLW_490 : decode cLW 490 = .ok (.iconst 3, 1) := by decide +kernel
theorem dLW_491 : decode cLW 491 = .ok (.iadd, 1) := by decide +kernel
theorem dLW_492 : decode cLW 492 = .ok (.iaload, 1) := by decide +kernel
theorem dLW_493 : decode cLW 493 = .ok (.invokevirtual 68, 3) := by decide +kernel
theorem dLW_496 : decode cLW 496 = .ok (.if_icmp .eq 474, 3) := by decide +kernel
theorem dLW_499 : decode cLW 499 = .ok (.iconst 0, 1) := by decide +kernel
theorem dLW_500 : decode cLW 500 = .ok (.ireturn, 1) := by decide +kernel
theorem dLW_501 : decode cLW 501 = .ok (.aload_n 1, 1) := by decide +kernel
theorem dLW_502 : decode cLW 502 = .ok (.aload_n 0, 1) := by decide +kernel
theorem dLW_503 : decode cLW 503 = .ok (.iload_n 3, 1) := by decide +kernel
theorem dLW_504 : decode cLW 504 = .ok (.iconst 1, 1) := by decide +kernel
theorem dLW_505 : decode cLW 505 = .ok (.iadd, 1) := by decide +kernel
theorem dLW_506 : decode cLW 506 = .ok (.iaload, 1) := by decide +kernel
theorem dLW_507 : decode cLW 507 = .ok (.aload_n 0, 1) := by decide +kernel
theorem dLW_508 : decode cLW 508 = .ok (.iload_n 3, 1) := by decide +kernel
theorem dLW_509 : decode cLW 509 = .ok (.iconst 2, 1) := by decide +kernel
theorem dLW_510 : decode cLW 510 = .ok (.iadd, 1) := by decide +kernel
theorem dLW_511 : decode cLW 511 = .ok (.iaload, 1) := by decide +kernel
theorem dLW_512 : decode cLW 512 = .ok (.invokevirtual 69, 3) := by decide +kernel
theorem dLW_515 : decode cLW 515 = .ok (.aload_n 2, 1) := by decide +kernel
theorem dLW_516 : decode cLW 516 = .ok (.aload_n 0, 1) := by decide +kernel
theorem dLW_517 : decode cLW 517 = .ok (.iload_n 3, 1) := by decide +kernel
theorem dLW_518 : decode cLW 518 = .ok (.iconst 1, 1) := by decide +kernel
theorem dLW_519 : decode cLW 519 = .ok (.iadd, 1) := by decide +kernel
theorem dLW_520 : decode cLW 520 = .ok (.iaload, 1) := by decide +kernel
theorem dLW_521 : decode cLW 521 = .ok (.aload_n 0, 1) := by decide +kernel
theorem dLW_522 : decode cLW 522 = .ok (.iload_n 3, 1) := by decide +kernel
theorem dLW_523 : decode cLW 523 = .ok (.iconst 2, 1) := by decide +kernel
theorem dLW_524 : decode cLW 524 = .ok (.iadd, 1) := by decide +kernel
theorem dLW_525 : decode cLW 525 = .ok (.iaload, 1) := by decide +kernel
theorem dLW_526 : decode cLW 526 = .ok (.invokevirtual 73, 3) := by decide +kernel
theorem dLW_529 : decode cLW 529 = .ok (.if_icmp .eq 441, 3) := by decide +kernel
theorem dLW_532 : decode cLW 532 = .ok (.iconst 0, 1) := by decide +kernel
theorem dLW_533 : decode cLW 533 = .ok (.ireturn, 1) := by decide +kernel
theorem dLW_534 : decode cLW 534 = .ok (.aload_n 1, 1) := by decide +kernel
theorem dLW_535 : decode cLW 535 = .ok (.aload_n 0, 1) := by decide +kernel
theorem dLW_536 : decode cLW 536 = .ok (.iload_n 3, 1) := by decide +kernel
theorem dLW_537 : decode cLW 537 = .ok (.iconst 1, 1) := by decide +kernel
theorem dLW_538 : decode cLW 538 = .ok (.iadd, 1) := by decide +kernel
theorem dLW_539 : decode cLW 539 = .ok (.iaload, 1) := by decide +kernel
theorem dLW_540 : decode cLW 540 = .ok (.aload_n 0, 1) := by decide +kernel
theorem dLW_541 : decode cLW 541 = .ok (.iload_n 3, 1) := by decide +kernel
theorem dLW_542 : decode cLW 542 = .ok (.iconst 2, 1) := by decide +kernel
theorem dLW_543 : decode cLW 543 = .ok (.iadd, 1) := by decide +kernel
theorem dLW_544 : decode cLW 544 = .ok (.iaload, 1) := by decide +kernel
theorem dLW_545 : decode cLW 545 = .ok (.aload_n 0, 1) := by decide +kernel
theorem dLW_546 : decode cLW 546 = .ok (.iload_n 3, 1) := by decide +kernel
theorem dLW_547 : decode cLW 547 = .ok (.iconst 3, 1) := by decide +kernel
theorem dLW_548 : decode cLW 548 = .ok (.iadd, 1) := by decide +kernel
theorem dLW_549 : decode cLW 549 = .ok (.iaload, 1) := by decide +kernel
theorem dLW_550 : decode cLW 550 = .ok (.invokevirtual 74, 3) := by decide +kernel
theorem dLW_553 : decode cLW 553 = .ok (.aload_n 2, 1) := by decide +kernel
theorem dLW_554 : decode cLW 554 = .ok (.aload_n 0, 1) := by decide +kernel
theorem dLW_555 : decode cLW 555 = .ok (.iload_n 3, 1) := by decide +kernel
theorem dLW_556 : decode cLW 556 = .ok (.iconst 1, 1) := by decide +kernel
theorem dLW_557 : decode cLW 557 = .ok (.iadd, 1) := by decide +kernel
theorem dLW_558 : decode cLW 558 = .ok (.iaload, 1) := by decide +kernel
theorem dLW_559 : decode cLW 559 = .ok (.aload_n 0, 1) := by decide +kernel
theorem dLW_560 : decode cLW 560 = .ok (.iload_n 3, 1) := by decide +kernel
theorem dLW_561 : decode cLW 561 = .ok (.iconst 2, 1) := by decide +kernel
theorem dLW_562 : decode cLW 562 = .ok (.iadd, 1) := by decide +kernel
theorem dLW_563 : decode cLW 563 = .ok (.iaload, 1) := by decide +kernel
theorem dLW_564 : decode cLW 564 = .ok (.aload_n 0, 1) := by decide +kernel
theorem dLW_565 : decode cLW 565 = .ok (.iload_n 3, 1) := by decide +kernel
theorem dLW_566 : decode cLW 566 = .ok (.iconst 3, 1) := by decide +kernel
theorem dLW_567 : decode cLW 567 = .ok (.iadd, 1) := by decide +kernel
theorem dLW_568 : decode cLW 568 = .ok (.iaload, 1) := by decide +kernel
theorem dLW_569 : decode cLW 569 = .ok (.invokevirtual 77, 3) := by decide +kernel
theorem dLW_572 : decode cLW 572 = .ok (.if_icmp .eq 398, 3) := by decide +kernel
theorem dLW_575 : decode cLW 575 = .ok (.iconst 0, 1) := by decide +kernel
theorem dLW_576 : decode cLW 576 = .ok (.ireturn, 1) := by decide +kernel
theorem dLW_577 : decode cLW 577 = .ok (.aload_n 1, 1) := by decide +kernel
theorem dLW_578 : decode cLW 578 = .ok (.aload_n 0, 1) := by decide +kernel
theorem dLW_579 : decode cLW 579 = .ok (.iload_n 3, 1) := by decide +kernel
theorem dLW_580 : decode cLW 580 = .ok (.iconst 1, 1) := by decide +kernel
theorem dLW_581 : decode cLW 581 = .ok (.iadd, 1) := by decide +kernel
theorem dLW_582 : decode cLW 582 = .ok (.iaload, 1) := by decide +kernel
theorem dLW_583 : decode cLW 583 = .ok (.aload_n 0, 1) := by decide +kernel
theorem dLW_584 : decode cLW 584 = .ok (.iload_n 3, 1) := by decide +kernel
theorem dLW_585 : decode cLW 585 = .ok (.iconst 2, 1) := by decide +kernel
theorem dLW_586 : decode cLW 586 = .ok (.iadd, 1) := by decide +kernel
theorem dLW_587 : decode cLW 587 = .ok (.iaload, 1) := by decide +kernel
theorem dLW_588 : decode cLW 588 = .ok (.invokevirtual 78, 3) := by decide +kernel
theorem dLW_591 : decode cLW 591 = .ok (.aload_n 2, 1) := by decide +kernel
theorem dLW_592 : decode cLW 592 = .ok (.aload_n 0, 1) := by decide +kernel
theorem dLW_593 : decode cLW 593 = .ok (.iload_n 3, 1) := by decide +kernel
theorem dLW_594 : decode cLW 594 = .ok (.iconst 1, 1) := by decide +kernel
theorem dLW_595 : decode cLW 595 = .ok (.iadd, 1) := by decide +kernel
theorem dLW_596 : decode cLW 596 = .ok (.iaload, 1) := by decide +kernel
theorem dLW_597 : decode cLW 597 = .ok (.aload_n 0, 1) := by decide +kernel
theorem dLW_598 : decode cLW 598 = .ok (.iload_n 3, 1) := by decide +kernel
theorem dLW_599 : decode cLW 599 = .ok (.iconst 2, 1) := by decide +kernel
theorem dLW_600 : decode cLW 600 = .ok (.iadd, 1) := by decide +kernel
theorem dLW_601 : decode cLW 601 = .ok (.iaload, 1) := by decide +kernel
theorem dLW_602 : decode cLW 602 = .ok (.invokevirtual 81, 3) := by decide +kernel
theorem dLW_605 : decode cLW 605 = .ok (.if_icmp .eq 365, 3) := by decide +kernel
theorem dLW_608 : decode cLW 608 = .ok (.iconst 0, 1) := by decide +kernel
theorem dLW_609 : decode cLW 609 = .ok (.ireturn, 1) := by decide +kernel
theorem dLW_610 : decode cLW 610 = .ok (.aload_n 1, 1) := by decide +kernel
theorem dLW_611 : decode cLW 611 = .ok (.aload_n 0, 1) := by decide +kernel
theorem dLW_612 : decode cLW 612 = .ok (.iload_n 3, 1) := by decide +kernel
theorem dLW_613 : decode cLW 613 = .ok (.iconst 1, 1) := by decide +kernel
theorem dLW_614 : decode cLW 614 = .ok (.iadd, 1) := by decide +kernel
theorem dLW_615 : decode cLW 615 = .ok (.iaload, 1) := by decide +kernel
theorem dLW_616 : decode cLW 616 = .ok (.aload_n 0, 1) := by decide +kernel
theorem dLW_617 : decode cLW 617 = .ok (.iload_n 3, 1) := by decide +kernel
theorem dLW_618 : decode cLW 618 = .ok (.iconst 2, 1) := by decide +kernel
theorem dLW_619 : decode cLW 619 = .ok (.iadd, 1) := by decide +kernel
theorem dLW_620 : decode cLW 620 = .ok (.iaload, 1) := by decide +kernel
theorem dLW_621 : decode cLW 621 = .ok (.invokevirtual 82, 3) := by decide +kernel
theorem dLW_624 : decode cLW 624 = .ok (.aload_n 2, 1) := by decide +kernel
theorem dLW_625 : decode cLW 625 = .ok (.aload_n 0, 1) := by decide +kernel
theorem dLW_626 : decode cLW 626 = .ok (.iload_n 3, 1) := by decide +kernel
theorem dLW_627 : decode cLW 627 = .ok (.iconst 1, 1) := by decide +kernel
theorem dLW_628 : decode cLW 628 = .ok (.iadd, 1) := by decide +kernel
theorem dLW_629 : decode cLW 629 = .ok (.iaload, 1) := by decide +kernel
theorem dLW_630 : decode cLW 630 = .ok (.aload_n 0, 1) := by decide +kernel
theorem dLW_631 : decode cLW 631 = .ok (.iload_n 3, 1) := by decide +kernel
theorem dLW_632 : decode cLW 632 = .ok (.iconst 2, 1) := by decide +kernel
theorem dLW_633 : decode cLW 633 = .ok (.iadd, 1) := by decide +kernel
theorem dLW_634 : decode cLW 634 = .ok (.iaload, 1) := by decide +kernel
theorem dLW_635 : decode cLW 635 = .ok (.invokevirtual 85, 3) := by decide +kernel
theorem dLW_638 : decode cLW 638 = .ok (.if_icmp .eq 332, 3) := by decide +kernel
theorem dLW_641 : decode cLW 641 = .ok (.iconst 0, 1) := by decide +kernel
theorem dLW_642 : decode cLW 642 = .ok (.ireturn, 1) := by decide +kernel
theorem dLW_643 : decode cLW 643 = .ok (.aload_n 1, 1) := by decide +kernel
theorem dLW_644 : decode cLW 644 = .ok (.aload_n 0, 1) := by decide +kernel
theorem dLW_645 : decode cLW 645 = .ok (.iload_n 3, 1) := by decide +kernel
theorem dLW_646 : decode cLW 646 = .ok (.iconst 1, 1) := by decide +kernel
theorem dLW_647 : decode cLW 647 = .ok (.iadd, 1) := by decide +kernel
theorem dLW_648 : decode cLW 648 = .ok (.iaload, 1) := by decide +kernel
theorem dLW_649 : decode cLW 649 = .ok (.aload_n 0, 1) := by decide +kernel
theorem dLW_650 : decode cLW 650 = .ok (.iload_n 3, 1) := by decide +kernel
theorem dLW_651 : decode cLW 651 = .ok (.iconst 2, 1) := by decide +kernel
theorem dLW_652 : decode cLW 652 = .ok (.iadd, 1) := by decide +kernel
theorem dLW_653 : decode cLW 653 = .ok (.iaload, 1) := by decide +kernel
theorem dLW_654 : decode cLW 654 = .ok (.aload_n 0, 1) := by decide +kernel
theorem dLW_655 : decode cLW 655 = .ok (.iload_n 3, 1) := by decide +kernel
theorem dLW_656 : decode cLW 656 = .ok (.iconst 3, 1) := by decide +kernel
theorem dLW_657 : decode cLW 657 = .ok (.iadd, 1) := by decide +kernel
theorem dLW_658 : decode cLW 658 = .ok (.iaload, 1) := by decide +kernel
theorem dLW_659 : decode cLW 659 = .ok (.aload_n 0, 1) := by decide +kernel
theorem dLW_660 : decode cLW 660 = .ok (.iload_n 3, 1) := by decide +kernel
theorem dLW_661 : decode cLW 661 = .ok (.iconst 4, 1) := by decide +kernel
theorem dLW_662 : decode cLW 662 = .ok (.iadd, 1) := by decide +kernel
theorem dLW_663 : decode cLW 663 = .ok (.iaload, 1) := by decide +kernel
theorem dLW_664 : decode cLW 664 = .ok (.invokevirtual 86, 3) := by decide +kernel
theorem dLW_667 : decode cLW 667 = .ok (.aload_n 2, 1) := by decide +kernel
theorem dLW_668 : decode cLW 668 = .ok (.aload_n 0, 1) := by decide +kernel
theorem dLW_669 : decode cLW 669 = .ok (.iload_n 3, 1) := by decide +kernel
theorem dLW_670 : decode cLW 670 = .ok (.iconst 1, 1) := by decide +kernel
theorem dLW_671 : decode cLW 671 = .ok (.iadd, 1) := by decide +kernel
theorem dLW_672 : decode cLW 672 = .ok (.iaload, 1) := by decide +kernel
theorem dLW_673 : decode cLW 673 = .ok (.aload_n 0, 1) := by decide +kernel
theorem dLW_674 : decode cLW 674 = .ok (.iload_n 3, 1) := by decide +kernel
theorem dLW_675 : decode cLW 675 = .ok (.iconst 2, 1) := by decide +kernel
theorem dLW_676 : decode cLW 676 = .ok (.iadd, 1) := by decide +kernel
theorem dLW_677 : decode cLW 677 = .ok (.iaload, 1) := by decide +kernel
theorem dLW_678 : decode cLW 678 = .ok (.aload_n 0, 1) := by decide +kernel
theorem dLW_679 : decode cLW 679 = .ok (.iload_n 3, 1) := by decide +kernel
theorem dLW_680 : decode cLW 680 = .ok (.iconst 3, 1) := by decide +kernel
theorem dLW_681 : decode cLW 681 = .ok (.iadd, 1) := by decide +kernel
theorem dLW_682 : decode cLW 682 = .ok (.iaload, 1) := by decide +kernel
theorem dLW_683 : decode cLW 683 = .ok (.aload_n 0, 1) := by decide +kernel
theorem dLW_684 : decode cLW 684 = .ok (.iload_n 3, 1) := by decide +kernel
theorem dLW_685 : decode cLW 685 = .ok (.iconst 4, 1) := by decide +kernel
theorem dLW_686 : decode cLW 686 = .ok (.iadd, 1) := by decide +kernel
theorem dLW_687 : decode cLW 687 = .ok (.iaload, 1) := by decide +kernel
theorem dLW_688 : decode cLW 688 = .ok (.invokevirtual 90, 3) := by decide +kernel
theorem dLW_691 : decode cLW 691 = .ok (.if_icmp .eq 279, 3) := by decide +kernel
theorem dLW_694 : decode cLW 694 = .ok (.iconst 0, 1) := by decide +kernel
theorem dLW_695 : decode cLW 695 = .ok (.ireturn, 1) := by decide +kernel
theorem dLW_696 : decode cLW 696 = .ok (.aload_n 1, 1) := by decide +kernel
theorem dLW_697 : decode cLW 697 = .ok (.aload_n 0, 1) := by decide +kernel
theorem dLW_698 : decode cLW 698 = .ok (.iload_n 3, 1) := by decide +kernel
theorem dLW_699 : decode cLW 699 = .ok (.iconst 1, 1) := by decide +kernel
theorem dLW_700 : decode cLW 700 = .ok (.iadd, 1) := by decide +kernel
theorem dLW_701 : decode cLW 701 = .ok (.iaload, 1) := by decide +kernel
theorem dLW_702 : decode cLW 702 = .ok (.aload_n 0, 1) := by decide +kernel
theorem dLW_703 : decode cLW 703 = .ok (.iload_n 3, 1) := by decide +kernel
theorem dLW_704 : decode cLW 704 = .ok (.iconst 2, 1) := by decide +kernel
theorem dLW_705 : decode cLW 705 = .ok (.iadd, 1) := by decide +kernel
theorem dLW_706 : decode cLW 706 = .ok (.iaload, 1) := by decide +kernel
theorem dLW_707 : decode cLW 707 = .ok (.aload_n 0, 1) := by decide +kernel
theorem dLW_708 : decode cLW 708 = .ok (.iload_n 3, 1) := by decide +kernel
theorem dLW_709 : decode cLW 709 = .ok (.iconst 3, 1) := by decide +kernel
theorem dLW_710 : decode cLW 710 = .ok (.iadd, 1) := by decide +kernel
theorem dLW_711 : decode cLW 711 = .ok (.iaload, 1) := by decide +kernel
theorem dLW_712 : decode cLW 712 = .ok (.aload_n 0, 1) := by decide +kernel
theorem dLW_713 : decode cLW 713 = .ok (.iload_n 3, 1) := by decide +kernel
theorem dLW_714 : decode cLW 714 = .ok (.iconst 4, 1) := by decide +kernel
theorem dLW_715 : decode cLW 715 = .ok (.iadd, 1) := by decide +kernel
theorem dLW_716 : decode cLW 716 = .ok (.iaload, 1) := by decide +kernel
theorem dLW_717 : decode cLW 717 = .ok (.invokevirtual 91, 3) := by decide +kernel
theorem dLW_720 : decode cLW 720 = .ok (.aload_n 2, 1) := by decide +kernel
theorem dLW_721 : decode cLW 721 = .ok (.aload_n 0, 1) := by decide +kernel
theorem dLW_722 : decode cLW 722 = .ok (.iload_n 3, 1) := by decide +kernel
theorem dLW_723 : decode cLW 723 = .ok (.iconst 1, 1) := by decide +kernel
theorem dLW_724 : decode cLW 724 = .ok (.iadd, 1) := by decide +kernel
theorem dLW_725 : decode cLW 725 = .ok (.iaload, 1) := by decide +kernel
theorem dLW_726 : decode cLW 726 = .ok (.aload_n 0, 1) := by decide +kernel
theorem dLW_727 : decode cLW 727 = .ok (.iload_n 3, 1) := by decide +kernel
theorem dLW_728 : decode cLW 728 = .ok (.iconst 2, 1) := by decide +kernel
theorem dLW_729 : decode cLW 729 = .ok (.iadd, 1) := by decide +kernel
theorem dLW_730 : decode cLW 730 = .ok (.iaload, 1) := by decide +kernel
theorem dLW_731 : decode cLW 731 = .ok (.aload_n 0, 1) := by decide +kernel
theorem dLW_732 : decode cLW 732 = .ok (.iload_n 3, 1) := by decide +kernel
theorem dLW_733 : decode cLW 733 = .ok (.iconst 3, 1) := by decide +kernel
theorem dLW_734 : decode cLW 734 = .ok (.iadd, 1) := by decide +kernel
theorem dLW_735 : decode cLW 735 = .ok (.iaload, 1) := by decide +kernel
theorem dLW_736 : decode cLW 736 = .ok (.aload_n 0, 1) := by decide +kernel
theorem dLW_737 : decode cLW 737 = .ok (.iload_n 3, 1) := by decide +kernel
theorem dLW_738 : decode cLW 738 = .ok (.iconst 4, 1) := by decide +kernel
theorem dLW_739 : decode cLW 739 = .ok (.iadd, 1) := by decide +kernel
theorem dLW_740 : decode cLW 740 = .ok (.iaload, 1) := by decide +kernel
theorem dLW_741 : decode cLW 741 = .ok (.invokevirtual 94, 3) := by decide +kernel
theorem dLW_744 : decode cLW 744 = .ok (.if_icmp .eq 226, 3) := by decide +kernel
theorem dLW_747 : decode cLW 747 = .ok (.iconst 0, 1) := by decide +kernel
theorem dLW_748 : decode cLW 748 = .ok (.ireturn, 1) := by decide +kernel
theorem dLW_749 : decode cLW 749 = .ok (.aload_n 1, 1) := by decide +kernel
theorem dLW_750 : decode cLW 750 = .ok (.aload_n 0, 1) := by decide +kernel
theorem dLW_751 : decode cLW 751 = .ok (.iload_n 3, 1) := by decide +kernel
theorem dLW_752 : decode cLW 752 = .ok (.iconst 1, 1) := by decide +kernel
theorem dLW_753 : decode cLW 753 = .ok (.iadd, 1) := by decide +kernel
theorem dLW_754 : decode cLW 754 = .ok (.iaload, 1) := by decide +kernel
theorem dLW_755 : decode cLW 755 = .ok (.aload_n 0, 1) := by decide +kernel
theorem dLW_756 : decode cLW 756 = .ok (.iload_n 3, 1) := by decide +kernel
theorem dLW_757 : decode cLW 757 = .ok (.iconst 2, 1) := by decide +kernel
theorem dLW_758 : decode cLW 758 = .ok (.iadd, 1) := by decide +kernel
theorem dLW_759 : decode cLW 759 = .ok (.iaload, 1) := by decide +kernel
theorem dLW_760 : decode cLW 760 = .ok (.invokevirtual 95, 3) := by decide +kernel
theorem dLW_763 : decode cLW 763 = .ok (.aload_n 2, 1) := by decide +kernel
theorem dLW_764 : decode cLW 764 = .ok (.aload_n 0, 1) := by decide +kernel
theorem dLW_765 : decode cLW 765 = .ok (.iload_n 3, 1) := by decide +kernel
theorem dLW_766 : decode cLW 766 = .ok (.iconst 1, 1) := by decide +kernel
theorem dLW_767 : decode cLW 767 = .ok (.iadd, 1) := by decide +kernel
theorem dLW_768 : decode cLW 768 = .ok (.iaload, 1) := by decide +kernel
theorem dLW_769 : decode cLW 769 = .ok (.aload_n 0, 1) := by decide +kernel
theorem dLW_770 : decode cLW 770 = .ok (.iload_n 3, 1) := by decide +kernel
theorem dLW_771 : decode cLW 771 = .ok (.iconst 2, 1) := by decide +kernel
theorem dLW_772 : decode cLW 772 = .ok (.iadd, 1) := by decide +kernel
theorem dLW_773 : decode cLW 773 = .ok (.iaload, 1) := by decide +kernel
theorem dLW_774 : decode cLW 774 = .ok (.invokevirtual 98, 3) := by decide +kernel
theorem dLW_777 : decode cLW 777 = .ok (.if_icmp .eq 193, 3) := by decide +kernel
theorem dLW_780 : decode cLW 780 = .ok (.iconst 0, 1) := by decide +kernel
theorem dLW_781 : decode cLW 781 = .ok (.ireturn, 1) := by decide +kernel
theorem dLW_782 : decode cLW 782 = .ok (.aload_n 1, 1) := by decide +kernel
theorem dLW_783 : decode cLW 783 = .ok (.aload_n 0, 1) := by decide +kernel
theorem dLW_784 : decode cLW 784 = .ok (.iload_n 3, 1) := by decide +kernel
theorem dLW_785 : decode cLW 785 = .ok (.iconst 1, 1) := by decide +kernel
theorem dLW_786 : decode cLW 786 = .ok (.iadd, 1) := by decide +kernel
theorem dLW_787 : decode cLW 787 = .ok (.iaload, 1) := by decide +kernel
theorem dLW_788 : decode cLW 788 = .ok (.aload_n 0, 1) := by decide +kernel
theorem dLW_789 : decode cLW 789 = .ok (.iload_n 3, 1) := by decide +kernel
theorem dLW_790 : decode cLW 790 = .ok (.iconst 2, 1) := by decide +kernel
theorem dLW_791 : decode cLW 791 = .ok (.iadd, 1) := by decide +kernel
theorem dLW_792 : decode cLW 792 = .ok (.iaload, 1) := by decide +kernel
theorem dLW_793 : decode cLW 793 = .ok (.invokevirtual 99, 3) := by decide +kernel
theorem dLW_796 : decode cLW 796 = .ok (.aload_n 2, 1) := by decide +kernel
theorem dLW_797 : decode cLW 797 = .ok (.aload_n 0, 1) := by decide +kernel
theorem dLW_798 : decode cLW 798 = .ok (.iload_n 3, 1) := by decide +kernel
theorem dLW_799 : decode cLW 799 = .ok (.iconst 1, 1) := by decide +kernel
theorem dLW_800 : decode cLW 800 = .ok (.iadd, 1) := by decide +kernel
theorem dLW_801 : decode cLW 801 = .ok (.iaload, 1) := by decide +kernel
theorem dLW_802 : decode cLW 802 = .ok (.aload_n 0, 1) := by decide +kernel
theorem dLW_803 : decode cLW 803 = .ok (.iload_n 3, 1) := by decide +kernel
theorem dLW_804 : decode cLW 804 = .ok (.iconst 2, 1) := by decide +kernel
theorem dLW_805 : decode cLW 805 = .ok (.iadd, 1) := by decide +kernel
theorem dLW_806 : decode cLW 806 = .ok (.iaload, 1) := by decide +kernel
theorem dLW_807 : decode cLW 807 = .ok (.invokevirtual 102, 3) := by decide +kernel
theorem dLW_810 : decode cLW 810 = .ok (.if_icmp .eq 160, 3) := by decide +kernel
theorem dLW_813 : decode cLW 813 = .ok (.iconst 0, 1) := by decide +kernel
theorem dLW_814 : decode cLW 814 = .ok (.ireturn, 1) := by decide +kernel
theorem dLW_815 : decode cLW 815 = .ok (.aload_n 1, 1) := by decide +kernel
theorem dLW_816 : decode cLW 816 = .ok (.aload_n 0, 1) := by decide +kernel
theorem dLW_817 : decode cLW 817 = .ok (.iload_n 3, 1) := by decide +kernel
theorem dLW_818 : decode cLW 818 = .ok (.iconst 1, 1) := by decide +kernel
theorem dLW_819 : decode cLW 819 = .ok (.iadd, 1) := by decide +kernel
theorem dLW_820 : decode cLW 820 = .ok (.iaload, 1) := by decide +kernel
theorem dLW_821 : decode cLW 821 = .ok (.aload_n 0, 1) := by decide +kernel
theorem dLW_822 : decode cLW 822 = .ok (.iload_n 3, 1) := by decide +kernel
theorem dLW_823 : decode cLW 823 = .ok (.iconst 2, 1) := by decide +kernel
theorem dLW_824 : decode cLW 824 = .ok (.iadd, 1) := by decide +kernel
theorem dLW_825 : decode cLW 825 = .ok (.iaload, 1) := by decide +kernel
theorem dLW_826 : decode cLW 826 = .ok (.aload_n 0, 1) := by decide +kernel
theorem dLW_827 : decode cLW 827 = .ok (.iload_n 3, 1) := by decide +kernel
theorem dLW_828 : decode cLW 828 = .ok (.iconst 3, 1) := by decide +kernel
theorem dLW_829 : decode cLW 829 = .ok (.iadd, 1) := by decide +kernel
theorem dLW_830 : decode cLW 830 = .ok (.iaload, 1) := by decide +kernel
theorem dLW_831 : decode cLW 831 = .ok (.invokevirtual 103, 3) := by decide +kernel
theorem dLW_834 : decode cLW 834 = .ok (.aload_n 2, 1) := by decide +kernel
theorem dLW_835 : decode cLW 835 = .ok (.aload_n 0, 1) := by decide +kernel
theorem dLW_836 : decode cLW 836 = .ok (.iload_n 3, 1) := by decide +kernel
theorem dLW_837 : decode cLW 837 = .ok (.iconst 1, 1) := by decide +kernel
theorem dLW_838 : decode cLW 838 = .ok (.iadd, 1) := by decide +kernel
theorem dLW_839 : decode cLW 839 = .ok (.iaload, 1) := by decide +kernel
theorem dLW_840 : decode cLW 840 = .ok (.aload_n 0, 1) := by decide +kernel
theorem dLW_841 : decode cLW 841 = .ok (.iload_n 3, 1) := by decide +kernel
theorem dLW_842 : decode cLW 842 = .ok (.iconst 2, 1) := by decide +kernel
theorem dLW_843 : decode cLW 843 = .ok (.iadd, 1) := by decide +kernel
theorem dLW_844 : decode cLW 844 = .ok (.iaload, 1) := by decide +kernel
theorem dLW_845 : decode cLW 845 = .ok (.aload_n 0, 1) := by decide +kernel
theorem dLW_846 : decode cLW 846 = .ok (.iload_n 3, 1) := by decide +kernel
theorem dLW_847 : decode cLW 847 = .ok (.iconst 3, 1) := by decide +kernel
theorem dLW_848 : decode cLW 848 = .ok (.iadd, 1) := by decide +kernel
theorem dLW_849 : decode cLW 849 = .ok (.iaload, 1) := by decide +kernel
theorem dLW_850 : decode cLW 850 = .ok (.invokevirtual 106, 3) := by decide +kernel
theorem dLW_853 : decode cLW 853 = .ok (.if_icmp .eq 117, 3) := by decide +kernel
theorem dLW_856 : decode cLW 856 = .ok (.iconst 0, 1) := by decide +kernel
theorem dLW_857 : decode cLW 857 = .ok (.ireturn, 1) := by decide +kernel
theorem dLW_858 : decode cLW 858 = .ok (.aload_n 1, 1) := by decide +kernel
theorem dLW_859 : decode cLW 859 = .ok (.aload_n 0, 1) := by decide +kernel
theorem dLW_860 : decode cLW 860 = .ok (.iload_n 3, 1) := by decide +kernel
theorem dLW_861 : decode cLW 861 = .ok (.iconst 1, 1) := by decide +kernel
theorem dLW_862 : decode cLW 862 = .ok (.iadd, 1) := by decide +kernel
theorem dLW_863 : decode cLW 863 = .ok (.iaload, 1) := by decide +kernel
theorem dLW_864 : decode cLW 864 = .ok (.aload_n 0, 1) := by decide +kernel
theorem dLW_865 : decode cLW 865 = .ok (.iload_n 3, 1) := by decide +kernel
theorem dLW_866 : decode cLW 866 = .ok (.iconst 2, 1) := by decide +kernel
theorem dLW_867 : decode cLW 867 = .ok (.iadd, 1) := by decide +kernel
theorem dLW_868 : decode cLW 868 = .ok (.iaload, 1) := by decide +kernel
theorem dLW_869 : decode cLW 869 = .ok (.invokevirtual 107, 3) := by decide +kernel
theorem dLW_872 : decode cLW 872 = .ok (.aload_n 2, 1) := by decide +kernel
theorem dLW_873 : decode cLW 873 = .ok (.aload_n 0, 1) := by decide +kernel
theorem dLW_874 : decode cLW 874 = .ok (.iload_n 3, 1) := by decide +kernel
theorem dLW_875 : decode cLW 875 = .ok (.iconst 1, 1) := by decide +kernel
theorem dLW_876 : decode cLW 876 = .ok (.iadd, 1) := by decide +kernel
theorem dLW_877 : decode cLW 877 = .ok (.iaload, 1) := by decide +kernel
theorem dLW_878 : decode cLW 878 = .ok (.aload_n 0, 1) := by decide +kernel
theorem dLW_879 : decode cLW 879 = .ok (.iload_n 3, 1) := by decide +kernel
theorem dLW_880 : decode cLW 880 = .ok (.iconst 2, 1) := by decide +kernel
theorem dLW_881 : decode cLW 881 = .ok (.iadd, 1) := by decide +kernel
theorem dLW_882 : decode cLW 882 = .ok (.iaload, 1) := by decide +kernel
theorem dLW_883 : decode cLW 883 = .ok (.invokevirtual 110, 3) := by decide +kernel
theorem dLW_886 : decode cLW 886 = .ok (.if_icmp .eq 84, 3) := by decide +kernel
theorem dLW_889 : decode cLW 889 = .ok (.iconst 0, 1) := by decide +kernel
theorem dLW_890 : decode cLW 890 = .ok (.ireturn, 1) := by decide +kernel
theorem dLW_891 : decode cLW 891 = .ok (.aload_n 1, 1) := by decide +kernel
theorem dLW_892 : decode cLW 892 = .ok (.aload_n 0, 1) := by decide +kernel
theorem dLW_893 : decode cLW 893 = .ok (.iload_n 3, 1) := by decide +kernel
theorem dLW_894 : decode cLW 894 = .ok (.iconst 1, 1) := by decide +kernel
theorem dLW_895 : decode cLW 895 = .ok (.iadd, 1) := by decide +kernel
theorem dLW_896 : decode cLW 896 = .ok (.iaload, 1) := by decide +kernel
theorem dLW_897 : decode cLW 897 = .ok (.aload_n 0, 1) := by decide +kernel
theorem dLW_898 : decode cLW 898 = .ok (.iload_n 3, 1) := by decide +kernel
theorem dLW_899 : decode cLW 899 = .ok (.iconst 2, 1) := by decide +kernel
theorem dLW_900 : decode cLW 900 = .ok (.iadd, 1) := by decide +kernel
theorem dLW_901 : decode cLW 901 = .ok (.iaload, 1) := by decide +kernel
theorem dLW_902 : decode cLW 902 = .ok (.invokevirtual 111, 3) := by decide +kernel
theorem dLW_905 : decode cLW 905 = .ok (.aload_n 2, 1) := by decide +kernel
theorem dLW_906 : decode cLW 906 = .ok (.aload_n 0, 1) := by decide +kernel
theorem dLW_907 : decode cLW 907 = .ok (.iload_n 3, 1) := by decide +kernel
theorem dLW_908 : decode cLW 908 = .ok (.iconst 1, 1) := by decide +kernel
theorem dLW_909 : decode cLW 909 = .ok (.iadd, 1) := by decide +kernel
theorem dLW_910 : decode cLW 910 = .ok (.iaload, 1) := by decide +kernel
theorem dLW_911 : decode cLW 911 = .ok (.aload_n 0, 1) := by decide +kernel
theorem dLW_912 : decode cLW 912 = .ok (.iload_n 3, 1) := by decide +kernel
theorem dLW_913 : decode cLW 913 = .ok (.iconst 2, 1) := by decide +kernel
theorem dLW_914 : decode cLW 914 = .ok (.iadd, 1) := by decide +kernel
theorem dLW_915 : decode cLW 915 = .ok (.iaload, 1) := by decide +kernel
theorem dLW_916 : decode cLW 916 = .ok (.invokevirtual 114, 3) := by decide +kernel
theorem dLW_919 : decode cLW 919 = .ok (.if_icmp .eq 51, 3) := by decide +kernel
theorem dLW_922 : decode cLW 922 = .ok (.iconst 0, 1) := by decide +kernel
theorem dLW_923 : decode cLW 923 = .ok (.ireturn, 1) := by decide +kernel
theorem dLW_924 : decode cLW 924 = .ok (.aload_n 1, 1) := by decide +kernel
theorem dLW_925 : decode cLW 925 = .ok (.aload_n 0, 1) := by decide +kernel
theorem dLW_926 : decode cLW 926 = .ok (.iload_n 3, 1) := by decide +kernel
theorem dLW_927 : decode cLW 927 = .ok (.iconst 1, 1) := by decide +kernel
theorem dLW_928 : decode cLW 928 = .ok (.iadd, 1) := by decide +kernel
theorem dLW_929 : decode cLW 929 = .ok (.iaload, 1) := by decide +kernel
theorem dLW_930 : decode cLW 930 = .ok (.aload_n 0, 1) := by decide +kernel
theorem dLW_931 : decode cLW 931 = .ok (.iload_n 3, 1) := by decide +kernel
theorem dLW_932 : decode cLW 932 = .ok (.iconst 2, 1) := by decide +kernel
theorem dLW_933 : decode cLW 933 = .ok (.iadd, 1) := by decide +kernel
theorem dLW_934 : decode cLW 934 = .ok (.iaload, 1) := by decide +kernel
theorem dLW_935 : decode cLW 935 = .ok (.invokevirtual 115, 3) := by decide +kernel
theorem dLW_938 : decode cLW 938 = .ok (.aload_n 2, 1) := by decide +kernel
theorem dLW_939 : decode cLW 939 = .ok (.aload_n 0, 1) := by decide +kernel
theorem dLW_940 : decode cLW 940 = .ok (.iload_n 3, 1) := by decide +kernel
theorem dLW_941 : decode cLW 941 = .ok (.iconst 1, 1) := by decide +kernel
theorem dLW_942 : decode cLW 942 = .ok (.iadd, 1) := by decide +kernel
theorem dLW_943 : decode cLW 943 = .ok (.iaload, 1) := by decide +kernel
theorem dLW_944 : decode cLW 944 = .ok (.aload_n 0, 1) := by decide +kernel
theorem dLW_945 : decode cLW 945 = .ok (.iload_n 3, 1) := by decide +kernel
theorem dLW_946 : decode cLW 946 = .ok (.iconst 2, 1) := by decide +kernel
theorem dLW_947 : decode cLW 947 = .ok (.iadd, 1) := by decide +kernel
theorem dLW_948 : decode cLW 948 = .ok (.iaload, 1) := by decide +kernel
theorem dLW_949 : decode cLW 949 = .ok (.invokevirtual 118, 3) := by decide +kernel
theorem dLW_952 : decode cLW 952 = .ok (.if_icmp .eq 18, 3) := by decide +kernel
theorem dLW_955 : decode cLW 955 = .ok (.iconst 0, 1) := by decide +kernel
theorem dLW_956 : decode cLW 956 = .ok (.ireturn, 1) := by decide +kernel
theorem dLW_957 : decode cLW 957 = .ok (.aload_n 1, 1) := by decide +kernel
theorem dLW_958 : decode cLW 958 = .ok (.invokevirtual 119, 3) := by decide +kernel
theorem dLW_961 : decode cLW 961 = .ok (.aload_n 2, 1) := by decide +kernel
theorem dLW_962 : decode cLW 962 = .ok (.invokevirtual 122, 3) := by decide +kernel
theorem dLW_965 : decode cLW 965 = .ok (.if_icmp .eq 5, 3) := by decide +kernel
theorem dLW_968 : decode cLW 968 = .ok (.iconst 0, 1) := by decide +kernel
theorem dLW_969 : decode cLW 969 = .ok (.ireturn, 1) := by decide +kernel
theorem dLW_970 : decode cLW 970 = .ok (.iinc 3 6, 3) := by decide +kernel
theorem dLW_973 : decode cLW 973 = .ok (.goto (-955), 3) := by decide +kernel
theorem dLW_976 : decode cLW 976 = .ok (.iconst 1, 1) := by decide +kernel
theorem dLW_977 : decode cLW 977 = .ok (.ireturn, 1) := by decide +kernel
