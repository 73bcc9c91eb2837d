theorem tw15 : (Jvm.Cond.initialized "LeafFormulaModel") ∈ gtbl := gt_of 108 (by decide +kernel) (by decide +kernel)
theorem tw1278 : (Jvm.Cond.fieldLink "LeafFormulaModel" (69 : Nat) "LeafFormulaModel" "tape" "[I") ∈ gtbl := gt_of 1371 (by decide +kernel) (by decide +kernel)
theorem tw1279 : (Jvm.Cond.fieldLink "LeafFormulaModel" (90 : Nat) "LeafFormulaModel" "taped" "I") ∈ gtbl := gt_of 1372 (by decide +kernel) (by decide +kernel)
theorem tw1280 : (Jvm.Cond.fieldLink "LeafFormulaModel" (1 : Nat) "LeafFormulaModel" "status" "I") ∈ gtbl := gt_of 1373 (by decide +kernel) (by decide +kernel)
theorem tw1281 : (Jvm.Cond.fieldLink "LeafFormulaModel" (117 : Nat) "LeafFormulaModel" "wrongAt" "I") ∈ gtbl := gt_of 1374 (by decide +kernel) (by decide +kernel)
theorem tw1282 : (Jvm.Cond.fieldLink "LeafFormulaModel" (114 : Nat) "LeafFormulaModel" "faultOf" "I") ∈ gtbl := gt_of 1375 (by decide +kernel) (by decide +kernel)
theorem tw1283 : (Jvm.Cond.fieldLink "LeafFormulaModel" (7 : Nat) "LeafFormulaModel" "books" "I") ∈ gtbl := gt_of 1376 (by decide +kernel) (by decide +kernel)
theorem tw1284 : (Jvm.Cond.fieldLink "LeafFormulaModel" (17 : Nat) "LeafFormulaModel" "gatherings" "[I") ∈ gtbl := gt_of 1377 (by decide +kernel) (by decide +kernel)
theorem tw1285 : (Jvm.Cond.fieldLink "LeafFormulaModel" (21 : Nat) "LeafFormulaModel" "signOf" "[I") ∈ gtbl := gt_of 1378 (by decide +kernel) (by decide +kernel)
theorem tw1286 : (Jvm.Cond.fieldLink "LeafFormulaModel" (24 : Nat) "LeafFormulaModel" "sizeOf" "[I") ∈ gtbl := gt_of 1379 (by decide +kernel) (by decide +kernel)
theorem tw1287 : (Jvm.Cond.fieldLink "LeafFormulaModel" (31 : Nat) "LeafFormulaModel" "fate" "[I") ∈ gtbl := gt_of 1380 (by decide +kernel) (by decide +kernel)
theorem tw1288 : (Jvm.Cond.fieldLink "LeafFormulaModel" (34 : Nat) "LeafFormulaModel" "more" "[I") ∈ gtbl := gt_of 1381 (by decide +kernel) (by decide +kernel)
theorem tw1289 : (Jvm.Cond.fieldLink "LeafFormulaModel" (46 : Nat) "LeafFormulaModel" "leaves" "[I") ∈ gtbl := gt_of 1382 (by decide +kernel) (by decide +kernel)
theorem tw1290 : (Jvm.Cond.fieldLink "LeafFormulaModel" (37 : Nat) "LeafFormulaModel" "leafIn" "[I") ∈ gtbl := gt_of 1383 (by decide +kernel) (by decide +kernel)
theorem tw1291 : (Jvm.Cond.fieldLink "LeafFormulaModel" (40 : Nat) "LeafFormulaModel" "leafAt" "[I") ∈ gtbl := gt_of 1384 (by decide +kernel) (by decide +kernel)
theorem tw1292 : (Jvm.Cond.fieldLink "LeafFormulaModel" (43 : Nat) "LeafFormulaModel" "leafOf" "[I") ∈ gtbl := gt_of 1385 (by decide +kernel) (by decide +kernel)
theorem tw1293 : (Jvm.Cond.fieldLink "LeafFormulaModel" (14 : Nat) "LeafFormulaModel" "copies" "I") ∈ gtbl := gt_of 1386 (by decide +kernel) (by decide +kernel)
theorem tw1297 : (Jvm.Cond.fieldLink "LeafFormulaModel" (57 : Nat) "LeafFormulaModel" "at" "I") ∈ gtbl := gt_of 1390 (by decide +kernel) (by decide +kernel)
theorem tw1298 : (Jvm.Cond.fieldLink "LeafFormulaModel" (60 : Nat) "LeafFormulaModel" "begin" "I") ∈ gtbl := gt_of 1391 (by decide +kernel) (by decide +kernel)
theorem tw1299 : (Jvm.Cond.fieldLink "LeafFormulaModel" (93 : Nat) "LeafFormulaModel" "token" "I") ∈ gtbl := gt_of 1392 (by decide +kernel) (by decide +kernel)
theorem tw1300 : (Jvm.Cond.fieldLink "LeafFormulaModel" (96 : Nat) "LeafFormulaModel" "value" "I") ∈ gtbl := gt_of 1393 (by decide +kernel) (by decide +kernel)
theorem tw1301 : (Jvm.Cond.fieldLink "LeafFormulaModel" (102 : Nat) "LeafFormulaModel" "good" "Z") ∈ gtbl := gt_of 1394 (by decide +kernel) (by decide +kernel)
theorem tw1303 : (Jvm.Cond.fieldLink "LeafFormulaModel" (120 : Nat) "LeafFormulaModel" "changes" "I") ∈ gtbl := gt_of 1396 (by decide +kernel) (by decide +kernel)
theorem tw1310 : (Jvm.Cond.fieldLink "LeafFormulaModel" (123 : Nat) "LeafFormulaModel" "changeWhat" "[I") ∈ gtbl := gt_of 1403 (by decide +kernel) (by decide +kernel)
theorem tw1311 : (Jvm.Cond.fieldLink "LeafFormulaModel" (129 : Nat) "LeafFormulaModel" "changeSign" "[I") ∈ gtbl := gt_of 1404 (by decide +kernel) (by decide +kernel)
theorem tw1312 : (Jvm.Cond.fieldLink "LeafFormulaModel" (135 : Nat) "LeafFormulaModel" "changeAt" "[I") ∈ gtbl := gt_of 1405 (by decide +kernel) (by decide +kernel)
theorem tw1313 : (Jvm.Cond.fieldLink "LeafFormulaModel" (138 : Nat) "LeafFormulaModel" "changeBy" "[I") ∈ gtbl := gt_of 1406 (by decide +kernel) (by decide +kernel)
theorem tw1434 : (Jvm.Cond.code ({ cls := "LeafFormulaModel", name := "no", desc := "(I)I" } : Jvm.MethodName) prog_14_method_2_code (2 : Nat) (Option.some Jvm.ClassFile.FieldType.int)) ∈ gtbl := gt_of 1527 (by decide +kernel) (by decide +kernel)
theorem tw1438 : (Jvm.Cond.code ({ cls := "LeafFormulaModel", name := "fine", desc := "(I)I" } : Jvm.MethodName) prog_14_method_1_code (2 : Nat) (Option.some Jvm.ClassFile.FieldType.int)) ∈ gtbl := gt_of 1531 (by decide +kernel) (by decide +kernel)
theorem tw1443 : (Jvm.Cond.methodLink "LeafFormulaModel" (10 : Nat) ({ cls := "LeafFormulaModel", name := "isIn", desc := "(III)Z" } : Jvm.MethodName)) ∈ gtbl := gt_of 1536 (by decide +kernel) (by decide +kernel)
theorem tw1444 : (Jvm.Cond.static ({ cls := "LeafFormulaModel", name := "isIn", desc := "(III)Z" } : Jvm.MethodName)) ∈ gtbl := gt_of 1537 (by decide +kernel) (by decide +kernel)
theorem tw1445 : (Jvm.Cond.code ({ cls := "LeafFormulaModel", name := "isIn", desc := "(III)Z" } : Jvm.MethodName) prog_14_method_3_code (3 : Nat) (Option.some Jvm.ClassFile.FieldType.boolean)) ∈ gtbl := gt_of 1538 (by decide +kernel) (by decide +kernel)
theorem tw1453 : (Jvm.Cond.code ({ cls := "LeafFormulaModel", name := "begins", desc := "()V" } : Jvm.MethodName) prog_14_method_20_code (1 : Nat) (Option.none : Option Jvm.ClassFile.FieldType)) ∈ gtbl := gt_of 1546 (by decide +kernel) (by decide +kernel)
theorem tw1454 : (Jvm.Cond.methodLink "LeafFormulaModel" (106 : Nat) ({ cls := "LeafFormulaModel", name := "next", desc := "()V" } : Jvm.MethodName)) ∈ gtbl := gt_of 1547 (by decide +kernel) (by decide +kernel)
theorem tw1456 : (Jvm.Cond.instanceMethod ({ cls := "LeafFormulaModel", name := "next", desc := "()V" } : Jvm.MethodName)) ∈ gtbl := gt_of 1549 (by decide +kernel) (by decide +kernel)
theorem tw1457 : (Jvm.Cond.code ({ cls := "LeafFormulaModel", name := "next", desc := "()V" } : Jvm.MethodName) prog_14_method_15_code (2 : Nat) (Option.none : Option Jvm.ClassFile.FieldType)) ∈ gtbl := gt_of 1550 (by decide +kernel) (by decide +kernel)
theorem tw1458 : (Jvm.Cond.methodLink "LeafFormulaModel" (99 : Nat) ({ cls := "LeafFormulaModel", name := "signHere", desc := "()I" } : Jvm.MethodName)) ∈ gtbl := gt_of 1551 (by decide +kernel) (by decide +kernel)
theorem tw1460 : (Jvm.Cond.instanceMethod ({ cls := "LeafFormulaModel", name := "signHere", desc := "()I" } : Jvm.MethodName)) ∈ gtbl := gt_of 1553 (by decide +kernel) (by decide +kernel)
theorem tw1461 : (Jvm.Cond.code ({ cls := "LeafFormulaModel", name := "signHere", desc := "()I" } : Jvm.MethodName) prog_14_method_14_code (4 : Nat) (Option.some Jvm.ClassFile.FieldType.int)) ∈ gtbl := gt_of 1554 (by decide +kernel) (by decide +kernel)
theorem tw1463 : (Jvm.Cond.methodLink "LeafFormulaModel" (78 : Nat) ({ cls := "LeafFormulaModel", name := "isSpelled", desc := "(Ljava/lang/String;)Z" } : Jvm.MethodName)) ∈ gtbl := gt_of 1556 (by decide +kernel) (by decide +kernel)
theorem tw1465 : (Jvm.Cond.instanceMethod ({ cls := "LeafFormulaModel", name := "isSpelled", desc := "(Ljava/lang/String;)Z" } : Jvm.MethodName)) ∈ gtbl := gt_of 1558 (by decide +kernel) (by decide +kernel)
theorem tw1466 : (Jvm.Cond.code ({ cls := "LeafFormulaModel", name := "isSpelled", desc := "(Ljava/lang/String;)Z" } : Jvm.MethodName) prog_14_method_13_code (4 : Nat) (Option.some Jvm.ClassFile.FieldType.boolean)) ∈ gtbl := gt_of 1559 (by decide +kernel) (by decide +kernel)
theorem tw1467 : (Jvm.Cond.methodLink "LeafFormulaModel" (63 : Nat) ({ cls := "java/lang/String", name := "length", desc := "()I" } : Jvm.MethodName)) ∈ gtbl := gt_of 1560 (by decide +kernel) (by decide +kernel)
theorem tw1468 : (Jvm.Cond.methodLink "LeafFormulaModel" (72 : Nat) ({ cls := "java/lang/String", name := "charAt", desc := "(I)C" } : Jvm.MethodName)) ∈ gtbl := gt_of 1561 (by decide +kernel) (by decide +kernel)
theorem tw1471 : (Jvm.Cond.methodLink "LeafFormulaModel" (86 : Nat) ({ cls := "java/lang/String", name := "indexOf", desc := "(I)I" } : Jvm.MethodName)) ∈ gtbl := gt_of 1564 (by decide +kernel) (by decide +kernel)
theorem tw1476 : (Jvm.Cond.methodLink "LeafFormulaModel" (132 : Nat) ({ cls := "LeafFormulaModel", name := "take", desc := "(I)I" } : Jvm.MethodName)) ∈ gtbl := gt_of 1569 (by decide +kernel) (by decide +kernel)
theorem tw1478 : (Jvm.Cond.instanceMethod ({ cls := "LeafFormulaModel", name := "take", desc := "(I)I" } : Jvm.MethodName)) ∈ gtbl := gt_of 1571 (by decide +kernel) (by decide +kernel)
theorem tw1479 : (Jvm.Cond.code ({ cls := "LeafFormulaModel", name := "take", desc := "(I)I" } : Jvm.MethodName) prog_14_method_17_code (3 : Nat) (Option.some Jvm.ClassFile.FieldType.int)) ∈ gtbl := gt_of 1572 (by decide +kernel) (by decide +kernel)
theorem tw1480 : (Jvm.Cond.methodLink "LeafFormulaModel" (126 : Nat) ({ cls := "LeafFormulaModel", name := "goes", desc := "(I)Z" } : Jvm.MethodName)) ∈ gtbl := gt_of 1573 (by decide +kernel) (by decide +kernel)
theorem tw1482 : (Jvm.Cond.instanceMethod ({ cls := "LeafFormulaModel", name := "goes", desc := "(I)Z" } : Jvm.MethodName)) ∈ gtbl := gt_of 1575 (by decide +kernel) (by decide +kernel)
theorem tw1483 : (Jvm.Cond.code ({ cls := "LeafFormulaModel", name := "goes", desc := "(I)Z" } : Jvm.MethodName) prog_14_method_19_code (3 : Nat) (Option.some Jvm.ClassFile.FieldType.boolean)) ∈ gtbl := gt_of 1576 (by decide +kernel) (by decide +kernel)
theorem tw1484 : (Jvm.Cond.methodLink "LeafFormulaModel" (110 : Nat) ({ cls := "LeafFormulaModel", name := "isMark", desc := "(I)Z" } : Jvm.MethodName)) ∈ gtbl := gt_of 1577 (by decide +kernel) (by decide +kernel)
theorem tw1486 : (Jvm.Cond.instanceMethod ({ cls := "LeafFormulaModel", name := "isMark", desc := "(I)Z" } : Jvm.MethodName)) ∈ gtbl := gt_of 1579 (by decide +kernel) (by decide +kernel)
theorem tw1487 : (Jvm.Cond.code ({ cls := "LeafFormulaModel", name := "isMark", desc := "(I)Z" } : Jvm.MethodName) prog_14_method_16_code (2 : Nat) (Option.some Jvm.ClassFile.FieldType.boolean)) ∈ gtbl := gt_of 1580 (by decide +kernel) (by decide +kernel)
theorem tw1491 : (Jvm.Cond.code ({ cls := "LeafFormulaModel", name := "readChanges", desc := "()V" } : Jvm.MethodName) prog_14_method_23_code (1 : Nat) (Option.none : Option Jvm.ClassFile.FieldType)) ∈ gtbl := gt_of 1584 (by decide +kernel) (by decide +kernel)
theorem tw1492 : (Jvm.Cond.methodLink "LeafFormulaModel" (145 : Nat) ({ cls := "LeafFormulaModel", name := "readChange", desc := "()V" } : Jvm.MethodName)) ∈ gtbl := gt_of 1585 (by decide +kernel) (by decide +kernel)
theorem tw1494 : (Jvm.Cond.instanceMethod ({ cls := "LeafFormulaModel", name := "readChange", desc := "()V" } : Jvm.MethodName)) ∈ gtbl := gt_of 1587 (by decide +kernel) (by decide +kernel)
theorem tw1495 : (Jvm.Cond.code ({ cls := "LeafFormulaModel", name := "readChange", desc := "()V" } : Jvm.MethodName) prog_14_method_22_code (2 : Nat) (Option.none : Option Jvm.ClassFile.FieldType)) ∈ gtbl := gt_of 1588 (by decide +kernel) (by decide +kernel)
theorem tw1496 : (Jvm.Cond.methodLink "LeafFormulaModel" (141 : Nat) ({ cls := "LeafFormulaModel", name := "must", desc := "(I)V" } : Jvm.MethodName)) ∈ gtbl := gt_of 1589 (by decide +kernel) (by decide +kernel)
theorem tw1498 : (Jvm.Cond.instanceMethod ({ cls := "LeafFormulaModel", name := "must", desc := "(I)V" } : Jvm.MethodName)) ∈ gtbl := gt_of 1591 (by decide +kernel) (by decide +kernel)
theorem tw1499 : (Jvm.Cond.code ({ cls := "LeafFormulaModel", name := "must", desc := "(I)V" } : Jvm.MethodName) prog_14_method_18_code (2 : Nat) (Option.none : Option Jvm.ClassFile.FieldType)) ∈ gtbl := gt_of 1592 (by decide +kernel) (by decide +kernel)
theorem tw1503 : (Jvm.Cond.code ({ cls := "LeafFormulaModel", name := "ends", desc := "()Z" } : Jvm.MethodName) prog_14_method_21_code (1 : Nat) (Option.some Jvm.ClassFile.FieldType.boolean)) ∈ gtbl := gt_of 1596 (by decide +kernel) (by decide +kernel)
theorem tw1527 : (Jvm.Cond.methodLink "LeafFormulaModel" (27 : Nat) ({ cls := "LeafFormulaModel", name := "spot", desc := "(III)I" } : Jvm.MethodName)) ∈ gtbl := gt_of 1620 (by decide +kernel) (by decide +kernel)
theorem tw1528 : (Jvm.Cond.static ({ cls := "LeafFormulaModel", name := "spot", desc := "(III)I" } : Jvm.MethodName)) ∈ gtbl := gt_of 1621 (by decide +kernel) (by decide +kernel)
theorem tw1529 : (Jvm.Cond.code ({ cls := "LeafFormulaModel", name := "spot", desc := "(III)I" } : Jvm.MethodName) prog_14_method_6_code (3 : Nat) (Option.some Jvm.ClassFile.FieldType.int)) ∈ gtbl := gt_of 1622 (by decide +kernel) (by decide +kernel)
theorem tw1537 : (Jvm.Cond.code ({ cls := "LeafFormulaModel", name := "gatheringOf", desc := "(II)I" } : Jvm.MethodName) prog_14_method_7_code (4 : Nat) (Option.some Jvm.ClassFile.FieldType.int)) ∈ gtbl := gt_of 1630 (by decide +kernel) (by decide +kernel)
theorem tw1545 : (Jvm.Cond.code ({ cls := "LeafFormulaModel", name := "total", desc := "(I)I" } : Jvm.MethodName) prog_14_method_9_code (5 : Nat) (Option.some Jvm.ClassFile.FieldType.int)) ∈ gtbl := gt_of 1638 (by decide +kernel) (by decide +kernel)
theorem tw1549 : (Jvm.Cond.code ({ cls := "LeafFormulaModel", name := "layOut", desc := "(I)V" } : Jvm.MethodName) prog_14_method_8_code (7 : Nat) (Option.none : Option Jvm.ClassFile.FieldType)) ∈ gtbl := gt_of 1642 (by decide +kernel) (by decide +kernel)
theorem tw1557 : (Jvm.Cond.code ({ cls := "LeafFormulaModel", name := "isBook", desc := "(I)Z" } : Jvm.MethodName) prog_14_method_4_code (2 : Nat) (Option.some Jvm.ClassFile.FieldType.boolean)) ∈ gtbl := gt_of 1650 (by decide +kernel) (by decide +kernel)
theorem tw1574 : (Jvm.Cond.methodLink "LeafFormulaModel" (53 : Nat) ({ cls := "LeafFormulaModel", name := "placeOf", desc := "(IIII)I" } : Jvm.MethodName)) ∈ gtbl := gt_of 1667 (by decide +kernel) (by decide +kernel)
theorem tw1576 : (Jvm.Cond.instanceMethod ({ cls := "LeafFormulaModel", name := "placeOf", desc := "(IIII)I" } : Jvm.MethodName)) ∈ gtbl := gt_of 1669 (by decide +kernel) (by decide +kernel)
theorem tw1577 : (Jvm.Cond.code ({ cls := "LeafFormulaModel", name := "placeOf", desc := "(IIII)I" } : Jvm.MethodName) prog_14_method_10_code (7 : Nat) (Option.some Jvm.ClassFile.FieldType.int)) ∈ gtbl := gt_of 1670 (by decide +kernel) (by decide +kernel)
theorem tw1614 : (Jvm.Cond.methodLink "LeafFormulaModel" (49 : Nat) ({ cls := "LeafFormulaModel", name := "isPlain", desc := "(II)Z" } : Jvm.MethodName)) ∈ gtbl := gt_of 1707 (by decide +kernel) (by decide +kernel)
theorem tw1616 : (Jvm.Cond.instanceMethod ({ cls := "LeafFormulaModel", name := "isPlain", desc := "(II)Z" } : Jvm.MethodName)) ∈ gtbl := gt_of 1709 (by decide +kernel) (by decide +kernel)
theorem tw1617 : (Jvm.Cond.code ({ cls := "LeafFormulaModel", name := "isPlain", desc := "(II)Z" } : Jvm.MethodName) prog_14_method_11_code (4 : Nat) (Option.some Jvm.ClassFile.FieldType.boolean)) ∈ gtbl := gt_of 1710 (by decide +kernel) (by decide +kernel)
theorem tw1621 : (Jvm.Cond.code ({ cls := "LeafFormulaModel", name := "conjugate", desc := "(II)I" } : Jvm.MethodName) prog_14_method_12_code (7 : Nat) (Option.some Jvm.ClassFile.FieldType.int)) ∈ gtbl := gt_of 1714 (by decide +kernel) (by decide +kernel)
theorem tw1701 : (Jvm.Cond.code ({ cls := "LeafFormulaModel", name := "isCopy", desc := "(I)Z" } : Jvm.MethodName) prog_14_method_5_code (2 : Nat) (Option.some Jvm.ClassFile.FieldType.boolean)) ∈ gtbl := gt_of 1794 (by decide +kernel) (by decide +kernel)
theorem pw47 : Cond.selects "LeafFormulaModel" ⟨"LeafFormulaModel", "next", "()V"⟩ ⟨"LeafFormulaModel", "next", "()V"⟩ ∈ gtbl := gt_of 47 (by decide +kernel) (by decide +kernel)
theorem pw48 : Cond.selects "LeafFormulaModel" ⟨"LeafFormulaModel", "signHere", "()I"⟩ ⟨"LeafFormulaModel", "signHere", "()I"⟩ ∈ gtbl := gt_of 48 (by decide +kernel) (by decide +kernel)
theorem pw49 : Cond.selects "LeafFormulaModel" ⟨"LeafFormulaModel", "isSpelled", "(Ljava/lang/String;)Z"⟩ ⟨"LeafFormulaModel", "isSpelled", "(Ljava/lang/String;)Z"⟩ ∈ gtbl := gt_of 49 (by decide +kernel) (by decide +kernel)
theorem pw51 : Cond.selects "LeafFormulaModel" ⟨"LeafFormulaModel", "take", "(I)I"⟩ ⟨"LeafFormulaModel", "take", "(I)I"⟩ ∈ gtbl := gt_of 51 (by decide +kernel) (by decide +kernel)
theorem pw52 : Cond.selects "LeafFormulaModel" ⟨"LeafFormulaModel", "goes", "(I)Z"⟩ ⟨"LeafFormulaModel", "goes", "(I)Z"⟩ ∈ gtbl := gt_of 52 (by decide +kernel) (by decide +kernel)
theorem pw53 : Cond.selects "LeafFormulaModel" ⟨"LeafFormulaModel", "isMark", "(I)Z"⟩ ⟨"LeafFormulaModel", "isMark", "(I)Z"⟩ ∈ gtbl := gt_of 53 (by decide +kernel) (by decide +kernel)
theorem pw55 : Cond.selects "LeafFormulaModel" ⟨"LeafFormulaModel", "readChange", "()V"⟩ ⟨"LeafFormulaModel", "readChange", "()V"⟩ ∈ gtbl := gt_of 55 (by decide +kernel) (by decide +kernel)
theorem pw56 : Cond.selects "LeafFormulaModel" ⟨"LeafFormulaModel", "must", "(I)V"⟩ ⟨"LeafFormulaModel", "must", "(I)V"⟩ ∈ gtbl := gt_of 56 (by decide +kernel) (by decide +kernel)
theorem pw72 : Cond.selects "LeafFormulaModel" ⟨"LeafFormulaModel", "placeOf", "(IIII)I"⟩ ⟨"LeafFormulaModel", "placeOf", "(IIII)I"⟩ ∈ gtbl := gt_of 72 (by decide +kernel) (by decide +kernel)
theorem pw74 : Cond.selects "LeafFormulaModel" ⟨"LeafFormulaModel", "isPlain", "(II)Z"⟩ ⟨"LeafFormulaModel", "isPlain", "(II)Z"⟩ ∈ gtbl := gt_of 74 (by decide +kernel) (by decide +kernel)
/-! X12_fine -/
theorem dX12_fine_0 : decode cX12_fine 0 = .ok (.aload_n 0, 1) := by decide +kernel
theorem dX12_fine_1 : decode cX12_fine 1 = .ok (.iconst 0, 1) := by decide +kernel
theorem dX12_fine_2 : decode cX12_fine 2 = .ok (.putfield 1, 3) := by decide +kernel
theorem dX12_fine_5 : decode cX12_fine 5 = .ok (.iload_n 1, 1) := by decide +kernel
theorem dX12_fine_6 : decode cX12_fine 6 = .ok (.ireturn, 1) := by decide +kernel
def X12_fine (this : Nat) (a1 : Int32) : MM Int32 :=
  mb (pI 13 (some this) 2 (0 : Int32)) fun _ =>
  mr a1
set_option maxRecDepth 100000 in
set_option maxHeartbeats 4000000 in
theorem s_X12_fine (G : GG) (this : Nat) (a1 : Int32) : Sn G yX12_fine cX12_fine 2 (some FieldType.int) 0 0 (fun v : Int32 => some (.int v)) (X12_fine this a1) 0 [some (va_rf (some this)), some (.int a1)] [] := by
  unfold X12_fine
  refine sn_aload_n (v := (some this)) (pc' := 1) dX12_fine_0 rfl rfl rfl ?_
  refine sn_iconst (v := (0 : Int32)) (pc' := 2) dX12_fine_1 rfl (by decide) ?_
  refine sn_pI (k := 2) (pc' := 5) ci_13 rfl (Or.inl tw1280) (Or.inl rfl) rfl dX12_fine_2 rfl (fun _ => ?_)
  refine sn_iload_n (v := a1) (pc' := 6) dX12_fine_5 rfl rfl rfl ?_
  exact sn_iret dX12_fine_6 rfl rfl
theorem c_X12_fine (G : GG) (this : Nat) (a1 : Int32) : Cal G yX12_fine cX12_fine 2 (some FieldType.int) 0 0 (fun v : Int32 => some (.int v)) (X12_fine this a1) [.ref this, .int a1] :=
  Cal.of (by decide) (cat_t (cat_i cat_nil)) rfl (sn_weak (le_s (le_s le_e)) (s_X12_fine G this a1))
theorem cw_X12_fine : CW yX12_fine cX12_fine 2 (some FieldType.int) 1 := ⟨tw1438, tw15, by decide, by decide +kernel⟩
/-! X12_no -/
theorem dX12_no_0 : decode cX12_no 0 = .ok (.aload_n 0, 1) := by decide +kernel
theorem dX12_no_1 : decode cX12_no 1 = .ok (.iload_n 1, 1) := by decide +kernel
theorem dX12_no_2 : decode cX12_no 2 = .ok (.putfield 1, 3) := by decide +kernel
theorem dX12_no_5 : decode cX12_no 5 = .ok (.bipush (-9), 2) := by decide +kernel
theorem dX12_no_7 : decode cX12_no 7 = .ok (.ireturn, 1) := by decide +kernel
def X12_no (this : Nat) (a1 : Int32) : MM Int32 :=
  mb (pI 13 (some this) 2 a1) fun _ =>
  mr (-9 : Int32)
set_option maxRecDepth 100000 in
set_option maxHeartbeats 4000000 in
theorem s_X12_no (G : GG) (this : Nat) (a1 : Int32) : Sn G yX12_no cX12_no 2 (some FieldType.int) 0 0 (fun v : Int32 => some (.int v)) (X12_no this a1) 0 [some (va_rf (some this)), some (.int a1)] [] := by
  unfold X12_no
  refine sn_aload_n (v := (some this)) (pc' := 1) dX12_no_0 rfl rfl rfl ?_
  refine sn_iload_n (v := a1) (pc' := 2) dX12_no_1 rfl rfl rfl ?_
  refine sn_pI (k := 2) (pc' := 5) ci_13 rfl (Or.inl tw1280) (Or.inl rfl) rfl dX12_no_2 rfl (fun _ => ?_)
  refine sn_bipush (v := (-9 : Int32)) (pc' := 7) dX12_no_5 rfl (by decide) ?_
  exact sn_iret dX12_no_7 rfl rfl
theorem c_X12_no (G : GG) (this : Nat) (a1 : Int32) : Cal G yX12_no cX12_no 2 (some FieldType.int) 0 0 (fun v : Int32 => some (.int v)) (X12_no this a1) [.ref this, .int a1] :=
  Cal.of (by decide) (cat_t (cat_i cat_nil)) rfl (sn_weak (le_s (le_s le_e)) (s_X12_no G this a1))
theorem cw_X12_no : CW yX12_no cX12_no 2 (some FieldType.int) 1 := ⟨tw1434, tw15, by decide, by decide +kernel⟩
/-! X12_isIn -/
theorem dX12_isIn_0 : decode cX12_isIn 0 = .ok (.iload_n 0, 1) := by decide +kernel
theorem dX12_isIn_1 : decode cX12_isIn 1 = .ok (.iload_n 1, 1) := by decide +kernel
theorem dX12_isIn_2 : decode cX12_isIn 2 = .ok (.if_icmp .lt 12, 3) := by decide +kernel
theorem dX12_isIn_5 : decode cX12_isIn 5 = .ok (.iload_n 0, 1) := by decide +kernel
theorem dX12_isIn_6 : decode cX12_isIn 6 = .ok (.iload_n 2, 1) := by decide +kernel
theorem dX12_isIn_7 : decode cX12_isIn 7 = .ok (.if_icmp .gt 7, 3) := by decide +kernel
theorem dX12_isIn_10 : decode cX12_isIn 10 = .ok (.iconst 1, 1) := by decide +kernel
theorem dX12_isIn_11 : decode cX12_isIn 11 = .ok (.goto 4, 3) := by decide +kernel
theorem dX12_isIn_14 : decode cX12_isIn 14 = .ok (.iconst 0, 1) := by decide +kernel
theorem dX12_isIn_15 : decode cX12_isIn 15 = .ok (.ireturn, 1) := by decide +kernel
def X12_isIn (a0 : Int32) (a1 : Int32) (a2 : Int32) : MM Int32 :=
  if a0 < a1 then (mr (0 : Int32)) else (if a2 < a0 then (mr (0 : Int32)) else (mr (1 : Int32)))
set_option maxRecDepth 100000 in
set_option maxHeartbeats 4000000 in
theorem s_X12_isIn (G : GG) (a0 : Int32) (a1 : Int32) (a2 : Int32) : Sn G yX12_isIn cX12_isIn 3 (some FieldType.boolean) 0 0 (fun v : Int32 => some (.int v)) (X12_isIn a0 a1 a2) 0 [some (.int a0), some (.int a1), some (.int a2)] [] := by
  unfold X12_isIn
  refine sn_iload_n (v := a0) (pc' := 1) dX12_isIn_0 rfl rfl rfl ?_
  refine sn_iload_n (v := a1) (pc' := 2) dX12_isIn_1 rfl rfl rfl ?_
  refine sn_ic_lt (pt := 14) (pf := 5) dX12_isIn_2 rfl rfl ?_ ?_
  · refine sn_iconst (v := (0 : Int32)) (pc' := 15) dX12_isIn_14 rfl (by decide) ?_
    exact sn_iret dX12_isIn_15 rfl (by decide)
  · refine sn_iload_n (v := a0) (pc' := 6) dX12_isIn_5 rfl rfl rfl ?_
    refine sn_iload_n (v := a2) (pc' := 7) dX12_isIn_6 rfl rfl rfl ?_
    refine sn_ic_gt (pt := 14) (pf := 10) dX12_isIn_7 rfl rfl ?_ ?_
    · refine sn_iconst (v := (0 : Int32)) (pc' := 15) dX12_isIn_14 rfl (by decide) ?_
      exact sn_iret dX12_isIn_15 rfl (by decide)
    · refine sn_iconst (v := (1 : Int32)) (pc' := 11) dX12_isIn_10 rfl (by decide) ?_
      refine sn_goto (pc' := 15) dX12_isIn_11 rfl ?_
      exact sn_iret dX12_isIn_15 rfl (by decide)
theorem c_X12_isIn (G : GG) (a0 : Int32) (a1 : Int32) (a2 : Int32) : Cal G yX12_isIn cX12_isIn 3 (some FieldType.boolean) 0 0 (fun v : Int32 => some (.int v)) (X12_isIn a0 a1 a2) [.int a0, .int a1, .int a2] :=
  Cal.of (by decide) (cat_i (cat_i (cat_i cat_nil))) rfl (sn_weak (le_s (le_s (le_s le_e))) (s_X12_isIn G a0 a1 a2))
theorem cw_X12_isIn : CW yX12_isIn cX12_isIn 3 (some FieldType.boolean) 3 := ⟨tw1445, tw15, by decide, by decide +kernel⟩
/-! X12_isBook -/
theorem dX12_isBook_0 : decode cX12_isBook 0 = .ok (.iload_n 1, 1) := by decide +kernel
theorem dX12_isBook_1 : decode cX12_isBook 1 = .ok (.iconst 0, 1) := by decide +kernel
theorem dX12_isBook_2 : decode cX12_isBook 2 = .ok (.aload_n 0, 1) := by decide +kernel
theorem dX12_isBook_3 : decode cX12_isBook 3 = .ok (.getfield 7, 3) := by decide +kernel
theorem dX12_isBook_6 : decode cX12_isBook 6 = .ok (.iconst 1, 1) := by decide +kernel
theorem dX12_isBook_7 : decode cX12_isBook 7 = .ok (.isub, 1) := by decide +kernel
theorem dX12_isBook_8 : decode cX12_isBook 8 = .ok (.invokestatic 10, 3) := by decide +kernel
theorem dX12_isBook_11 : decode cX12_isBook 11 = .ok (.ireturn, 1) := by decide +kernel
def X12_isBook (this : Nat) (a1 : Int32) : MM Int32 :=
  mb (gI 13 (some this) 5) fun v1 =>
  mb (X12_isIn a1 (0 : Int32) (v1 - (1 : Int32))) fun v2 =>
  mb (nzI v2) fun v3 =>
  mr v3
set_option maxRecDepth 100000 in
set_option maxHeartbeats 4000000 in
theorem s_X12_isBook (G : GG) (this : Nat) (a1 : Int32) : Sn G yX12_isBook cX12_isBook 2 (some FieldType.boolean) 1 22 (fun v : Int32 => some (.int v)) (X12_isBook this a1) 0 [some (va_rf (some this)), some (.int a1)] [] := by
  unfold X12_isBook
  refine sn_iload_n (v := a1) (pc' := 1) dX12_isBook_0 rfl rfl rfl ?_
  refine sn_iconst (v := (0 : Int32)) (pc' := 2) dX12_isBook_1 rfl (by decide) ?_
  refine sn_aload_n (v := (some this)) (pc' := 3) dX12_isBook_2 rfl rfl rfl ?_
  refine sn_gI (k := 5) (pc' := 6) ci_13 rfl (Or.inl tw1283) dX12_isBook_3 rfl (fun v1 => ?_)
  refine sn_iconst (v := (1 : Int32)) (pc' := 7) dX12_isBook_6 rfl (by decide) ?_
  refine sn_isub (pc' := 8) dX12_isBook_7 rfl ?_
  refine sn_cS (st := []) (As := [.int a1, .int (0 : Int32), .int (v1 - (1 : Int32))]) (st2 := (fun v => .int v :: [])) (pc' := 11) (c_X12_isIn G a1 (0 : Int32) (v1 - (1 : Int32))) cw_X12_isIn rfl rfl tw1443 tw1444 rfl rfl cat_nil rfl (fun _ => rfl) dX12_isBook_8 rfl (fun v2 => ?_)
  refine sn_nz01 (fun v3 hz => ?_)
  exact sn_iret dX12_isBook_11 rfl (nar_b hz)
theorem c_X12_isBook (G : GG) (this : Nat) (a1 : Int32) : Cal G yX12_isBook cX12_isBook 2 (some FieldType.boolean) 1 22 (fun v : Int32 => some (.int v)) (X12_isBook this a1) [.ref this, .int a1] :=
  Cal.of (by decide) (cat_t (cat_i cat_nil)) rfl (sn_weak (le_s (le_s le_e)) (s_X12_isBook G this a1))
theorem cw_X12_isBook : CW yX12_isBook cX12_isBook 2 (some FieldType.boolean) 1 := ⟨tw1557, tw15, by decide, by decide +kernel⟩
/-! X12_isCopy -/
theorem dX12_isCopy_0 : decode cX12_isCopy 0 = .ok (.iload_n 1, 1) := by decide +kernel
theorem dX12_isCopy_1 : decode cX12_isCopy 1 = .ok (.iconst 0, 1) := by decide +kernel
theorem dX12_isCopy_2 : decode cX12_isCopy 2 = .ok (.aload_n 0, 1) := by decide +kernel
theorem dX12_isCopy_3 : decode cX12_isCopy 3 = .ok (.getfield 14, 3) := by decide +kernel
theorem dX12_isCopy_6 : decode cX12_isCopy 6 = .ok (.iconst 1, 1) := by decide +kernel
theorem dX12_isCopy_7 : decode cX12_isCopy 7 = .ok (.isub, 1) := by decide +kernel
theorem dX12_isCopy_8 : decode cX12_isCopy 8 = .ok (.invokestatic 10, 3) := by decide +kernel
theorem dX12_isCopy_11 : decode cX12_isCopy 11 = .ok (.ireturn, 1) := by decide +kernel
def X12_isCopy (this : Nat) (a1 : Int32) : MM Int32 :=
  mb (gI 13 (some this) 15) fun v1 =>
  mb (X12_isIn a1 (0 : Int32) (v1 - (1 : Int32))) fun v2 =>
  mb (nzI v2) fun v3 =>
  mr v3
set_option maxRecDepth 100000 in
set_option maxHeartbeats 4000000 in
theorem s_X12_isCopy (G : GG) (this : Nat) (a1 : Int32) : Sn G yX12_isCopy cX12_isCopy 2 (some FieldType.boolean) 1 22 (fun v : Int32 => some (.int v)) (X12_isCopy this a1) 0 [some (va_rf (some this)), some (.int a1)] [] := by
  unfold X12_isCopy
  refine sn_iload_n (v := a1) (pc' := 1) dX12_isCopy_0 rfl rfl rfl ?_
  refine sn_iconst (v := (0 : Int32)) (pc' := 2) dX12_isCopy_1 rfl (by decide) ?_
  refine sn_aload_n (v := (some this)) (pc' := 3) dX12_isCopy_2 rfl rfl rfl ?_
  refine sn_gI (k := 15) (pc' := 6) ci_13 rfl (Or.inl tw1293) dX12_isCopy_3 rfl (fun v1 => ?_)
  refine sn_iconst (v := (1 : Int32)) (pc' := 7) dX12_isCopy_6 rfl (by decide) ?_
  refine sn_isub (pc' := 8) dX12_isCopy_7 rfl ?_
  refine sn_cS (st := []) (As := [.int a1, .int (0 : Int32), .int (v1 - (1 : Int32))]) (st2 := (fun v => .int v :: [])) (pc' := 11) (c_X12_isIn G a1 (0 : Int32) (v1 - (1 : Int32))) cw_X12_isIn rfl rfl tw1443 tw1444 rfl rfl cat_nil rfl (fun _ => rfl) dX12_isCopy_8 rfl (fun v2 => ?_)
  refine sn_nz01 (fun v3 hz => ?_)
  exact sn_iret dX12_isCopy_11 rfl (nar_b hz)
theorem c_X12_isCopy (G : GG) (this : Nat) (a1 : Int32) : Cal G yX12_isCopy cX12_isCopy 2 (some FieldType.boolean) 1 22 (fun v : Int32 => some (.int v)) (X12_isCopy this a1) [.ref this, .int a1] :=
  Cal.of (by decide) (cat_t (cat_i cat_nil)) rfl (sn_weak (le_s (le_s le_e)) (s_X12_isCopy G this a1))
theorem cw_X12_isCopy : CW yX12_isCopy cX12_isCopy 2 (some FieldType.boolean) 1 := ⟨tw1701, tw15, by decide, by decide +kernel⟩
/-! X12_spot -/
theorem dX12_spot_0 : decode cX12_spot 0 = .ok (.iload_n 0, 1) := by decide +kernel
theorem dX12_spot_1 : decode cX12_spot 1 = .ok (.bipush 71, 2) := by decide +kernel
theorem dX12_spot_3 : decode cX12_spot 3 = .ok (.imul, 1) := by decide +kernel
theorem dX12_spot_4 : decode cX12_spot 4 = .ok (.iload_n 1, 1) := by decide +kernel
theorem dX12_spot_5 : decode cX12_spot 5 = .ok (.iadd, 1) := by decide +kernel
theorem dX12_spot_6 : decode cX12_spot 6 = .ok (.bipush 13, 2) := by decide +kernel
theorem dX12_spot_8 : decode cX12_spot 8 = .ok (.imul, 1) := by decide +kernel
theorem dX12_spot_9 : decode cX12_spot 9 = .ok (.iload_n 2, 1) := by decide +kernel
theorem dX12_spot_10 : decode cX12_spot 10 = .ok (.iadd, 1) := by decide +kernel
theorem dX12_spot_11 : decode cX12_spot 11 = .ok (.ireturn, 1) := by decide +kernel
def X12_spot (a0 : Int32) (a1 : Int32) (a2 : Int32) : MM Int32 :=
  mr ((((a0 * (71 : Int32)) + a1) * (13 : Int32)) + a2)
set_option maxRecDepth 100000 in
set_option maxHeartbeats 4000000 in
theorem s_X12_spot (G : GG) (a0 : Int32) (a1 : Int32) (a2 : Int32) : Sn G yX12_spot cX12_spot 3 (some FieldType.int) 0 0 (fun v : Int32 => some (.int v)) (X12_spot a0 a1 a2) 0 [some (.int a0), some (.int a1), some (.int a2)] [] := by
  unfold X12_spot
  refine sn_iload_n (v := a0) (pc' := 1) dX12_spot_0 rfl rfl rfl ?_
  refine sn_bipush (v := (71 : Int32)) (pc' := 3) dX12_spot_1 rfl (by decide) ?_
  refine sn_imul (pc' := 4) dX12_spot_3 rfl ?_
  refine sn_iload_n (v := a1) (pc' := 5) dX12_spot_4 rfl rfl rfl ?_
  refine sn_iadd (pc' := 6) dX12_spot_5 rfl ?_
  refine sn_bipush (v := (13 : Int32)) (pc' := 8) dX12_spot_6 rfl (by decide) ?_
  refine sn_imul (pc' := 9) dX12_spot_8 rfl ?_
  refine sn_iload_n (v := a2) (pc' := 10) dX12_spot_9 rfl rfl rfl ?_
  refine sn_iadd (pc' := 11) dX12_spot_10 rfl ?_
  exact sn_iret dX12_spot_11 rfl rfl
theorem c_X12_spot (G : GG) (a0 : Int32) (a1 : Int32) (a2 : Int32) : Cal G yX12_spot cX12_spot 3 (some FieldType.int) 0 0 (fun v : Int32 => some (.int v)) (X12_spot a0 a1 a2) [.int a0, .int a1, .int a2] :=
  Cal.of (by decide) (cat_i (cat_i (cat_i cat_nil))) rfl (sn_weak (le_s (le_s (le_s le_e))) (s_X12_spot G a0 a1 a2))
theorem cw_X12_spot : CW yX12_spot cX12_spot 3 (some FieldType.int) 3 := ⟨tw1529, tw15, by decide, by decide +kernel⟩
/-! X12_gatheringOf -/
theorem dX12_gatheringOf_0 : decode cX12_gatheringOf 0 = .ok (.iconst 0, 1) := by decide +kernel
theorem dX12_gatheringOf_1 : decode cX12_gatheringOf 1 = .ok (.istore_n 3, 1) := by decide +kernel
theorem dX12_gatheringOf_2 : decode cX12_gatheringOf 2 = .ok (.iload_n 3, 1) := by decide +kernel
theorem dX12_gatheringOf_3 : decode cX12_gatheringOf 3 = .ok (.aload_n 0, 1) := by decide +kernel
theorem dX12_gatheringOf_4 : decode cX12_gatheringOf 4 = .ok (.getfield 17, 3) := by decide +kernel
theorem dX12_gatheringOf_7 : decode cX12_gatheringOf 7 = .ok (.iload_n 1, 1) := by decide +kernel
theorem dX12_gatheringOf_8 : decode cX12_gatheringOf 8 = .ok (.iaload, 1) := by decide +kernel
theorem dX12_gatheringOf_9 : decode cX12_gatheringOf 9 = .ok (.if_icmp .ge 26, 3) := by decide +kernel
theorem dX12_gatheringOf_12 : decode cX12_gatheringOf 12 = .ok (.aload_n 0, 1) := by decide +kernel
theorem dX12_gatheringOf_13 : decode cX12_gatheringOf 13 = .ok (.getfield 21, 3) := by decide +kernel
theorem dX12_gatheringOf_16 : decode cX12_gatheringOf 16 = .ok (.iload_n 1, 1) := by decide +kernel
theorem dX12_gatheringOf_17 : decode cX12_gatheringOf 17 = .ok (.bipush 71, 2) := by decide +kernel
theorem dX12_gatheringOf_19 : decode cX12_gatheringOf 19 = .ok (.imul, 1) := by decide +kernel
theorem dX12_gatheringOf_20 : decode cX12_gatheringOf 20 = .ok (.iload_n 3, 1) := by decide +kernel
theorem dX12_gatheringOf_21 : decode cX12_gatheringOf 21 = .ok (.iadd, 1) := by decide +kernel
theorem dX12_gatheringOf_22 : decode cX12_gatheringOf 22 = .ok (.iaload, 1) := by decide +kernel
theorem dX12_gatheringOf_23 : decode cX12_gatheringOf 23 = .ok (.iload_n 2, 1) := by decide +kernel
theorem dX12_gatheringOf_24 : decode cX12_gatheringOf 24 = .ok (.if_icmp .ne 5, 3) := by decide +kernel
theorem dX12_gatheringOf_27 : decode cX12_gatheringOf 27 = .ok (.iload_n 3, 1) := by decide +kernel
theorem dX12_gatheringOf_28 : decode cX12_gatheringOf 28 = .ok (.ireturn, 1) := by decide +kernel
theorem dX12_gatheringOf_29 : decode cX12_gatheringOf 29 = .ok (.iinc 3 1, 3) := by decide +kernel
theorem dX12_gatheringOf_32 : decode cX12_gatheringOf 32 = .ok (.goto (-30), 3) := by decide +kernel
theorem dX12_gatheringOf_35 : decode cX12_gatheringOf 35 = .ok (.iconst (-1), 1) := by decide +kernel
theorem dX12_gatheringOf_36 : decode cX12_gatheringOf 36 = .ok (.ireturn, 1) := by decide +kernel
def X12_gatheringOf_2_st  (k2 : Nat → Int32 → Int32 → Int32 → MM Int32) (this : Nat) (x1 : Int32) (x2 : Int32) (x3 : Int32) : MM Int32 :=
  mb (gR 13 (some this) 6) fun v1 =>
  mb (aI v1 x1) fun v2 =>
  if v2 ≤ x3 then (mr (-1 : Int32)) else (mb (gR 13 (some this) 7) fun v3 =>
  mb (aI v3 ((x1 * (71 : Int32)) + x3)) fun v4 =>
  if v4 = x2 then (mr x3) else ((k2 this x1 x2 (x3 + (1 : Int32)))))
def X12_gatheringOf_2  : Nat → Nat → Int32 → Int32 → Int32 → MM Int32
  | 0 => fun _ _ _ _ => mf
  | n + 1 => fun this x1 x2 x3 => X12_gatheringOf_2_st  (X12_gatheringOf_2  n) this x1 x2 x3
def X12_gatheringOf (this : Nat) (a1 : Int32) (a2 : Int32) : MM Int32 :=
  (X12_gatheringOf_2 LFU this a1 a2 (0 : Int32))
set_option maxRecDepth 100000 in
set_option maxHeartbeats 4000000 in
theorem s_X12_gatheringOf_2_st (G : GG)   (k2 : Nat → Int32 → Int32 → Int32 → MM Int32) (hk2 : ∀ (this : Nat) (x1 : Int32) (x2 : Int32) (x3 : Int32), Sn G yX12_gatheringOf cX12_gatheringOf 4 (some FieldType.int) 0 0 (fun v : Int32 => some (.int v)) (k2 this x1 x2 x3) 2 [some (va_rf (some this)), some (.int x1), some (.int x2), some (.int x3)] []) (this : Nat) (x1 : Int32) (x2 : Int32) (x3 : Int32) : Sn G yX12_gatheringOf cX12_gatheringOf 4 (some FieldType.int) 0 0 (fun v : Int32 => some (.int v)) (X12_gatheringOf_2_st  k2 this x1 x2 x3) 2 [some (va_rf (some this)), some (.int x1), some (.int x2), some (.int x3)] [] := by
  unfold X12_gatheringOf_2_st
  refine sn_iload_n (v := x3) (pc' := 3) dX12_gatheringOf_2 rfl rfl rfl ?_
  refine sn_aload_n (v := (some this)) (pc' := 4) dX12_gatheringOf_3 rfl rfl rfl ?_
  refine sn_gR (k := 6) (pc' := 7) ci_13 rfl (Or.inl tw1284) dX12_gatheringOf_4 rfl (fun v1 => ?_)
  refine sn_iload_n (v := x1) (pc' := 8) dX12_gatheringOf_7 rfl rfl rfl ?_
  refine sn_aI (pc' := 9) dX12_gatheringOf_8 rfl (fun v2 => ?_)
  refine sn_ic_ge (pt := 35) (pf := 12) dX12_gatheringOf_9 rfl rfl ?_ ?_
  · refine sn_iconst (v := (-1 : Int32)) (pc' := 36) dX12_gatheringOf_35 rfl (by decide) ?_
    exact sn_iret dX12_gatheringOf_36 rfl rfl
  · refine sn_aload_n (v := (some this)) (pc' := 13) dX12_gatheringOf_12 rfl rfl rfl ?_
    refine sn_gR (k := 7) (pc' := 16) ci_13 rfl (Or.inl tw1285) dX12_gatheringOf_13 rfl (fun v3 => ?_)
    refine sn_iload_n (v := x1) (pc' := 17) dX12_gatheringOf_16 rfl rfl rfl ?_
    refine sn_bipush (v := (71 : Int32)) (pc' := 19) dX12_gatheringOf_17 rfl (by decide) ?_
    refine sn_imul (pc' := 20) dX12_gatheringOf_19 rfl ?_
    refine sn_iload_n (v := x3) (pc' := 21) dX12_gatheringOf_20 rfl rfl rfl ?_
    refine sn_iadd (pc' := 22) dX12_gatheringOf_21 rfl ?_
    refine sn_aI (pc' := 23) dX12_gatheringOf_22 rfl (fun v4 => ?_)
    refine sn_iload_n (v := x2) (pc' := 24) dX12_gatheringOf_23 rfl rfl rfl ?_
    refine sn_ic_ne (pt := 29) (pf := 27) dX12_gatheringOf_24 rfl rfl ?_ ?_
    · refine sn_iload_n (v := x3) (pc' := 28) dX12_gatheringOf_27 rfl rfl rfl ?_
      exact sn_iret dX12_gatheringOf_28 rfl rfl
    · refine sn_iinc (v := x3) (w := 1) (L' := [some (va_rf (some this)), some (.int x1), some (.int x2), some (.int (x3 + (1 : Int32)))]) (pc' := 32) dX12_gatheringOf_29 rfl rfl rfl (by decide) rfl ?_
      refine sn_goto (pc' := 2) dX12_gatheringOf_32 rfl ?_
      exact sn_weak (le_s (le_s (le_s (le_s le_e)))) (hk2 this x1 x2 (x3 + (1 : Int32)))
set_option maxRecDepth 100000 in
set_option maxHeartbeats 4000000 in
theorem s_X12_gatheringOf_2 (G : GG)   : ∀ (n : Nat) (this : Nat) (x1 : Int32) (x2 : Int32) (x3 : Int32), Sn G yX12_gatheringOf cX12_gatheringOf 4 (some FieldType.int) 0 0 (fun v : Int32 => some (.int v)) (X12_gatheringOf_2  n this x1 x2 x3) 2 [some (va_rf (some this)), some (.int x1), some (.int x2), some (.int x3)] [] := by
  intro n
  induction n with
  | zero => intro this x1 x2 x3; exact sn_mf
  | succ n ih => intro this x1 x2 x3; exact s_X12_gatheringOf_2_st G   (X12_gatheringOf_2  n) ih this x1 x2 x3
set_option maxRecDepth 100000 in
set_option maxHeartbeats 4000000 in
theorem s_X12_gatheringOf (G : GG) (this : Nat) (a1 : Int32) (a2 : Int32) : Sn G yX12_gatheringOf cX12_gatheringOf 4 (some FieldType.int) 0 0 (fun v : Int32 => some (.int v)) (X12_gatheringOf this a1 a2) 0 [some (va_rf (some this)), some (.int a1), some (.int a2), none] [] := by
  unfold X12_gatheringOf
  refine sn_iconst (v := (0 : Int32)) (pc' := 1) dX12_gatheringOf_0 rfl (by decide) ?_
  refine sn_istore_n (v := (0 : Int32)) (L' := [some (va_rf (some this)), some (.int a1), some (.int a2), some (.int (0 : Int32))]) (pc' := 2) dX12_gatheringOf_1 rfl rfl rfl rfl ?_
  exact sn_weak (le_s (le_s (le_s (le_s le_e)))) (s_X12_gatheringOf_2 G LFU this a1 a2 (0 : Int32))
theorem c_X12_gatheringOf (G : GG) (this : Nat) (a1 : Int32) (a2 : Int32) : Cal G yX12_gatheringOf cX12_gatheringOf 4 (some FieldType.int) 0 0 (fun v : Int32 => some (.int v)) (X12_gatheringOf this a1 a2) [.ref this, .int a1, .int a2] :=
  Cal.of (by decide) (cat_t (cat_i (cat_i cat_nil))) rfl (sn_weak (le_s (le_s (le_s (le_z le_e)))) (s_X12_gatheringOf G this a1 a2))
theorem cw_X12_gatheringOf : CW yX12_gatheringOf cX12_gatheringOf 4 (some FieldType.int) 2 := ⟨tw1537, tw15, by decide, by decide +kernel⟩
/-! X12_layOut -/
theorem dX12_layOut_0 : decode cX12_layOut 0 = .ok (.iconst 0, 1) := by decide +kernel
theorem dX12_layOut_1 : decode cX12_layOut 1 = .ok (.istore_n 2, 1) := by decide +kernel
theorem dX12_layOut_2 : decode cX12_layOut 2 = .ok (.iconst 0, 1) := by decide +kernel
theorem dX12_layOut_3 : decode cX12_layOut 3 = .ok (.istore_n 3, 1) := by decide +kernel
theorem dX12_layOut_4 : decode cX12_layOut 4 = .ok (.iload_n 3, 1) := by decide +kernel
theorem dX12_layOut_5 : decode cX12_layOut 5 = .ok (.aload_n 0, 1) := by decide +kernel
theorem dX12_layOut_6 : decode cX12_layOut 6 = .ok (.getfield 17, 3) := by decide +kernel
theorem dX12_layOut_9 : decode cX12_layOut 9 = .ok (.iload_n 1, 1) := by decide +kernel
theorem dX12_layOut_10 : decode cX12_layOut 10 = .ok (.iaload, 1) := by decide +kernel
theorem dX12_layOut_11 : decode cX12_layOut 11 = .ok (.if_icmp .ge 123, 3) := by decide +kernel
theorem dX12_layOut_14 : decode cX12_layOut 14 = .ok (.iconst 1, 1) := by decide +kernel
theorem dX12_layOut_15 : decode cX12_layOut 15 = .ok (.istore 4, 2) := by decide +kernel
theorem dX12_layOut_17 : decode cX12_layOut 17 = .ok (.iload 4, 2) := by decide +kernel
theorem dX12_layOut_19 : decode cX12_layOut 19 = .ok (.aload_n 0, 1) := by decide +kernel
theorem dX12_layOut_20 : decode cX12_layOut 20 = .ok (.getfield 24, 3) := by decide +kernel
theorem dX12_layOut_23 : decode cX12_layOut 23 = .ok (.iload_n 1, 1) := by decide +kernel
theorem dX12_layOut_24 : decode cX12_layOut 24 = .ok (.bipush 71, 2) := by decide +kernel
theorem dX12_layOut_26 : decode cX12_layOut 26 = .ok (.imul, 1) := by decide +kernel
theorem dX12_layOut_27 : decode cX12_layOut 27 = .ok (.iload_n 3, 1) := by decide +kernel
theorem dX12_layOut_28 : decode cX12_layOut 28 = .ok (.iadd, 1) := by decide +kernel
theorem dX12_layOut_29 : decode cX12_layOut 29 = .ok (.iaload, 1) := by decide +kernel
theorem dX12_layOut_30 : decode cX12_layOut 30 = .ok (.if_icmp .gt 98, 3) := by decide +kernel
theorem dX12_layOut_33 : decode cX12_layOut 33 = .ok (.iload_n 1, 1) := by decide +kernel
theorem dX12_layOut_34 : decode cX12_layOut 34 = .ok (.iload_n 3, 1) := by decide +kernel
theorem dX12_layOut_35 : decode cX12_layOut 35 = .ok (.iload 4, 2) := by decide +kernel
theorem dX12_layOut_37 : decode cX12_layOut 37 = .ok (.invokestatic 27, 3) := by decide +kernel
theorem dX12_layOut_40 : decode cX12_layOut 40 = .ok (.istore 5, 2) := by decide +kernel
theorem dX12_layOut_42 : decode cX12_layOut 42 = .ok (.aload_n 0, 1) := by decide +kernel
theorem dX12_layOut_43 : decode cX12_layOut 43 = .ok (.getfield 31, 3) := by decide +kernel
theorem dX12_layOut_46 : decode cX12_layOut 46 = .ok (.iload 5, 2) := by decide +kernel
theorem dX12_layOut_48 : decode cX12_layOut 48 = .ok (.iaload, 1) := by decide +kernel
theorem dX12_layOut_49 : decode cX12_layOut 49 = .ok (.iconst 1, 1) := by decide +kernel
theorem dX12_layOut_50 : decode cX12_layOut 50 = .ok (.if_icmp .ne 7, 3) := by decide +kernel
theorem dX12_layOut_53 : decode cX12_layOut 53 = .ok (.iconst 1, 1) := by decide +kernel
theorem dX12_layOut_54 : decode cX12_layOut 54 = .ok (.goto 4, 3) := by decide +kernel
theorem dX12_layOut_57 : decode cX12_layOut 57 = .ok (.iconst 0, 1) := by decide +kernel
theorem dX12_layOut_58 : decode cX12_layOut 58 = .ok (.istore 6, 2) := by decide +kernel
theorem dX12_layOut_60 : decode cX12_layOut 60 = .ok (.iload 6, 2) := by decide +kernel
theorem dX12_layOut_62 : decode cX12_layOut 62 = .ok (.aload_n 0, 1) := by decide +kernel
theorem dX12_layOut_63 : decode cX12_layOut 63 = .ok (.getfield 34, 3) := by decide +kernel
theorem dX12_layOut_66 : decode cX12_layOut 66 = .ok (.iload 5, 2) := by decide +kernel
theorem dX12_layOut_68 : decode cX12_layOut 68 = .ok (.iaload, 1) := by decide +kernel
theorem dX12_layOut_69 : decode cX12_layOut 69 = .ok (.if_icmp .gt 53, 3) := by decide +kernel
theorem dX12_layOut_72 : decode cX12_layOut 72 = .ok (.aload_n 0, 1) := by decide +kernel
theorem dX12_layOut_73 : decode cX12_layOut 73 = .ok (.getfield 37, 3) := by decide +kernel
theorem dX12_layOut_76 : decode cX12_layOut 76 = .ok (.iload_n 1, 1) := by decide +kernel
theorem dX12_layOut_77 : decode cX12_layOut 77 = .ok (.sipush 400, 3) := by decide +kernel
theorem dX12_layOut_80 : decode cX12_layOut 80 = .ok (.imul, 1) := by decide +kernel
theorem dX12_layOut_81 : decode cX12_layOut 81 = .ok (.iload_n 2, 1) := by decide +kernel
theorem dX12_layOut_82 : decode cX12_layOut 82 = .ok (.iadd, 1) := by decide +kernel
theorem dX12_layOut_83 : decode cX12_layOut 83 = .ok (.iload_n 3, 1) := by decide +kernel
theorem dX12_layOut_84 : decode cX12_layOut 84 = .ok (.iastore, 1) := by decide +kernel
theorem dX12_layOut_85 : decode cX12_layOut 85 = .ok (.aload_n 0, 1) := by decide +kernel
theorem dX12_layOut_86 : decode cX12_layOut 86 = .ok (.getfield 40, 3) := by decide +kernel
theorem dX12_layOut_89 : decode cX12_layOut 89 = .ok (.iload_n 1, 1) := by decide +kernel
theorem dX12_layOut_90 : decode cX12_layOut 90 = .ok (.sipush 400, 3) := by decide +kernel
theorem dX12_layOut_93 : decode cX12_layOut 93 = .ok (.imul, 1) := by decide +kernel
theorem dX12_layOut_94 : decode cX12_layOut 94 = .ok (.iload_n 2, 1) := by decide +kernel
theorem dX12_layOut_95 : decode cX12_layOut 95 = .ok (.iadd, 1) := by decide +kernel
theorem dX12_layOut_96 : decode cX12_layOut 96 = .ok (.iload 4, 2) := by decide +kernel
theorem dX12_layOut_98 : decode cX12_layOut 98 = .ok (.iastore, 1) := by decide +kernel
theorem dX12_layOut_99 : decode cX12_layOut 99 = .ok (.aload_n 0, 1) := by decide +kernel
theorem dX12_layOut_100 : decode cX12_layOut 100 = .ok (.getfield 43, 3) := by decide +kernel
theorem dX12_layOut_103 : decode cX12_layOut 103 = .ok (.iload_n 1, 1) := by decide +kernel
theorem dX12_layOut_104 : decode cX12_layOut 104 = .ok (.sipush 400, 3) := by decide +kernel
theorem dX12_layOut_107 : decode cX12_layOut 107 = .ok (.imul, 1) := by decide +kernel
theorem dX12_layOut_108 : decode cX12_layOut 108 = .ok (.iload_n 2, 1) := by decide +kernel
theorem dX12_layOut_109 : decode cX12_layOut 109 = .ok (.iadd, 1) := by decide +kernel
theorem dX12_layOut_110 : decode cX12_layOut 110 = .ok (.iload 6, 2) := by decide +kernel
theorem dX12_layOut_112 : decode cX12_layOut 112 = .ok (.iastore, 1) := by decide +kernel
theorem dX12_layOut_113 : decode cX12_layOut 113 = .ok (.iinc 2 1, 3) := by decide +kernel
theorem dX12_layOut_116 : decode cX12_layOut 116 = .ok (.iinc 6 1, 3) := by decide +kernel
theorem dX12_layOut_119 : decode cX12_layOut 119 = .ok (.goto (-59), 3) := by decide +kernel
theorem dX12_layOut_122 : decode cX12_layOut 122 = .ok (.iinc 4 1, 3) := by decide +kernel
theorem dX12_layOut_125 : decode cX12_layOut 125 = .ok (.goto (-108), 3) := by decide +kernel
theorem dX12_layOut_128 : decode cX12_layOut 128 = .ok (.iinc 3 1, 3) := by decide +kernel
theorem dX12_layOut_131 : decode cX12_layOut 131 = .ok (.goto (-127), 3) := by decide +kernel
theorem dX12_layOut_134 : decode cX12_layOut 134 = .ok (.aload_n 0, 1) := by decide +kernel
theorem dX12_layOut_135 : decode cX12_layOut 135 = .ok (.getfield 46, 3) := by decide +kernel
theorem dX12_layOut_138 : decode cX12_layOut 138 = .ok (.iload_n 1, 1) := by decide +kernel
theorem dX12_layOut_139 : decode cX12_layOut 139 = .ok (.iload_n 2, 1) := by decide +kernel
theorem dX12_layOut_140 : decode cX12_layOut 140 = .ok (.iastore, 1) := by decide +kernel
theorem dX12_layOut_141 : decode cX12_layOut 141 = .ok (.return_, 1) := by decide +kernel
def X12_layOut_122 (k4 : Nat → Int32 → Int32 → Int32 → MM Unit) (k17 : Nat → Int32 → Int32 → Int32 → Int32 → MM Unit) (this : Nat) (x1 : Int32) (x2 : Int32) (x3 : Int32) (x4 : Int32) : MM Unit :=
  (k17 this x1 x2 x3 (x4 + (1 : Int32)))
def X12_layOut_60_st (k4 : Nat → Int32 → Int32 → Int32 → MM Unit) (k17 : Nat → Int32 → Int32 → Int32 → Int32 → MM Unit) (k60 : Nat → Int32 → Int32 → Int32 → Int32 → Int32 → Int32 → MM Unit) (this : Nat) (x1 : Int32) (x2 : Int32) (x3 : Int32) (x4 : Int32) (x5 : Int32) (x6 : Int32) : MM Unit :=
  mb (gR 13 (some this) 10) fun v1 =>
  mb (aI v1 x5) fun v2 =>
  if v2 < x6 then ((X12_layOut_122 k4 k17 this x1 x2 x3 x4)) else (mb (gR 13 (some this) 12) fun v3 =>
  mb (sI v3 ((x1 * (400 : Int32)) + x2) x3) fun _ =>
  mb (gR 13 (some this) 13) fun v4 =>
  mb (sI v4 ((x1 * (400 : Int32)) + x2) x4) fun _ =>
  mb (gR 13 (some this) 14) fun v5 =>
  mb (sI v5 ((x1 * (400 : Int32)) + x2) x6) fun _ =>
  (k60 this x1 (x2 + (1 : Int32)) x3 x4 x5 (x6 + (1 : Int32))))
def X12_layOut_60 (k4 : Nat → Int32 → Int32 → Int32 → MM Unit) (k17 : Nat → Int32 → Int32 → Int32 → Int32 → MM Unit) : Nat → Nat → Int32 → Int32 → Int32 → Int32 → Int32 → Int32 → MM Unit
  | 0 => fun _ _ _ _ _ _ _ => mf
  | n + 1 => fun this x1 x2 x3 x4 x5 x6 => X12_layOut_60_st k4 k17 (X12_layOut_60 k4 k17 n) this x1 x2 x3 x4 x5 x6
def X12_layOut_58 (k4 : Nat → Int32 → Int32 → Int32 → MM Unit) (k17 : Nat → Int32 → Int32 → Int32 → Int32 → MM Unit) (this : Nat) (x1 : Int32) (x2 : Int32) (x3 : Int32) (x4 : Int32) (x5 : Int32) (y0 : Int32) : MM Unit :=
  (X12_layOut_60 k4 k17 LFU this x1 x2 x3 x4 x5 y0)
def X12_layOut_128 (k4 : Nat → Int32 → Int32 → Int32 → MM Unit) (this : Nat) (x1 : Int32) (x2 : Int32) (x3 : Int32) : MM Unit :=
  (k4 this x1 x2 (x3 + (1 : Int32)))
def X12_layOut_17_st (k4 : Nat → Int32 → Int32 → Int32 → MM Unit) (k17 : Nat → Int32 → Int32 → Int32 → Int32 → MM Unit) (this : Nat) (x1 : Int32) (x2 : Int32) (x3 : Int32) (x4 : Int32) : MM Unit :=
  mb (gR 13 (some this) 8) fun v1 =>
  mb (aI v1 ((x1 * (71 : Int32)) + x3)) fun v2 =>
  if v2 < x4 then ((X12_layOut_128 k4 this x1 x2 x3)) else (mb (X12_spot x1 x3 x4) fun v3 =>
  mb (gR 13 (some this) 9) fun v4 =>
  mb (aI v4 v3) fun v5 =>
  if v5 = (1 : Int32) then ((X12_layOut_58 k4 k17 this x1 x2 x3 x4 v3 (1 : Int32))) else ((X12_layOut_58 k4 k17 this x1 x2 x3 x4 v3 (0 : Int32))))
def X12_layOut_17 (k4 : Nat → Int32 → Int32 → Int32 → MM Unit) : Nat → Nat → Int32 → Int32 → Int32 → Int32 → MM Unit
  | 0 => fun _ _ _ _ _ => mf
  | n + 1 => fun this x1 x2 x3 x4 => X12_layOut_17_st k4 (X12_layOut_17 k4 n) this x1 x2 x3 x4
def X12_layOut_4_st  (k4 : Nat → Int32 → Int32 → Int32 → MM Unit) (this : Nat) (x1 : Int32) (x2 : Int32) (x3 : Int32) : MM Unit :=
  mb (gR 13 (some this) 6) fun v1 =>
  mb (aI v1 x1) fun v2 =>
  if v2 ≤ x3 then (mb (gR 13 (some this) 11) fun v3 =>
  mb (sI v3 x1 x2) fun _ =>
  mr ()) else ((X12_layOut_17 k4 LFU this x1 x2 x3 (1 : Int32)))
def X12_layOut_4  : Nat → Nat → Int32 → Int32 → Int32 → MM Unit
  | 0 => fun _ _ _ _ => mf
  | n + 1 => fun this x1 x2 x3 => X12_layOut_4_st  (X12_layOut_4  n) this x1 x2 x3
def X12_layOut (this : Nat) (a1 : Int32) : MM Unit :=
  (X12_layOut_4 LFU this a1 (0 : Int32) (0 : Int32))
set_option maxRecDepth 100000 in
set_option maxHeartbeats 4000000 in
theorem s_X12_layOut_122 (G : GG) (k4 : Nat → Int32 → Int32 → Int32 → MM Unit) (k17 : Nat → Int32 → Int32 → Int32 → Int32 → MM Unit) (hk4 : ∀ (this : Nat) (x1 : Int32) (x2 : Int32) (x3 : Int32), Sn G yX12_layOut cX12_layOut 7 none 1 22 (fun _ : Unit => none) (k4 this x1 x2 x3) 4 [some (va_rf (some this)), some (.int x1), some (.int x2), some (.int x3), none, none, none] []) (hk17 : ∀ (this : Nat) (x1 : Int32) (x2 : Int32) (x3 : Int32) (x4 : Int32), Sn G yX12_layOut cX12_layOut 7 none 1 22 (fun _ : Unit => none) (k17 this x1 x2 x3 x4) 17 [some (va_rf (some this)), some (.int x1), some (.int x2), some (.int x3), some (.int x4), none, none] []) (this : Nat) (x1 : Int32) (x2 : Int32) (x3 : Int32) (x4 : Int32) : Sn G yX12_layOut cX12_layOut 7 none 1 22 (fun _ : Unit => none) (X12_layOut_122 k4 k17 this x1 x2 x3 x4) 122 [some (va_rf (some this)), some (.int x1), some (.int x2), some (.int x3), some (.int x4), none, none] [] := by
  unfold X12_layOut_122
  refine sn_iinc (v := x4) (w := 1) (L' := [some (va_rf (some this)), some (.int x1), some (.int x2), some (.int x3), some (.int (x4 + (1 : Int32))), none, none]) (pc' := 125) dX12_layOut_122 rfl rfl rfl (by decide) rfl ?_
  refine sn_goto (pc' := 17) dX12_layOut_125 rfl ?_
  exact sn_weak (le_s (le_s (le_s (le_s (le_s (le_n (le_n le_e))))))) (hk17 this x1 x2 x3 (x4 + (1 : Int32)))
set_option maxRecDepth 100000 in
set_option maxHeartbeats 4000000 in
theorem s_X12_layOut_60_st (G : GG) (k4 : Nat → Int32 → Int32 → Int32 → MM Unit) (k17 : Nat → Int32 → Int32 → Int32 → Int32 → MM Unit) (hk4 : ∀ (this : Nat) (x1 : Int32) (x2 : Int32) (x3 : Int32), Sn G yX12_layOut cX12_layOut 7 none 1 22 (fun _ : Unit => none) (k4 this x1 x2 x3) 4 [some (va_rf (some this)), some (.int x1), some (.int x2), some (.int x3), none, none, none] []) (hk17 : ∀ (this : Nat) (x1 : Int32) (x2 : Int32) (x3 : Int32) (x4 : Int32), Sn G yX12_layOut cX12_layOut 7 none 1 22 (fun _ : Unit => none) (k17 this x1 x2 x3 x4) 17 [some (va_rf (some this)), some (.int x1), some (.int x2), some (.int x3), some (.int x4), none, none] []) (k60 : Nat → Int32 → Int32 → Int32 → Int32 → Int32 → Int32 → MM Unit) (hk60 : ∀ (this : Nat) (x1 : Int32) (x2 : Int32) (x3 : Int32) (x4 : Int32) (x5 : Int32) (x6 : Int32), Sn G yX12_layOut cX12_layOut 7 none 1 22 (fun _ : Unit => none) (k60 this x1 x2 x3 x4 x5 x6) 60 [some (va_rf (some this)), some (.int x1), some (.int x2), some (.int x3), some (.int x4), some (.int x5), some (.int x6)] []) (this : Nat) (x1 : Int32) (x2 : Int32) (x3 : Int32) (x4 : Int32) (x5 : Int32) (x6 : Int32) : Sn G yX12_layOut cX12_layOut 7 none 1 22 (fun _ : Unit => none) (X12_layOut_60_st k4 k17 k60 this x1 x2 x3 x4 x5 x6) 60 [some (va_rf (some this)), some (.int x1), some (.int x2), some (.int x3), some (.int x4), some (.int x5), some (.int x6)] [] := by
  unfold X12_layOut_60_st
  refine sn_iload (v := x6) (pc' := 62) dX12_layOut_60 rfl rfl ?_
  refine sn_aload_n (v := (some this)) (pc' := 63) dX12_layOut_62 rfl rfl rfl ?_
  refine sn_gR (k := 10) (pc' := 66) ci_13 rfl (Or.inl tw1288) dX12_layOut_63 rfl (fun v1 => ?_)
  refine sn_iload (v := x5) (pc' := 68) dX12_layOut_66 rfl rfl ?_
  refine sn_aI (pc' := 69) dX12_layOut_68 rfl (fun v2 => ?_)
  refine sn_ic_gt (pt := 122) (pf := 72) dX12_layOut_69 rfl rfl ?_ ?_
  · exact sn_weak (le_s (le_s (le_s (le_s (le_s (le_n (le_n le_e))))))) (s_X12_layOut_122 G k4 k17 hk4 hk17 this x1 x2 x3 x4)
  · refine sn_aload_n (v := (some this)) (pc' := 73) dX12_layOut_72 rfl rfl rfl ?_
    refine sn_gR (k := 12) (pc' := 76) ci_13 rfl (Or.inl tw1290) dX12_layOut_73 rfl (fun v3 => ?_)
    refine sn_iload_n (v := x1) (pc' := 77) dX12_layOut_76 rfl rfl rfl ?_
    refine sn_sipush (v := (400 : Int32)) (pc' := 80) dX12_layOut_77 rfl (by decide) ?_
    refine sn_imul (pc' := 81) dX12_layOut_80 rfl ?_
    refine sn_iload_n (v := x2) (pc' := 82) dX12_layOut_81 rfl rfl rfl ?_
    refine sn_iadd (pc' := 83) dX12_layOut_82 rfl ?_
    refine sn_iload_n (v := x3) (pc' := 84) dX12_layOut_83 rfl rfl rfl ?_
    refine sn_sI (pc' := 85) dX12_layOut_84 rfl (fun _ => ?_)
    refine sn_aload_n (v := (some this)) (pc' := 86) dX12_layOut_85 rfl rfl rfl ?_
    refine sn_gR (k := 13) (pc' := 89) ci_13 rfl (Or.inl tw1291) dX12_layOut_86 rfl (fun v4 => ?_)
    refine sn_iload_n (v := x1) (pc' := 90) dX12_layOut_89 rfl rfl rfl ?_
    refine sn_sipush (v := (400 : Int32)) (pc' := 93) dX12_layOut_90 rfl (by decide) ?_
    refine sn_imul (pc' := 94) dX12_layOut_93 rfl ?_
    refine sn_iload_n (v := x2) (pc' := 95) dX12_layOut_94 rfl rfl rfl ?_
    refine sn_iadd (pc' := 96) dX12_layOut_95 rfl ?_
    refine sn_iload (v := x4) (pc' := 98) dX12_layOut_96 rfl rfl ?_
    refine sn_sI (pc' := 99) dX12_layOut_98 rfl (fun _ => ?_)
    refine sn_aload_n (v := (some this)) (pc' := 100) dX12_layOut_99 rfl rfl rfl ?_
    refine sn_gR (k := 14) (pc' := 103) ci_13 rfl (Or.inl tw1292) dX12_layOut_100 rfl (fun v5 => ?_)
    refine sn_iload_n (v := x1) (pc' := 104) dX12_layOut_103 rfl rfl rfl ?_
    refine sn_sipush (v := (400 : Int32)) (pc' := 107) dX12_layOut_104 rfl (by decide) ?_
    refine sn_imul (pc' := 108) dX12_layOut_107 rfl ?_
    refine sn_iload_n (v := x2) (pc' := 109) dX12_layOut_108 rfl rfl rfl ?_
    refine sn_iadd (pc' := 110) dX12_layOut_109 rfl ?_
    refine sn_iload (v := x6) (pc' := 112) dX12_layOut_110 rfl rfl ?_
    refine sn_sI (pc' := 113) dX12_layOut_112 rfl (fun _ => ?_)
    refine sn_iinc (v := x2) (w := 1) (L' := [some (va_rf (some this)), some (.int x1), some (.int (x2 + (1 : Int32))), some (.int x3), some (.int x4), some (.int x5), some (.int x6)]) (pc' := 116) dX12_layOut_113 rfl rfl rfl (by decide) rfl ?_
    refine sn_iinc (v := x6) (w := 1) (L' := [some (va_rf (some this)), some (.int x1), some (.int (x2 + (1 : Int32))), some (.int x3), some (.int x4), some (.int x5), some (.int (x6 + (1 : Int32)))]) (pc' := 119) dX12_layOut_116 rfl rfl rfl (by decide) rfl ?_
    refine sn_goto (pc' := 60) dX12_layOut_119 rfl ?_
    exact sn_weak (le_s (le_s (le_s (le_s (le_s (le_s (le_s le_e))))))) (hk60 this x1 (x2 + (1 : Int32)) x3 x4 x5 (x6 + (1 : Int32)))
set_option maxRecDepth 100000 in
set_option maxHeartbeats 4000000 in
theorem s_X12_layOut_60 (G : GG) (k4 : Nat → Int32 → Int32 → Int32 → MM Unit) (k17 : Nat → Int32 → Int32 → Int32 → Int32 → MM Unit) (hk4 : ∀ (this : Nat) (x1 : Int32) (x2 : Int32) (x3 : Int32), Sn G yX12_layOut cX12_layOut 7 none 1 22 (fun _ : Unit => none) (k4 this x1 x2 x3) 4 [some (va_rf (some this)), some (.int x1), some (.int x2), some (.int x3), none, none, none] []) (hk17 : ∀ (this : Nat) (x1 : Int32) (x2 : Int32) (x3 : Int32) (x4 : Int32), Sn G yX12_layOut cX12_layOut 7 none 1 22 (fun _ : Unit => none) (k17 this x1 x2 x3 x4) 17 [some (va_rf (some this)), some (.int x1), some (.int x2), some (.int x3), some (.int x4), none, none] []) : ∀ (n : Nat) (this : Nat) (x1 : Int32) (x2 : Int32) (x3 : Int32) (x4 : Int32) (x5 : Int32) (x6 : Int32), Sn G yX12_layOut cX12_layOut 7 none 1 22 (fun _ : Unit => none) (X12_layOut_60 k4 k17 n this x1 x2 x3 x4 x5 x6) 60 [some (va_rf (some this)), some (.int x1), some (.int x2), some (.int x3), some (.int x4), some (.int x5), some (.int x6)] [] := by
  intro n
  induction n with
  | zero => intro this x1 x2 x3 x4 x5 x6; exact sn_mf
  | succ n ih => intro this x1 x2 x3 x4 x5 x6; exact s_X12_layOut_60_st G k4 k17 hk4 hk17 (X12_layOut_60 k4 k17 n) ih this x1 x2 x3 x4 x5 x6
set_option maxRecDepth 100000 in
set_option maxHeartbeats 4000000 in
theorem s_X12_layOut_58 (G : GG) (k4 : Nat → Int32 → Int32 → Int32 → MM Unit) (k17 : Nat → Int32 → Int32 → Int32 → Int32 → MM Unit) (hk4 : ∀ (this : Nat) (x1 : Int32) (x2 : Int32) (x3 : Int32), Sn G yX12_layOut cX12_layOut 7 none 1 22 (fun _ : Unit => none) (k4 this x1 x2 x3) 4 [some (va_rf (some this)), some (.int x1), some (.int x2), some (.int x3), none, none, none] []) (hk17 : ∀ (this : Nat) (x1 : Int32) (x2 : Int32) (x3 : Int32) (x4 : Int32), Sn G yX12_layOut cX12_layOut 7 none 1 22 (fun _ : Unit => none) (k17 this x1 x2 x3 x4) 17 [some (va_rf (some this)), some (.int x1), some (.int x2), some (.int x3), some (.int x4), none, none] []) (this : Nat) (x1 : Int32) (x2 : Int32) (x3 : Int32) (x4 : Int32) (x5 : Int32) (y0 : Int32) : Sn G yX12_layOut cX12_layOut 7 none 1 22 (fun _ : Unit => none) (X12_layOut_58 k4 k17 this x1 x2 x3 x4 x5 y0) 58 [some (va_rf (some this)), some (.int x1), some (.int x2), some (.int x3), some (.int x4), some (.int x5), none] [.int y0] := by
  unfold X12_layOut_58
  refine sn_istore (v := y0) (L' := [some (va_rf (some this)), some (.int x1), some (.int x2), some (.int x3), some (.int x4), some (.int x5), some (.int y0)]) (pc' := 60) dX12_layOut_58 rfl rfl rfl ?_
  exact sn_weak (le_s (le_s (le_s (le_s (le_s (le_s (le_s le_e))))))) (s_X12_layOut_60 G k4 k17 hk4 hk17 LFU this x1 x2 x3 x4 x5 y0)
set_option maxRecDepth 100000 in
set_option maxHeartbeats 4000000 in
theorem s_X12_layOut_128 (G : GG) (k4 : Nat → Int32 → Int32 → Int32 → MM Unit) (hk4 : ∀ (this : Nat) (x1 : Int32) (x2 : Int32) (x3 : Int32), Sn G yX12_layOut cX12_layOut 7 none 1 22 (fun _ : Unit => none) (k4 this x1 x2 x3) 4 [some (va_rf (some this)), some (.int x1), some (.int x2), some (.int x3), none, none, none] []) (this : Nat) (x1 : Int32) (x2 : Int32) (x3 : Int32) : Sn G yX12_layOut cX12_layOut 7 none 1 22 (fun _ : Unit => none) (X12_layOut_128 k4 this x1 x2 x3) 128 [some (va_rf (some this)), some (.int x1), some (.int x2), some (.int x3), none, none, none] [] := by
  unfold X12_layOut_128
  refine sn_iinc (v := x3) (w := 1) (L' := [some (va_rf (some this)), some (.int x1), some (.int x2), some (.int (x3 + (1 : Int32))), none, none, none]) (pc' := 131) dX12_layOut_128 rfl rfl rfl (by decide) rfl ?_
  refine sn_goto (pc' := 4) dX12_layOut_131 rfl ?_
  exact sn_weak (le_s (le_s (le_s (le_s (le_n (le_n (le_n le_e))))))) (hk4 this x1 x2 (x3 + (1 : Int32)))
set_option maxRecDepth 100000 in
set_option maxHeartbeats 4000000 in
theorem s_X12_layOut_17_st (G : GG) (k4 : Nat → Int32 → Int32 → Int32 → MM Unit) (hk4 : ∀ (this : Nat) (x1 : Int32) (x2 : Int32) (x3 : Int32), Sn G yX12_layOut cX12_layOut 7 none 1 22 (fun _ : Unit => none) (k4 this x1 x2 x3) 4 [some (va_rf (some this)), some (.int x1), some (.int x2), some (.int x3), none, none, none] []) (k17 : Nat → Int32 → Int32 → Int32 → Int32 → MM Unit) (hk17 : ∀ (this : Nat) (x1 : Int32) (x2 : Int32) (x3 : Int32) (x4 : Int32), Sn G yX12_layOut cX12_layOut 7 none 1 22 (fun _ : Unit => none) (k17 this x1 x2 x3 x4) 17 [some (va_rf (some this)), some (.int x1), some (.int x2), some (.int x3), some (.int x4), none, none] []) (this : Nat) (x1 : Int32) (x2 : Int32) (x3 : Int32) (x4 : Int32) : Sn G yX12_layOut cX12_layOut 7 none 1 22 (fun _ : Unit => none) (X12_layOut_17_st k4 k17 this x1 x2 x3 x4) 17 [some (va_rf (some this)), some (.int x1), some (.int x2), some (.int x3), some (.int x4), none, none] [] := by
  unfold X12_layOut_17_st
  refine sn_iload (v := x4) (pc' := 19) dX12_layOut_17 rfl rfl ?_
  refine sn_aload_n (v := (some this)) (pc' := 20) dX12_layOut_19 rfl rfl rfl ?_
  refine sn_gR (k := 8) (pc' := 23) ci_13 rfl (Or.inl tw1286) dX12_layOut_20 rfl (fun v1 => ?_)
  refine sn_iload_n (v := x1) (pc' := 24) dX12_layOut_23 rfl rfl rfl ?_
  refine sn_bipush (v := (71 : Int32)) (pc' := 26) dX12_layOut_24 rfl (by decide) ?_
  refine sn_imul (pc' := 27) dX12_layOut_26 rfl ?_
  refine sn_iload_n (v := x3) (pc' := 28) dX12_layOut_27 rfl rfl rfl ?_
  refine sn_iadd (pc' := 29) dX12_layOut_28 rfl ?_
  refine sn_aI (pc' := 30) dX12_layOut_29 rfl (fun v2 => ?_)
  refine sn_ic_gt (pt := 128) (pf := 33) dX12_layOut_30 rfl rfl ?_ ?_
  · exact sn_weak (le_s (le_s (le_s (le_s (le_n (le_n (le_n le_e))))))) (s_X12_layOut_128 G k4 hk4 this x1 x2 x3)
  · refine sn_iload_n (v := x1) (pc' := 34) dX12_layOut_33 rfl rfl rfl ?_
    refine sn_iload_n (v := x3) (pc' := 35) dX12_layOut_34 rfl rfl rfl ?_
    refine sn_iload (v := x4) (pc' := 37) dX12_layOut_35 rfl rfl ?_
    refine sn_cS (st := []) (As := [.int x1, .int x3, .int x4]) (st2 := (fun v => .int v :: [])) (pc' := 40) (c_X12_spot G x1 x3 x4) cw_X12_spot rfl rfl tw1527 tw1528 rfl rfl cat_nil rfl (fun _ => rfl) dX12_layOut_37 rfl (fun v3 => ?_)
    refine sn_istore (v := v3) (L' := [some (va_rf (some this)), some (.int x1), some (.int x2), some (.int x3), some (.int x4), some (.int v3), none]) (pc' := 42) dX12_layOut_40 rfl rfl rfl ?_
    refine sn_aload_n (v := (some this)) (pc' := 43) dX12_layOut_42 rfl rfl rfl ?_
    refine sn_gR (k := 9) (pc' := 46) ci_13 rfl (Or.inl tw1287) dX12_layOut_43 rfl (fun v4 => ?_)
    refine sn_iload (v := v3) (pc' := 48) dX12_layOut_46 rfl rfl ?_
    refine sn_aI (pc' := 49) dX12_layOut_48 rfl (fun v5 => ?_)
    refine sn_iconst (v := (1 : Int32)) (pc' := 50) dX12_layOut_49 rfl (by decide) ?_
    refine sn_ic_ne (pt := 57) (pf := 53) dX12_layOut_50 rfl rfl ?_ ?_
    · refine sn_iconst (v := (1 : Int32)) (pc' := 54) dX12_layOut_53 rfl (by decide) ?_
      refine sn_goto (pc' := 58) dX12_layOut_54 rfl ?_
      exact sn_weak (le_s (le_s (le_s (le_s (le_s (le_s (le_n le_e))))))) (s_X12_layOut_58 G k4 k17 hk4 hk17 this x1 x2 x3 x4 v3 (1 : Int32))
    · refine sn_iconst (v := (0 : Int32)) (pc' := 58) dX12_layOut_57 rfl (by decide) ?_
      exact sn_weak (le_s (le_s (le_s (le_s (le_s (le_s (le_n le_e))))))) (s_X12_layOut_58 G k4 k17 hk4 hk17 this x1 x2 x3 x4 v3 (0 : Int32))
set_option maxRecDepth 100000 in
set_option maxHeartbeats 4000000 in
theorem s_X12_layOut_17 (G : GG) (k4 : Nat → Int32 → Int32 → Int32 → MM Unit) (hk4 : ∀ (this : Nat) (x1 : Int32) (x2 : Int32) (x3 : Int32), Sn G yX12_layOut cX12_layOut 7 none 1 22 (fun _ : Unit => none) (k4 this x1 x2 x3) 4 [some (va_rf (some this)), some (.int x1), some (.int x2), some (.int x3), none, none, none] []) : ∀ (n : Nat) (this : Nat) (x1 : Int32) (x2 : Int32) (x3 : Int32) (x4 : Int32), Sn G yX12_layOut cX12_layOut 7 none 1 22 (fun _ : Unit => none) (X12_layOut_17 k4 n this x1 x2 x3 x4) 17 [some (va_rf (some this)), some (.int x1), some (.int x2), some (.int x3), some (.int x4), none, none] [] := by
  intro n
  induction n with
  | zero => intro this x1 x2 x3 x4; exact sn_mf
  | succ n ih => intro this x1 x2 x3 x4; exact s_X12_layOut_17_st G k4 hk4 (X12_layOut_17 k4 n) ih this x1 x2 x3 x4
set_option maxRecDepth 100000 in
set_option maxHeartbeats 4000000 in
theorem s_X12_layOut_4_st (G : GG)   (k4 : Nat → Int32 → Int32 → Int32 → MM Unit) (hk4 : ∀ (this : Nat) (x1 : Int32) (x2 : Int32) (x3 : Int32), Sn G yX12_layOut cX12_layOut 7 none 1 22 (fun _ : Unit => none) (k4 this x1 x2 x3) 4 [some (va_rf (some this)), some (.int x1), some (.int x2), some (.int x3), none, none, none] []) (this : Nat) (x1 : Int32) (x2 : Int32) (x3 : Int32) : Sn G yX12_layOut cX12_layOut 7 none 1 22 (fun _ : Unit => none) (X12_layOut_4_st  k4 this x1 x2 x3) 4 [some (va_rf (some this)), some (.int x1), some (.int x2), some (.int x3), none, none, none] [] := by
  unfold X12_layOut_4_st
  refine sn_iload_n (v := x3) (pc' := 5) dX12_layOut_4 rfl rfl rfl ?_
  refine sn_aload_n (v := (some this)) (pc' := 6) dX12_layOut_5 rfl rfl rfl ?_
  refine sn_gR (k := 6) (pc' := 9) ci_13 rfl (Or.inl tw1284) dX12_layOut_6 rfl (fun v1 => ?_)
  refine sn_iload_n (v := x1) (pc' := 10) dX12_layOut_9 rfl rfl rfl ?_
  refine sn_aI (pc' := 11) dX12_layOut_10 rfl (fun v2 => ?_)
  refine sn_ic_ge (pt := 134) (pf := 14) dX12_layOut_11 rfl rfl ?_ ?_
  · refine sn_aload_n (v := (some this)) (pc' := 135) dX12_layOut_134 rfl rfl rfl ?_
    refine sn_gR (k := 11) (pc' := 138) ci_13 rfl (Or.inl tw1289) dX12_layOut_135 rfl (fun v3 => ?_)
    refine sn_iload_n (v := x1) (pc' := 139) dX12_layOut_138 rfl rfl rfl ?_
    refine sn_iload_n (v := x2) (pc' := 140) dX12_layOut_139 rfl rfl rfl ?_
    refine sn_sI (pc' := 141) dX12_layOut_140 rfl (fun _ => ?_)
    exact sn_vret dX12_layOut_141 rfl
  · refine sn_iconst (v := (1 : Int32)) (pc' := 15) dX12_layOut_14 rfl (by decide) ?_
    refine sn_istore (v := (1 : Int32)) (L' := [some (va_rf (some this)), some (.int x1), some (.int x2), some (.int x3), some (.int (1 : Int32)), none, none]) (pc' := 17) dX12_layOut_15 rfl rfl rfl ?_
    exact sn_weak (le_s (le_s (le_s (le_s (le_s (le_n (le_n le_e))))))) (s_X12_layOut_17 G k4 hk4 LFU this x1 x2 x3 (1 : Int32))
set_option maxRecDepth 100000 in
set_option maxHeartbeats 4000000 in
theorem s_X12_layOut_4 (G : GG)   : ∀ (n : Nat) (this : Nat) (x1 : Int32) (x2 : Int32) (x3 : Int32), Sn G yX12_layOut cX12_layOut 7 none 1 22 (fun _ : Unit => none) (X12_layOut_4  n this x1 x2 x3) 4 [some (va_rf (some this)), some (.int x1), some (.int x2), some (.int x3), none, none, none] [] := by
  intro n
  induction n with
  | zero => intro this x1 x2 x3; exact sn_mf
  | succ n ih => intro this x1 x2 x3; exact s_X12_layOut_4_st G   (X12_layOut_4  n) ih this x1 x2 x3
set_option maxRecDepth 100000 in
set_option maxHeartbeats 4000000 in
theorem s_X12_layOut (G : GG) (this : Nat) (a1 : Int32) : Sn G yX12_layOut cX12_layOut 7 none 1 22 (fun _ : Unit => none) (X12_layOut this a1) 0 [some (va_rf (some this)), some (.int a1), none, none, none, none, none] [] := by
  unfold X12_layOut
  refine sn_iconst (v := (0 : Int32)) (pc' := 1) dX12_layOut_0 rfl (by decide) ?_
  refine sn_istore_n (v := (0 : Int32)) (L' := [some (va_rf (some this)), some (.int a1), some (.int (0 : Int32)), none, none, none, none]) (pc' := 2) dX12_layOut_1 rfl rfl rfl rfl ?_
  refine sn_iconst (v := (0 : Int32)) (pc' := 3) dX12_layOut_2 rfl (by decide) ?_
  refine sn_istore_n (v := (0 : Int32)) (L' := [some (va_rf (some this)), some (.int a1), some (.int (0 : Int32)), some (.int (0 : Int32)), none, none, none]) (pc' := 4) dX12_layOut_3 rfl rfl rfl rfl ?_
  exact sn_weak (le_s (le_s (le_s (le_s (le_n (le_n (le_n le_e))))))) (s_X12_layOut_4 G LFU this a1 (0 : Int32) (0 : Int32))
theorem c_X12_layOut (G : GG) (this : Nat) (a1 : Int32) : Cal G yX12_layOut cX12_layOut 7 none 1 22 (fun _ : Unit => none) (X12_layOut this a1) [.ref this, .int a1] :=
  Cal.of (by decide) (cat_t (cat_i cat_nil)) rfl (sn_weak (le_s (le_s (le_z (le_z (le_z (le_z (le_z le_e))))))) (s_X12_layOut G this a1))
theorem cw_X12_layOut : CW yX12_layOut cX12_layOut 7 none 1 := ⟨tw1549, tw15, by decide, by decide +kernel⟩
/-! X12_total -/
theorem dX12_total_0 : decode cX12_total 0 = .ok (.iconst 0, 1) := by decide +kernel
theorem dX12_total_1 : decode cX12_total 1 = .ok (.istore_n 2, 1) := by decide +kernel
theorem dX12_total_2 : decode cX12_total 2 = .ok (.iconst 0, 1) := by decide +kernel
theorem dX12_total_3 : decode cX12_total 3 = .ok (.istore_n 3, 1) := by decide +kernel
theorem dX12_total_4 : decode cX12_total 4 = .ok (.iload_n 3, 1) := by decide +kernel
theorem dX12_total_5 : decode cX12_total 5 = .ok (.aload_n 0, 1) := by decide +kernel
theorem dX12_total_6 : decode cX12_total 6 = .ok (.getfield 17, 3) := by decide +kernel
theorem dX12_total_9 : decode cX12_total 9 = .ok (.iload_n 1, 1) := by decide +kernel
theorem dX12_total_10 : decode cX12_total 10 = .ok (.iaload, 1) := by decide +kernel
theorem dX12_total_11 : decode cX12_total 11 = .ok (.if_icmp .ge 63, 3) := by decide +kernel
theorem dX12_total_14 : decode cX12_total 14 = .ok (.iload_n 2, 1) := by decide +kernel
theorem dX12_total_15 : decode cX12_total 15 = .ok (.aload_n 0, 1) := by decide +kernel
theorem dX12_total_16 : decode cX12_total 16 = .ok (.getfield 24, 3) := by decide +kernel
theorem dX12_total_19 : decode cX12_total 19 = .ok (.iload_n 1, 1) := by decide +kernel
theorem dX12_total_20 : decode cX12_total 20 = .ok (.bipush 71, 2) := by decide +kernel
theorem dX12_total_22 : decode cX12_total 22 = .ok (.imul, 1) := by decide +kernel
theorem dX12_total_23 : decode cX12_total 23 = .ok (.iload_n 3, 1) := by decide +kernel
theorem dX12_total_24 : decode cX12_total 24 = .ok (.iadd, 1) := by decide +kernel
theorem dX12_total_25 : decode cX12_total 25 = .ok (.iaload, 1) := by decide +kernel
theorem dX12_total_26 : decode cX12_total 26 = .ok (.iadd, 1) := by decide +kernel
theorem dX12_total_27 : decode cX12_total 27 = .ok (.istore_n 2, 1) := by decide +kernel
theorem dX12_total_28 : decode cX12_total 28 = .ok (.iconst 1, 1) := by decide +kernel
theorem dX12_total_29 : decode cX12_total 29 = .ok (.istore 4, 2) := by decide +kernel
theorem dX12_total_31 : decode cX12_total 31 = .ok (.iload 4, 2) := by decide +kernel
theorem dX12_total_33 : decode cX12_total 33 = .ok (.aload_n 0, 1) := by decide +kernel
theorem dX12_total_34 : decode cX12_total 34 = .ok (.getfield 24, 3) := by decide +kernel
theorem dX12_total_37 : decode cX12_total 37 = .ok (.iload_n 1, 1) := by decide +kernel
theorem dX12_total_38 : decode cX12_total 38 = .ok (.bipush 71, 2) := by decide +kernel
theorem dX12_total_40 : decode cX12_total 40 = .ok (.imul, 1) := by decide +kernel
theorem dX12_total_41 : decode cX12_total 41 = .ok (.iload_n 3, 1) := by decide +kernel
theorem dX12_total_42 : decode cX12_total 42 = .ok (.iadd, 1) := by decide +kernel
theorem dX12_total_43 : decode cX12_total 43 = .ok (.iaload, 1) := by decide +kernel
theorem dX12_total_44 : decode cX12_total 44 = .ok (.if_icmp .gt 24, 3) := by decide +kernel
theorem dX12_total_47 : decode cX12_total 47 = .ok (.iload_n 2, 1) := by decide +kernel
theorem dX12_total_48 : decode cX12_total 48 = .ok (.aload_n 0, 1) := by decide +kernel
theorem dX12_total_49 : decode cX12_total 49 = .ok (.getfield 34, 3) := by decide +kernel
theorem dX12_total_52 : decode cX12_total 52 = .ok (.iload_n 1, 1) := by decide +kernel
theorem dX12_total_53 : decode cX12_total 53 = .ok (.iload_n 3, 1) := by decide +kernel
theorem dX12_total_54 : decode cX12_total 54 = .ok (.iload 4, 2) := by decide +kernel
theorem dX12_total_56 : decode cX12_total 56 = .ok (.invokestatic 27, 3) := by decide +kernel
theorem dX12_total_59 : decode cX12_total 59 = .ok (.iaload, 1) := by decide +kernel
theorem dX12_total_60 : decode cX12_total 60 = .ok (.iadd, 1) := by decide +kernel
theorem dX12_total_61 : decode cX12_total 61 = .ok (.istore_n 2, 1) := by decide +kernel
theorem dX12_total_62 : decode cX12_total 62 = .ok (.iinc 4 1, 3) := by decide +kernel
theorem dX12_total_65 : decode cX12_total 65 = .ok (.goto (-34), 3) := by decide +kernel
theorem dX12_total_68 : decode cX12_total 68 = .ok (.iinc 3 1, 3) := by decide +kernel
theorem dX12_total_71 : decode cX12_total 71 = .ok (.goto (-67), 3) := by decide +kernel
theorem dX12_total_74 : decode cX12_total 74 = .ok (.iload_n 2, 1) := by decide +kernel
theorem dX12_total_75 : decode cX12_total 75 = .ok (.ireturn, 1) := by decide +kernel
def X12_total_68 (k4 : Nat → Int32 → Int32 → Int32 → MM Int32) (this : Nat) (x1 : Int32) (x2 : Int32) (x3 : Int32) : MM Int32 :=
  (k4 this x1 x2 (x3 + (1 : Int32)))
def X12_total_31_st (k4 : Nat → Int32 → Int32 → Int32 → MM Int32) (k31 : Nat → Int32 → Int32 → Int32 → Int32 → MM Int32) (this : Nat) (x1 : Int32) (x2 : Int32) (x3 : Int32) (x4 : Int32) : MM Int32 :=
  mb (gR 13 (some this) 8) fun v1 =>
  mb (aI v1 ((x1 * (71 : Int32)) + x3)) fun v2 =>
  if v2 < x4 then ((X12_total_68 k4 this x1 x2 x3)) else (mb (gR 13 (some this) 10) fun v3 =>
  mb (X12_spot x1 x3 x4) fun v4 =>
  mb (aI v3 v4) fun v5 =>
  (k31 this x1 (x2 + v5) x3 (x4 + (1 : Int32))))
def X12_total_31 (k4 : Nat → Int32 → Int32 → Int32 → MM Int32) : Nat → Nat → Int32 → Int32 → Int32 → Int32 → MM Int32
  | 0 => fun _ _ _ _ _ => mf
  | n + 1 => fun this x1 x2 x3 x4 => X12_total_31_st k4 (X12_total_31 k4 n) this x1 x2 x3 x4
def X12_total_4_st  (k4 : Nat → Int32 → Int32 → Int32 → MM Int32) (this : Nat) (x1 : Int32) (x2 : Int32) (x3 : Int32) : MM Int32 :=
  mb (gR 13 (some this) 6) fun v1 =>
  mb (aI v1 x1) fun v2 =>
  if v2 ≤ x3 then (mr x2) else (mb (gR 13 (some this) 8) fun v3 =>
  mb (aI v3 ((x1 * (71 : Int32)) + x3)) fun v4 =>
  (X12_total_31 k4 LFU this x1 (x2 + v4) x3 (1 : Int32)))
def X12_total_4  : Nat → Nat → Int32 → Int32 → Int32 → MM Int32
  | 0 => fun _ _ _ _ => mf
  | n + 1 => fun this x1 x2 x3 => X12_total_4_st  (X12_total_4  n) this x1 x2 x3
def X12_total (this : Nat) (a1 : Int32) : MM Int32 :=
  (X12_total_4 LFU this a1 (0 : Int32) (0 : Int32))
set_option maxRecDepth 100000 in
set_option maxHeartbeats 4000000 in
theorem s_X12_total_68 (G : GG) (k4 : Nat → Int32 → Int32 → Int32 → MM Int32) (hk4 : ∀ (this : Nat) (x1 : Int32) (x2 : Int32) (x3 : Int32), Sn G yX12_total cX12_total 5 (some FieldType.int) 1 22 (fun v : Int32 => some (.int v)) (k4 this x1 x2 x3) 4 [some (va_rf (some this)), some (.int x1), some (.int x2), some (.int x3), none] []) (this : Nat) (x1 : Int32) (x2 : Int32) (x3 : Int32) : Sn G yX12_total cX12_total 5 (some FieldType.int) 1 22 (fun v : Int32 => some (.int v)) (X12_total_68 k4 this x1 x2 x3) 68 [some (va_rf (some this)), some (.int x1), some (.int x2), some (.int x3), none] [] := by
  unfold X12_total_68
  refine sn_iinc (v := x3) (w := 1) (L' := [some (va_rf (some this)), some (.int x1), some (.int x2), some (.int (x3 + (1 : Int32))), none]) (pc' := 71) dX12_total_68 rfl rfl rfl (by decide) rfl ?_
  refine sn_goto (pc' := 4) dX12_total_71 rfl ?_
  exact sn_weak (le_s (le_s (le_s (le_s (le_n le_e))))) (hk4 this x1 x2 (x3 + (1 : Int32)))
set_option maxRecDepth 100000 in
set_option maxHeartbeats 4000000 in
theorem s_X12_total_31_st (G : GG) (k4 : Nat → Int32 → Int32 → Int32 → MM Int32) (hk4 : ∀ (this : Nat) (x1 : Int32) (x2 : Int32) (x3 : Int32), Sn G yX12_total cX12_total 5 (some FieldType.int) 1 22 (fun v : Int32 => some (.int v)) (k4 this x1 x2 x3) 4 [some (va_rf (some this)), some (.int x1), some (.int x2), some (.int x3), none] []) (k31 : Nat → Int32 → Int32 → Int32 → Int32 → MM Int32) (hk31 : ∀ (this : Nat) (x1 : Int32) (x2 : Int32) (x3 : Int32) (x4 : Int32), Sn G yX12_total cX12_total 5 (some FieldType.int) 1 22 (fun v : Int32 => some (.int v)) (k31 this x1 x2 x3 x4) 31 [some (va_rf (some this)), some (.int x1), some (.int x2), some (.int x3), some (.int x4)] []) (this : Nat) (x1 : Int32) (x2 : Int32) (x3 : Int32) (x4 : Int32) : Sn G yX12_total cX12_total 5 (some FieldType.int) 1 22 (fun v : Int32 => some (.int v)) (X12_total_31_st k4 k31 this x1 x2 x3 x4) 31 [some (va_rf (some this)), some (.int x1), some (.int x2), some (.int x3), some (.int x4)] [] := by
  unfold X12_total_31_st
  refine sn_iload (v := x4) (pc' := 33) dX12_total_31 rfl rfl ?_
  refine sn_aload_n (v := (some this)) (pc' := 34) dX12_total_33 rfl rfl rfl ?_
  refine sn_gR (k := 8) (pc' := 37) ci_13 rfl (Or.inl tw1286) dX12_total_34 rfl (fun v1 => ?_)
  refine sn_iload_n (v := x1) (pc' := 38) dX12_total_37 rfl rfl rfl ?_
  refine sn_bipush (v := (71 : Int32)) (pc' := 40) dX12_total_38 rfl (by decide) ?_
  refine sn_imul (pc' := 41) dX12_total_40 rfl ?_
  refine sn_iload_n (v := x3) (pc' := 42) dX12_total_41 rfl rfl rfl ?_
  refine sn_iadd (pc' := 43) dX12_total_42 rfl ?_
  refine sn_aI (pc' := 44) dX12_total_43 rfl (fun v2 => ?_)
  refine sn_ic_gt (pt := 68) (pf := 47) dX12_total_44 rfl rfl ?_ ?_
  · exact sn_weak (le_s (le_s (le_s (le_s (le_n le_e))))) (s_X12_total_68 G k4 hk4 this x1 x2 x3)
  · refine sn_iload_n (v := x2) (pc' := 48) dX12_total_47 rfl rfl rfl ?_
    refine sn_aload_n (v := (some this)) (pc' := 49) dX12_total_48 rfl rfl rfl ?_
    refine sn_gR (k := 10) (pc' := 52) ci_13 rfl (Or.inl tw1288) dX12_total_49 rfl (fun v3 => ?_)
    refine sn_iload_n (v := x1) (pc' := 53) dX12_total_52 rfl rfl rfl ?_
    refine sn_iload_n (v := x3) (pc' := 54) dX12_total_53 rfl rfl rfl ?_
    refine sn_iload (v := x4) (pc' := 56) dX12_total_54 rfl rfl ?_
    refine sn_cS (st := [va_rf v3, .int x2]) (As := [.int x1, .int x3, .int x4]) (st2 := (fun v => .int v :: [va_rf v3, .int x2])) (pc' := 59) (c_X12_spot G x1 x3 x4) cw_X12_spot rfl rfl tw1527 tw1528 rfl rfl (cat_q (cat_i cat_nil)) rfl (fun _ => rfl) dX12_total_56 rfl (fun v4 => ?_)
    refine sn_aI (pc' := 60) dX12_total_59 rfl (fun v5 => ?_)
    refine sn_iadd (pc' := 61) dX12_total_60 rfl ?_
    refine sn_istore_n (v := (x2 + v5)) (L' := [some (va_rf (some this)), some (.int x1), some (.int (x2 + v5)), some (.int x3), some (.int x4)]) (pc' := 62) dX12_total_61 rfl rfl rfl rfl ?_
    refine sn_iinc (v := x4) (w := 1) (L' := [some (va_rf (some this)), some (.int x1), some (.int (x2 + v5)), some (.int x3), some (.int (x4 + (1 : Int32)))]) (pc' := 65) dX12_total_62 rfl rfl rfl (by decide) rfl ?_
    refine sn_goto (pc' := 31) dX12_total_65 rfl ?_
    exact sn_weak (le_s (le_s (le_s (le_s (le_s le_e))))) (hk31 this x1 (x2 + v5) x3 (x4 + (1 : Int32)))
set_option maxRecDepth 100000 in
set_option maxHeartbeats 4000000 in
theorem s_X12_total_31 (G : GG) (k4 : Nat → Int32 → Int32 → Int32 → MM Int32) (hk4 : ∀ (this : Nat) (x1 : Int32) (x2 : Int32) (x3 : Int32), Sn G yX12_total cX12_total 5 (some FieldType.int) 1 22 (fun v : Int32 => some (.int v)) (k4 this x1 x2 x3) 4 [some (va_rf (some this)), some (.int x1), some (.int x2), some (.int x3), none] []) : ∀ (n : Nat) (this : Nat) (x1 : Int32) (x2 : Int32) (x3 : Int32) (x4 : Int32), Sn G yX12_total cX12_total 5 (some FieldType.int) 1 22 (fun v : Int32 => some (.int v)) (X12_total_31 k4 n this x1 x2 x3 x4) 31 [some (va_rf (some this)), some (.int x1), some (.int x2), some (.int x3), some (.int x4)] [] := by
  intro n
  induction n with
  | zero => intro this x1 x2 x3 x4; exact sn_mf
  | succ n ih => intro this x1 x2 x3 x4; exact s_X12_total_31_st G k4 hk4 (X12_total_31 k4 n) ih this x1 x2 x3 x4
set_option maxRecDepth 100000 in
set_option maxHeartbeats 4000000 in
theorem s_X12_total_4_st (G : GG)   (k4 : Nat → Int32 → Int32 → Int32 → MM Int32) (hk4 : ∀ (this : Nat) (x1 : Int32) (x2 : Int32) (x3 : Int32), Sn G yX12_total cX12_total 5 (some FieldType.int) 1 22 (fun v : Int32 => some (.int v)) (k4 this x1 x2 x3) 4 [some (va_rf (some this)), some (.int x1), some (.int x2), some (.int x3), none] []) (this : Nat) (x1 : Int32) (x2 : Int32) (x3 : Int32) : Sn G yX12_total cX12_total 5 (some FieldType.int) 1 22 (fun v : Int32 => some (.int v)) (X12_total_4_st  k4 this x1 x2 x3) 4 [some (va_rf (some this)), some (.int x1), some (.int x2), some (.int x3), none] [] := by
  unfold X12_total_4_st
  refine sn_iload_n (v := x3) (pc' := 5) dX12_total_4 rfl rfl rfl ?_
  refine sn_aload_n (v := (some this)) (pc' := 6) dX12_total_5 rfl rfl rfl ?_
  refine sn_gR (k := 6) (pc' := 9) ci_13 rfl (Or.inl tw1284) dX12_total_6 rfl (fun v1 => ?_)
  refine sn_iload_n (v := x1) (pc' := 10) dX12_total_9 rfl rfl rfl ?_
  refine sn_aI (pc' := 11) dX12_total_10 rfl (fun v2 => ?_)
  refine sn_ic_ge (pt := 74) (pf := 14) dX12_total_11 rfl rfl ?_ ?_
  · refine sn_iload_n (v := x2) (pc' := 75) dX12_total_74 rfl rfl rfl ?_
    exact sn_iret dX12_total_75 rfl rfl
  · refine sn_iload_n (v := x2) (pc' := 15) dX12_total_14 rfl rfl rfl ?_
    refine sn_aload_n (v := (some this)) (pc' := 16) dX12_total_15 rfl rfl rfl ?_
    refine sn_gR (k := 8) (pc' := 19) ci_13 rfl (Or.inl tw1286) dX12_total_16 rfl (fun v3 => ?_)
    refine sn_iload_n (v := x1) (pc' := 20) dX12_total_19 rfl rfl rfl ?_
    refine sn_bipush (v := (71 : Int32)) (pc' := 22) dX12_total_20 rfl (by decide) ?_
    refine sn_imul (pc' := 23) dX12_total_22 rfl ?_
    refine sn_iload_n (v := x3) (pc' := 24) dX12_total_23 rfl rfl rfl ?_
    refine sn_iadd (pc' := 25) dX12_total_24 rfl ?_
    refine sn_aI (pc' := 26) dX12_total_25 rfl (fun v4 => ?_)
    refine sn_iadd (pc' := 27) dX12_total_26 rfl ?_
    refine sn_istore_n (v := (x2 + v4)) (L' := [some (va_rf (some this)), some (.int x1), some (.int (x2 + v4)), some (.int x3), none]) (pc' := 28) dX12_total_27 rfl rfl rfl rfl ?_
    refine sn_iconst (v := (1 : Int32)) (pc' := 29) dX12_total_28 rfl (by decide) ?_
    refine sn_istore (v := (1 : Int32)) (L' := [some (va_rf (some this)), some (.int x1), some (.int (x2 + v4)), some (.int x3), some (.int (1 : Int32))]) (pc' := 31) dX12_total_29 rfl rfl rfl ?_
    exact sn_weak (le_s (le_s (le_s (le_s (le_s le_e))))) (s_X12_total_31 G k4 hk4 LFU this x1 (x2 + v4) x3 (1 : Int32))
set_option maxRecDepth 100000 in
set_option maxHeartbeats 4000000 in
theorem s_X12_total_4 (G : GG)   : ∀ (n : Nat) (this : Nat) (x1 : Int32) (x2 : Int32) (x3 : Int32), Sn G yX12_total cX12_total 5 (some FieldType.int) 1 22 (fun v : Int32 => some (.int v)) (X12_total_4  n this x1 x2 x3) 4 [some (va_rf (some this)), some (.int x1), some (.int x2), some (.int x3), none] [] := by
  intro n
  induction n with
  | zero => intro this x1 x2 x3; exact sn_mf
  | succ n ih => intro this x1 x2 x3; exact s_X12_total_4_st G   (X12_total_4  n) ih this x1 x2 x3
set_option maxRecDepth 100000 in
set_option maxHeartbeats 4000000 in
theorem s_X12_total (G : GG) (this : Nat) (a1 : Int32) : Sn G yX12_total cX12_total 5 (some FieldType.int) 1 22 (fun v : Int32 => some (.int v)) (X12_total this a1) 0 [some (va_rf (some this)), some (.int a1), none, none, none] [] := by
  unfold X12_total
  refine sn_iconst (v := (0 : Int32)) (pc' := 1) dX12_total_0 rfl (by decide) ?_
  refine sn_istore_n (v := (0 : Int32)) (L' := [some (va_rf (some this)), some (.int a1), some (.int (0 : Int32)), none, none]) (pc' := 2) dX12_total_1 rfl rfl rfl rfl ?_
  refine sn_iconst (v := (0 : Int32)) (pc' := 3) dX12_total_2 rfl (by decide) ?_
  refine sn_istore_n (v := (0 : Int32)) (L' := [some (va_rf (some this)), some (.int a1), some (.int (0 : Int32)), some (.int (0 : Int32)), none]) (pc' := 4) dX12_total_3 rfl rfl rfl rfl ?_
  exact sn_weak (le_s (le_s (le_s (le_s (le_n le_e))))) (s_X12_total_4 G LFU this a1 (0 : Int32) (0 : Int32))
theorem c_X12_total (G : GG) (this : Nat) (a1 : Int32) : Cal G yX12_total cX12_total 5 (some FieldType.int) 1 22 (fun v : Int32 => some (.int v)) (X12_total this a1) [.ref this, .int a1] :=
  Cal.of (by decide) (cat_t (cat_i cat_nil)) rfl (sn_weak (le_s (le_s (le_z (le_z (le_z le_e))))) (s_X12_total G this a1))
theorem cw_X12_total : CW yX12_total cX12_total 5 (some FieldType.int) 1 := ⟨tw1545, tw15, by decide, by decide +kernel⟩
/-! X12_placeOf -/
theorem dX12_placeOf_0 : decode cX12_placeOf 0 = .ok (.iconst 0, 1) := by decide +kernel
theorem dX12_placeOf_1 : decode cX12_placeOf 1 = .ok (.istore 5, 2) := by decide +kernel
theorem dX12_placeOf_3 : decode cX12_placeOf 3 = .ok (.iload 5, 2) := by decide +kernel
theorem dX12_placeOf_5 : decode cX12_placeOf 5 = .ok (.aload_n 0, 1) := by decide +kernel
theorem dX12_placeOf_6 : decode cX12_placeOf 6 = .ok (.getfield 46, 3) := by decide +kernel
theorem dX12_placeOf_9 : decode cX12_placeOf 9 = .ok (.iload_n 1, 1) := by decide +kernel
theorem dX12_placeOf_10 : decode cX12_placeOf 10 = .ok (.iaload, 1) := by decide +kernel
theorem dX12_placeOf_11 : decode cX12_placeOf 11 = .ok (.if_icmp .ge 66, 3) := by decide +kernel
theorem dX12_placeOf_14 : decode cX12_placeOf 14 = .ok (.iload_n 1, 1) := by decide +kernel
theorem dX12_placeOf_15 : decode cX12_placeOf 15 = .ok (.sipush 400, 3) := by decide +kernel
theorem dX12_placeOf_18 : decode cX12_placeOf 18 = .ok (.imul, 1) := by decide +kernel
theorem dX12_placeOf_19 : decode cX12_placeOf 19 = .ok (.iload 5, 2) := by decide +kernel
theorem dX12_placeOf_21 : decode cX12_placeOf 21 = .ok (.iadd, 1) := by decide +kernel
theorem dX12_placeOf_22 : decode cX12_placeOf 22 = .ok (.istore 6, 2) := by decide +kernel
theorem dX12_placeOf_24 : decode cX12_placeOf 24 = .ok (.aload_n 0, 1) := by decide +kernel
theorem dX12_placeOf_25 : decode cX12_placeOf 25 = .ok (.getfield 21, 3) := by decide +kernel
theorem dX12_placeOf_28 : decode cX12_placeOf 28 = .ok (.iload_n 1, 1) := by decide +kernel
theorem dX12_placeOf_29 : decode cX12_placeOf 29 = .ok (.bipush 71, 2) := by decide +kernel
theorem dX12_placeOf_31 : decode cX12_placeOf 31 = .ok (.imul, 1) := by decide +kernel
theorem dX12_placeOf_32 : decode cX12_placeOf 32 = .ok (.aload_n 0, 1) := by decide +kernel
theorem dX12_placeOf_33 : decode cX12_placeOf 33 = .ok (.getfield 37, 3) := by decide +kernel
theorem dX12_placeOf_36 : decode cX12_placeOf 36 = .ok (.iload 6, 2) := by decide +kernel
theorem dX12_placeOf_38 : decode cX12_placeOf 38 = .ok (.iaload, 1) := by decide +kernel
theorem dX12_placeOf_39 : decode cX12_placeOf 39 = .ok (.iadd, 1) := by decide +kernel
theorem dX12_placeOf_40 : decode cX12_placeOf 40 = .ok (.iaload, 1) := by decide +kernel
theorem dX12_placeOf_41 : decode cX12_placeOf 41 = .ok (.iload_n 2, 1) := by decide +kernel
theorem dX12_placeOf_42 : decode cX12_placeOf 42 = .ok (.if_icmp .ne 29, 3) := by decide +kernel
theorem dX12_placeOf_45 : decode cX12_placeOf 45 = .ok (.aload_n 0, 1) := by decide +kernel
theorem dX12_placeOf_46 : decode cX12_placeOf 46 = .ok (.getfield 40, 3) := by decide +kernel
theorem dX12_placeOf_49 : decode cX12_placeOf 49 = .ok (.iload 6, 2) := by decide +kernel
theorem dX12_placeOf_51 : decode cX12_placeOf 51 = .ok (.iaload, 1) := by decide +kernel
theorem dX12_placeOf_52 : decode cX12_placeOf 52 = .ok (.iload_n 3, 1) := by decide +kernel
theorem dX12_placeOf_53 : decode cX12_placeOf 53 = .ok (.if_icmp .ne 18, 3) := by decide +kernel
theorem dX12_placeOf_56 : decode cX12_placeOf 56 = .ok (.aload_n 0, 1) := by decide +kernel
theorem dX12_placeOf_57 : decode cX12_placeOf 57 = .ok (.getfield 43, 3) := by decide +kernel
theorem dX12_placeOf_60 : decode cX12_placeOf 60 = .ok (.iload 6, 2) := by decide +kernel
theorem dX12_placeOf_62 : decode cX12_placeOf 62 = .ok (.iaload, 1) := by decide +kernel
theorem dX12_placeOf_63 : decode cX12_placeOf 63 = .ok (.iload 4, 2) := by decide +kernel
theorem dX12_placeOf_65 : decode cX12_placeOf 65 = .ok (.if_icmp .ne 6, 3) := by decide +kernel
theorem dX12_placeOf_68 : decode cX12_placeOf 68 = .ok (.iload 5, 2) := by decide +kernel
theorem dX12_placeOf_70 : decode cX12_placeOf 70 = .ok (.ireturn, 1) := by decide +kernel
theorem dX12_placeOf_71 : decode cX12_placeOf 71 = .ok (.iinc 5 1, 3) := by decide +kernel
theorem dX12_placeOf_74 : decode cX12_placeOf 74 = .ok (.goto (-71), 3) := by decide +kernel
theorem dX12_placeOf_77 : decode cX12_placeOf 77 = .ok (.iconst (-1), 1) := by decide +kernel
theorem dX12_placeOf_78 : decode cX12_placeOf 78 = .ok (.ireturn, 1) := by decide +kernel
def X12_placeOf_71 (k3 : Nat → Int32 → Int32 → Int32 → Int32 → Int32 → MM Int32) (this : Nat) (x1 : Int32) (x2 : Int32) (x3 : Int32) (x4 : Int32) (x5 : Int32) : MM Int32 :=
  (k3 this x1 x2 x3 x4 (x5 + (1 : Int32)))
def X12_placeOf_3_st  (k3 : Nat → Int32 → Int32 → Int32 → Int32 → Int32 → MM Int32) (this : Nat) (x1 : Int32) (x2 : Int32) (x3 : Int32) (x4 : Int32) (x5 : Int32) : MM Int32 :=
  mb (gR 13 (some this) 11) fun v1 =>
  mb (aI v1 x1) fun v2 =>
  if v2 ≤ x5 then (mr (-1 : Int32)) else (mb (gR 13 (some this) 7) fun v3 =>
  mb (gR 13 (some this) 12) fun v4 =>
  mb (aI v4 ((x1 * (400 : Int32)) + x5)) fun v5 =>
  mb (aI v3 ((x1 * (71 : Int32)) + v5)) fun v6 =>
  if v6 = x2 then (mb (gR 13 (some this) 13) fun v7 =>
  mb (aI v7 ((x1 * (400 : Int32)) + x5)) fun v8 =>
  if v8 = x3 then (mb (gR 13 (some this) 14) fun v9 =>
  mb (aI v9 ((x1 * (400 : Int32)) + x5)) fun v10 =>
  if v10 = x4 then (mr x5) else ((X12_placeOf_71 k3 this x1 x2 x3 x4 x5))) else ((X12_placeOf_71 k3 this x1 x2 x3 x4 x5))) else ((X12_placeOf_71 k3 this x1 x2 x3 x4 x5)))
def X12_placeOf_3  : Nat → Nat → Int32 → Int32 → Int32 → Int32 → Int32 → MM Int32
  | 0 => fun _ _ _ _ _ _ => mf
  | n + 1 => fun this x1 x2 x3 x4 x5 => X12_placeOf_3_st  (X12_placeOf_3  n) this x1 x2 x3 x4 x5
def X12_placeOf (this : Nat) (a1 : Int32) (a2 : Int32) (a3 : Int32) (a4 : Int32) : MM Int32 :=
  (X12_placeOf_3 LFU this a1 a2 a3 a4 (0 : Int32))
set_option maxRecDepth 100000 in
set_option maxHeartbeats 4000000 in
theorem s_X12_placeOf_71 (G : GG) (k3 : Nat → Int32 → Int32 → Int32 → Int32 → Int32 → MM Int32) (hk3 : ∀ (this : Nat) (x1 : Int32) (x2 : Int32) (x3 : Int32) (x4 : Int32) (x5 : Int32), Sn G yX12_placeOf cX12_placeOf 7 (some FieldType.int) 0 0 (fun v : Int32 => some (.int v)) (k3 this x1 x2 x3 x4 x5) 3 [some (va_rf (some this)), some (.int x1), some (.int x2), some (.int x3), some (.int x4), some (.int x5), none] []) (this : Nat) (x1 : Int32) (x2 : Int32) (x3 : Int32) (x4 : Int32) (x5 : Int32) : Sn G yX12_placeOf cX12_placeOf 7 (some FieldType.int) 0 0 (fun v : Int32 => some (.int v)) (X12_placeOf_71 k3 this x1 x2 x3 x4 x5) 71 [some (va_rf (some this)), some (.int x1), some (.int x2), some (.int x3), some (.int x4), some (.int x5), none] [] := by
  unfold X12_placeOf_71
  refine sn_iinc (v := x5) (w := 1) (L' := [some (va_rf (some this)), some (.int x1), some (.int x2), some (.int x3), some (.int x4), some (.int (x5 + (1 : Int32))), none]) (pc' := 74) dX12_placeOf_71 rfl rfl rfl (by decide) rfl ?_
  refine sn_goto (pc' := 3) dX12_placeOf_74 rfl ?_
  exact sn_weak (le_s (le_s (le_s (le_s (le_s (le_s (le_n le_e))))))) (hk3 this x1 x2 x3 x4 (x5 + (1 : Int32)))
set_option maxRecDepth 100000 in
set_option maxHeartbeats 4000000 in
theorem s_X12_placeOf_3_st (G : GG)   (k3 : Nat → Int32 → Int32 → Int32 → Int32 → Int32 → MM Int32) (hk3 : ∀ (this : Nat) (x1 : Int32) (x2 : Int32) (x3 : Int32) (x4 : Int32) (x5 : Int32), Sn G yX12_placeOf cX12_placeOf 7 (some FieldType.int) 0 0 (fun v : Int32 => some (.int v)) (k3 this x1 x2 x3 x4 x5) 3 [some (va_rf (some this)), some (.int x1), some (.int x2), some (.int x3), some (.int x4), some (.int x5), none] []) (this : Nat) (x1 : Int32) (x2 : Int32) (x3 : Int32) (x4 : Int32) (x5 : Int32) : Sn G yX12_placeOf cX12_placeOf 7 (some FieldType.int) 0 0 (fun v : Int32 => some (.int v)) (X12_placeOf_3_st  k3 this x1 x2 x3 x4 x5) 3 [some (va_rf (some this)), some (.int x1), some (.int x2), some (.int x3), some (.int x4), some (.int x5), none] [] := by
  unfold X12_placeOf_3_st
  refine sn_iload (v := x5) (pc' := 5) dX12_placeOf_3 rfl rfl ?_
  refine sn_aload_n (v := (some this)) (pc' := 6) dX12_placeOf_5 rfl rfl rfl ?_
  refine sn_gR (k := 11) (pc' := 9) ci_13 rfl (Or.inl tw1289) dX12_placeOf_6 rfl (fun v1 => ?_)
  refine sn_iload_n (v := x1) (pc' := 10) dX12_placeOf_9 rfl rfl rfl ?_
  refine sn_aI (pc' := 11) dX12_placeOf_10 rfl (fun v2 => ?_)
  refine sn_ic_ge (pt := 77) (pf := 14) dX12_placeOf_11 rfl rfl ?_ ?_
  · refine sn_iconst (v := (-1 : Int32)) (pc' := 78) dX12_placeOf_77 rfl (by decide) ?_
    exact sn_iret dX12_placeOf_78 rfl rfl
  · refine sn_iload_n (v := x1) (pc' := 15) dX12_placeOf_14 rfl rfl rfl ?_
    refine sn_sipush (v := (400 : Int32)) (pc' := 18) dX12_placeOf_15 rfl (by decide) ?_
    refine sn_imul (pc' := 19) dX12_placeOf_18 rfl ?_
    refine sn_iload (v := x5) (pc' := 21) dX12_placeOf_19 rfl rfl ?_
    refine sn_iadd (pc' := 22) dX12_placeOf_21 rfl ?_
    refine sn_istore (v := ((x1 * (400 : Int32)) + x5)) (L' := [some (va_rf (some this)), some (.int x1), some (.int x2), some (.int x3), some (.int x4), some (.int x5), some (.int ((x1 * (400 : Int32)) + x5))]) (pc' := 24) dX12_placeOf_22 rfl rfl rfl ?_
    refine sn_aload_n (v := (some this)) (pc' := 25) dX12_placeOf_24 rfl rfl rfl ?_
    refine sn_gR (k := 7) (pc' := 28) ci_13 rfl (Or.inl tw1285) dX12_placeOf_25 rfl (fun v3 => ?_)
    refine sn_iload_n (v := x1) (pc' := 29) dX12_placeOf_28 rfl rfl rfl ?_
    refine sn_bipush (v := (71 : Int32)) (pc' := 31) dX12_placeOf_29 rfl (by decide) ?_
    refine sn_imul (pc' := 32) dX12_placeOf_31 rfl ?_
    refine sn_aload_n (v := (some this)) (pc' := 33) dX12_placeOf_32 rfl rfl rfl ?_
    refine sn_gR (k := 12) (pc' := 36) ci_13 rfl (Or.inl tw1290) dX12_placeOf_33 rfl (fun v4 => ?_)
    refine sn_iload (v := ((x1 * (400 : Int32)) + x5)) (pc' := 38) dX12_placeOf_36 rfl rfl ?_
    refine sn_aI (pc' := 39) dX12_placeOf_38 rfl (fun v5 => ?_)
    refine sn_iadd (pc' := 40) dX12_placeOf_39 rfl ?_
    refine sn_aI (pc' := 41) dX12_placeOf_40 rfl (fun v6 => ?_)
    refine sn_iload_n (v := x2) (pc' := 42) dX12_placeOf_41 rfl rfl rfl ?_
    refine sn_ic_ne (pt := 71) (pf := 45) dX12_placeOf_42 rfl rfl ?_ ?_
    · refine sn_aload_n (v := (some this)) (pc' := 46) dX12_placeOf_45 rfl rfl rfl ?_
      refine sn_gR (k := 13) (pc' := 49) ci_13 rfl (Or.inl tw1291) dX12_placeOf_46 rfl (fun v7 => ?_)
      refine sn_iload (v := ((x1 * (400 : Int32)) + x5)) (pc' := 51) dX12_placeOf_49 rfl rfl ?_
      refine sn_aI (pc' := 52) dX12_placeOf_51 rfl (fun v8 => ?_)
      refine sn_iload_n (v := x3) (pc' := 53) dX12_placeOf_52 rfl rfl rfl ?_
      refine sn_ic_ne (pt := 71) (pf := 56) dX12_placeOf_53 rfl rfl ?_ ?_
      · refine sn_aload_n (v := (some this)) (pc' := 57) dX12_placeOf_56 rfl rfl rfl ?_
        refine sn_gR (k := 14) (pc' := 60) ci_13 rfl (Or.inl tw1292) dX12_placeOf_57 rfl (fun v9 => ?_)
        refine sn_iload (v := ((x1 * (400 : Int32)) + x5)) (pc' := 62) dX12_placeOf_60 rfl rfl ?_
        refine sn_aI (pc' := 63) dX12_placeOf_62 rfl (fun v10 => ?_)
        refine sn_iload (v := x4) (pc' := 65) dX12_placeOf_63 rfl rfl ?_
        refine sn_ic_ne (pt := 71) (pf := 68) dX12_placeOf_65 rfl rfl ?_ ?_
        · refine sn_iload (v := x5) (pc' := 70) dX12_placeOf_68 rfl rfl ?_
          exact sn_iret dX12_placeOf_70 rfl rfl
        · exact sn_weak (le_s (le_s (le_s (le_s (le_s (le_s (le_n le_e))))))) (s_X12_placeOf_71 G k3 hk3 this x1 x2 x3 x4 x5)
      · exact sn_weak (le_s (le_s (le_s (le_s (le_s (le_s (le_n le_e))))))) (s_X12_placeOf_71 G k3 hk3 this x1 x2 x3 x4 x5)
    · exact sn_weak (le_s (le_s (le_s (le_s (le_s (le_s (le_n le_e))))))) (s_X12_placeOf_71 G k3 hk3 this x1 x2 x3 x4 x5)
set_option maxRecDepth 100000 in
set_option maxHeartbeats 4000000 in
theorem s_X12_placeOf_3 (G : GG)   : ∀ (n : Nat) (this : Nat) (x1 : Int32) (x2 : Int32) (x3 : Int32) (x4 : Int32) (x5 : Int32), Sn G yX12_placeOf cX12_placeOf 7 (some FieldType.int) 0 0 (fun v : Int32 => some (.int v)) (X12_placeOf_3  n this x1 x2 x3 x4 x5) 3 [some (va_rf (some this)), some (.int x1), some (.int x2), some (.int x3), some (.int x4), some (.int x5), none] [] := by
  intro n
  induction n with
  | zero => intro this x1 x2 x3 x4 x5; exact sn_mf
  | succ n ih => intro this x1 x2 x3 x4 x5; exact s_X12_placeOf_3_st G   (X12_placeOf_3  n) ih this x1 x2 x3 x4 x5
set_option maxRecDepth 100000 in
set_option maxHeartbeats 4000000 in
theorem s_X12_placeOf (G : GG) (this : Nat) (a1 : Int32) (a2 : Int32) (a3 : Int32) (a4 : Int32) : Sn G yX12_placeOf cX12_placeOf 7 (some FieldType.int) 0 0 (fun v : Int32 => some (.int v)) (X12_placeOf this a1 a2 a3 a4) 0 [some (va_rf (some this)), some (.int a1), some (.int a2), some (.int a3), some (.int a4), none, none] [] := by
  unfold X12_placeOf
  refine sn_iconst (v := (0 : Int32)) (pc' := 1) dX12_placeOf_0 rfl (by decide) ?_
  refine sn_istore (v := (0 : Int32)) (L' := [some (va_rf (some this)), some (.int a1), some (.int a2), some (.int a3), some (.int a4), some (.int (0 : Int32)), none]) (pc' := 3) dX12_placeOf_1 rfl rfl rfl ?_
  exact sn_weak (le_s (le_s (le_s (le_s (le_s (le_s (le_n le_e))))))) (s_X12_placeOf_3 G LFU this a1 a2 a3 a4 (0 : Int32))
theorem c_X12_placeOf (G : GG) (this : Nat) (a1 : Int32) (a2 : Int32) (a3 : Int32) (a4 : Int32) : Cal G yX12_placeOf cX12_placeOf 7 (some FieldType.int) 0 0 (fun v : Int32 => some (.int v)) (X12_placeOf this a1 a2 a3 a4) [.ref this, .int a1, .int a2, .int a3, .int a4] :=
  Cal.of (by decide) (cat_t (cat_i (cat_i (cat_i (cat_i cat_nil))))) rfl (sn_weak (le_s (le_s (le_s (le_s (le_s (le_z (le_z le_e))))))) (s_X12_placeOf G this a1 a2 a3 a4))
theorem cw_X12_placeOf : CW yX12_placeOf cX12_placeOf 7 (some FieldType.int) 4 := ⟨tw1577, tw15, by decide, by decide +kernel⟩
/-! X12_isPlain -/
theorem dX12_isPlain_0 : decode cX12_isPlain 0 = .ok (.iload_n 1, 1) := by decide +kernel
theorem dX12_isPlain_1 : decode cX12_isPlain 1 = .ok (.sipush 400, 3) := by decide +kernel
theorem dX12_isPlain_4 : decode cX12_isPlain 4 = .ok (.imul, 1) := by decide +kernel
theorem dX12_isPlain_5 : decode cX12_isPlain 5 = .ok (.iload_n 2, 1) := by decide +kernel
theorem dX12_isPlain_6 : decode cX12_isPlain 6 = .ok (.iadd, 1) := by decide +kernel
theorem dX12_isPlain_7 : decode cX12_isPlain 7 = .ok (.istore_n 3, 1) := by decide +kernel
theorem dX12_isPlain_8 : decode cX12_isPlain 8 = .ok (.aload_n 0, 1) := by decide +kernel
theorem dX12_isPlain_9 : decode cX12_isPlain 9 = .ok (.getfield 43, 3) := by decide +kernel
theorem dX12_isPlain_12 : decode cX12_isPlain 12 = .ok (.iload_n 3, 1) := by decide +kernel
theorem dX12_isPlain_13 : decode cX12_isPlain 13 = .ok (.iaload, 1) := by decide +kernel
theorem dX12_isPlain_14 : decode cX12_isPlain 14 = .ok (.ifCond .ne 31, 3) := by decide +kernel
theorem dX12_isPlain_17 : decode cX12_isPlain 17 = .ok (.aload_n 0, 1) := by decide +kernel
theorem dX12_isPlain_18 : decode cX12_isPlain 18 = .ok (.getfield 31, 3) := by decide +kernel
theorem dX12_isPlain_21 : decode cX12_isPlain 21 = .ok (.iload_n 1, 1) := by decide +kernel
theorem dX12_isPlain_22 : decode cX12_isPlain 22 = .ok (.aload_n 0, 1) := by decide +kernel
theorem dX12_isPlain_23 : decode cX12_isPlain 23 = .ok (.getfield 37, 3) := by decide +kernel
theorem dX12_isPlain_26 : decode cX12_isPlain 26 = .ok (.iload_n 3, 1) := by decide +kernel
theorem dX12_isPlain_27 : decode cX12_isPlain 27 = .ok (.iaload, 1) := by decide +kernel
theorem dX12_isPlain_28 : decode cX12_isPlain 28 = .ok (.aload_n 0, 1) := by decide +kernel
theorem dX12_isPlain_29 : decode cX12_isPlain 29 = .ok (.getfield 40, 3) := by decide +kernel
theorem dX12_isPlain_32 : decode cX12_isPlain 32 = .ok (.iload_n 3, 1) := by decide +kernel
theorem dX12_isPlain_33 : decode cX12_isPlain 33 = .ok (.iaload, 1) := by decide +kernel
theorem dX12_isPlain_34 : decode cX12_isPlain 34 = .ok (.invokestatic 27, 3) := by decide +kernel
theorem dX12_isPlain_37 : decode cX12_isPlain 37 = .ok (.iaload, 1) := by decide +kernel
theorem dX12_isPlain_38 : decode cX12_isPlain 38 = .ok (.ifCond .ne 7, 3) := by decide +kernel
theorem dX12_isPlain_41 : decode cX12_isPlain 41 = .ok (.iconst 1, 1) := by decide +kernel
theorem dX12_isPlain_42 : decode cX12_isPlain 42 = .ok (.goto 4, 3) := by decide +kernel
theorem dX12_isPlain_45 : decode cX12_isPlain 45 = .ok (.iconst 0, 1) := by decide +kernel
theorem dX12_isPlain_46 : decode cX12_isPlain 46 = .ok (.ireturn, 1) := by decide +kernel
def X12_isPlain (this : Nat) (a1 : Int32) (a2 : Int32) : MM Int32 :=
  mb (gR 13 (some this) 14) fun v1 =>
  mb (aI v1 ((a1 * (400 : Int32)) + a2)) fun v2 =>
  if v2 = 0 then (mb (gR 13 (some this) 9) fun v3 =>
  mb (gR 13 (some this) 12) fun v4 =>
  mb (aI v4 ((a1 * (400 : Int32)) + a2)) fun v5 =>
  mb (gR 13 (some this) 13) fun v6 =>
  mb (aI v6 ((a1 * (400 : Int32)) + a2)) fun v7 =>
  mb (X12_spot a1 v5 v7) fun v8 =>
  mb (aI v3 v8) fun v9 =>
  if v9 = 0 then (mr (1 : Int32)) else (mr (0 : Int32))) else (mr (0 : Int32))
set_option maxRecDepth 100000 in
set_option maxHeartbeats 4000000 in
theorem s_X12_isPlain (G : GG) (this : Nat) (a1 : Int32) (a2 : Int32) : Sn G yX12_isPlain cX12_isPlain 4 (some FieldType.boolean) 1 22 (fun v : Int32 => some (.int v)) (X12_isPlain this a1 a2) 0 [some (va_rf (some this)), some (.int a1), some (.int a2), none] [] := by
  unfold X12_isPlain
  refine sn_iload_n (v := a1) (pc' := 1) dX12_isPlain_0 rfl rfl rfl ?_
  refine sn_sipush (v := (400 : Int32)) (pc' := 4) dX12_isPlain_1 rfl (by decide) ?_
  refine sn_imul (pc' := 5) dX12_isPlain_4 rfl ?_
  refine sn_iload_n (v := a2) (pc' := 6) dX12_isPlain_5 rfl rfl rfl ?_
  refine sn_iadd (pc' := 7) dX12_isPlain_6 rfl ?_
  refine sn_istore_n (v := ((a1 * (400 : Int32)) + a2)) (L' := [some (va_rf (some this)), some (.int a1), some (.int a2), some (.int ((a1 * (400 : Int32)) + a2))]) (pc' := 8) dX12_isPlain_7 rfl rfl rfl rfl ?_
  refine sn_aload_n (v := (some this)) (pc' := 9) dX12_isPlain_8 rfl rfl rfl ?_
  refine sn_gR (k := 14) (pc' := 12) ci_13 rfl (Or.inl tw1292) dX12_isPlain_9 rfl (fun v1 => ?_)
  refine sn_iload_n (v := ((a1 * (400 : Int32)) + a2)) (pc' := 13) dX12_isPlain_12 rfl rfl rfl ?_
  refine sn_aI (pc' := 14) dX12_isPlain_13 rfl (fun v2 => ?_)
  refine sn_if_ne (pt := 45) (pf := 17) dX12_isPlain_14 rfl rfl ?_ ?_
  · refine sn_aload_n (v := (some this)) (pc' := 18) dX12_isPlain_17 rfl rfl rfl ?_
    refine sn_gR (k := 9) (pc' := 21) ci_13 rfl (Or.inl tw1287) dX12_isPlain_18 rfl (fun v3 => ?_)
    refine sn_iload_n (v := a1) (pc' := 22) dX12_isPlain_21 rfl rfl rfl ?_
    refine sn_aload_n (v := (some this)) (pc' := 23) dX12_isPlain_22 rfl rfl rfl ?_
    refine sn_gR (k := 12) (pc' := 26) ci_13 rfl (Or.inl tw1290) dX12_isPlain_23 rfl (fun v4 => ?_)
    refine sn_iload_n (v := ((a1 * (400 : Int32)) + a2)) (pc' := 27) dX12_isPlain_26 rfl rfl rfl ?_
    refine sn_aI (pc' := 28) dX12_isPlain_27 rfl (fun v5 => ?_)
    refine sn_aload_n (v := (some this)) (pc' := 29) dX12_isPlain_28 rfl rfl rfl ?_
    refine sn_gR (k := 13) (pc' := 32) ci_13 rfl (Or.inl tw1291) dX12_isPlain_29 rfl (fun v6 => ?_)
    refine sn_iload_n (v := ((a1 * (400 : Int32)) + a2)) (pc' := 33) dX12_isPlain_32 rfl rfl rfl ?_
    refine sn_aI (pc' := 34) dX12_isPlain_33 rfl (fun v7 => ?_)
    refine sn_cS (st := [va_rf v3]) (As := [.int a1, .int v5, .int v7]) (st2 := (fun v => .int v :: [va_rf v3])) (pc' := 37) (c_X12_spot G a1 v5 v7) cw_X12_spot rfl rfl tw1527 tw1528 rfl rfl (cat_q cat_nil) rfl (fun _ => rfl) dX12_isPlain_34 rfl (fun v8 => ?_)
    refine sn_aI (pc' := 38) dX12_isPlain_37 rfl (fun v9 => ?_)
    refine sn_if_ne (pt := 45) (pf := 41) dX12_isPlain_38 rfl rfl ?_ ?_
    · refine sn_iconst (v := (1 : Int32)) (pc' := 42) dX12_isPlain_41 rfl (by decide) ?_
      refine sn_goto (pc' := 46) dX12_isPlain_42 rfl ?_
      exact sn_iret dX12_isPlain_46 rfl (by decide)
    · refine sn_iconst (v := (0 : Int32)) (pc' := 46) dX12_isPlain_45 rfl (by decide) ?_
      exact sn_iret dX12_isPlain_46 rfl (by decide)
  · refine sn_iconst (v := (0 : Int32)) (pc' := 46) dX12_isPlain_45 rfl (by decide) ?_
    exact sn_iret dX12_isPlain_46 rfl (by decide)
theorem c_X12_isPlain (G : GG) (this : Nat) (a1 : Int32) (a2 : Int32) : Cal G yX12_isPlain cX12_isPlain 4 (some FieldType.boolean) 1 22 (fun v : Int32 => some (.int v)) (X12_isPlain this a1 a2) [.ref this, .int a1, .int a2] :=
  Cal.of (by decide) (cat_t (cat_i (cat_i cat_nil))) rfl (sn_weak (le_s (le_s (le_s (le_z le_e)))) (s_X12_isPlain G this a1 a2))
theorem cw_X12_isPlain : CW yX12_isPlain cX12_isPlain 4 (some FieldType.boolean) 2 := ⟨tw1617, tw15, by decide, by decide +kernel⟩
/-! X12_conjugate -/
theorem dX12_conjugate_0 : decode cX12_conjugate 0 = .ok (.iload_n 1, 1) := by decide +kernel
theorem dX12_conjugate_1 : decode cX12_conjugate 1 = .ok (.sipush 400, 3) := by decide +kernel
theorem dX12_conjugate_4 : decode cX12_conjugate 4 = .ok (.imul, 1) := by decide +kernel
theorem dX12_conjugate_5 : decode cX12_conjugate 5 = .ok (.iload_n 2, 1) := by decide +kernel
theorem dX12_conjugate_6 : decode cX12_conjugate 6 = .ok (.iadd, 1) := by decide +kernel
theorem dX12_conjugate_7 : decode cX12_conjugate 7 = .ok (.istore_n 3, 1) := by decide +kernel
theorem dX12_conjugate_8 : decode cX12_conjugate 8 = .ok (.aload_n 0, 1) := by decide +kernel
theorem dX12_conjugate_9 : decode cX12_conjugate 9 = .ok (.getfield 37, 3) := by decide +kernel
theorem dX12_conjugate_12 : decode cX12_conjugate 12 = .ok (.iload_n 3, 1) := by decide +kernel
theorem dX12_conjugate_13 : decode cX12_conjugate 13 = .ok (.iaload, 1) := by decide +kernel
theorem dX12_conjugate_14 : decode cX12_conjugate 14 = .ok (.istore 4, 2) := by decide +kernel
theorem dX12_conjugate_16 : decode cX12_conjugate 16 = .ok (.aload_n 0, 1) := by decide +kernel
theorem dX12_conjugate_17 : decode cX12_conjugate 17 = .ok (.getfield 24, 3) := by decide +kernel
theorem dX12_conjugate_20 : decode cX12_conjugate 20 = .ok (.iload_n 1, 1) := by decide +kernel
theorem dX12_conjugate_21 : decode cX12_conjugate 21 = .ok (.bipush 71, 2) := by decide +kernel
theorem dX12_conjugate_23 : decode cX12_conjugate 23 = .ok (.imul, 1) := by decide +kernel
theorem dX12_conjugate_24 : decode cX12_conjugate 24 = .ok (.iload 4, 2) := by decide +kernel
theorem dX12_conjugate_26 : decode cX12_conjugate 26 = .ok (.iadd, 1) := by decide +kernel
theorem dX12_conjugate_27 : decode cX12_conjugate 27 = .ok (.iaload, 1) := by decide +kernel
theorem dX12_conjugate_28 : decode cX12_conjugate 28 = .ok (.iconst 1, 1) := by decide +kernel
theorem dX12_conjugate_29 : decode cX12_conjugate 29 = .ok (.iadd, 1) := by decide +kernel
theorem dX12_conjugate_30 : decode cX12_conjugate 30 = .ok (.aload_n 0, 1) := by decide +kernel
theorem dX12_conjugate_31 : decode cX12_conjugate 31 = .ok (.getfield 40, 3) := by decide +kernel
theorem dX12_conjugate_34 : decode cX12_conjugate 34 = .ok (.iload_n 3, 1) := by decide +kernel
theorem dX12_conjugate_35 : decode cX12_conjugate 35 = .ok (.iaload, 1) := by decide +kernel
theorem dX12_conjugate_36 : decode cX12_conjugate 36 = .ok (.isub, 1) := by decide +kernel
theorem dX12_conjugate_37 : decode cX12_conjugate 37 = .ok (.istore 5, 2) := by decide +kernel
theorem dX12_conjugate_39 : decode cX12_conjugate 39 = .ok (.aload_n 0, 1) := by decide +kernel
theorem dX12_conjugate_40 : decode cX12_conjugate 40 = .ok (.iload_n 1, 1) := by decide +kernel
theorem dX12_conjugate_41 : decode cX12_conjugate 41 = .ok (.iload_n 2, 1) := by decide +kernel
theorem dX12_conjugate_42 : decode cX12_conjugate 42 = .ok (.invokevirtual 49, 3) := by decide +kernel
theorem dX12_conjugate_45 : decode cX12_conjugate 45 = .ok (.ifCond .eq 14, 3) := by decide +kernel
theorem dX12_conjugate_48 : decode cX12_conjugate 48 = .ok (.iload 5, 2) := by decide +kernel
theorem dX12_conjugate_50 : decode cX12_conjugate 50 = .ok (.aload_n 0, 1) := by decide +kernel
theorem dX12_conjugate_51 : decode cX12_conjugate 51 = .ok (.getfield 40, 3) := by decide +kernel
theorem dX12_conjugate_54 : decode cX12_conjugate 54 = .ok (.iload_n 3, 1) := by decide +kernel
theorem dX12_conjugate_55 : decode cX12_conjugate 55 = .ok (.iaload, 1) := by decide +kernel
theorem dX12_conjugate_56 : decode cX12_conjugate 56 = .ok (.if_icmp .ne 5, 3) := by decide +kernel
theorem dX12_conjugate_59 : decode cX12_conjugate 59 = .ok (.iconst (-1), 1) := by decide +kernel
theorem dX12_conjugate_60 : decode cX12_conjugate 60 = .ok (.ireturn, 1) := by decide +kernel
theorem dX12_conjugate_61 : decode cX12_conjugate 61 = .ok (.aload_n 0, 1) := by decide +kernel
theorem dX12_conjugate_62 : decode cX12_conjugate 62 = .ok (.iload_n 1, 1) := by decide +kernel
theorem dX12_conjugate_63 : decode cX12_conjugate 63 = .ok (.aload_n 0, 1) := by decide +kernel
theorem dX12_conjugate_64 : decode cX12_conjugate 64 = .ok (.getfield 21, 3) := by decide +kernel
theorem dX12_conjugate_67 : decode cX12_conjugate 67 = .ok (.iload_n 1, 1) := by decide +kernel
theorem dX12_conjugate_68 : decode cX12_conjugate 68 = .ok (.bipush 71, 2) := by decide +kernel
theorem dX12_conjugate_70 : decode cX12_conjugate 70 = .ok (.imul, 1) := by decide +kernel
theorem dX12_conjugate_71 : decode cX12_conjugate 71 = .ok (.iload 4, 2) := by decide +kernel
theorem dX12_conjugate_73 : decode cX12_conjugate 73 = .ok (.iadd, 1) := by decide +kernel
theorem dX12_conjugate_74 : decode cX12_conjugate 74 = .ok (.iaload, 1) := by decide +kernel
theorem dX12_conjugate_75 : decode cX12_conjugate 75 = .ok (.iload 5, 2) := by decide +kernel
theorem dX12_conjugate_77 : decode cX12_conjugate 77 = .ok (.iconst 0, 1) := by decide +kernel
theorem dX12_conjugate_78 : decode cX12_conjugate 78 = .ok (.invokevirtual 53, 3) := by decide +kernel
theorem dX12_conjugate_81 : decode cX12_conjugate 81 = .ok (.istore 6, 2) := by decide +kernel
theorem dX12_conjugate_83 : decode cX12_conjugate 83 = .ok (.iload 6, 2) := by decide +kernel
theorem dX12_conjugate_85 : decode cX12_conjugate 85 = .ok (.ifCond .lt 18, 3) := by decide +kernel
theorem dX12_conjugate_88 : decode cX12_conjugate 88 = .ok (.aload_n 0, 1) := by decide +kernel
theorem dX12_conjugate_89 : decode cX12_conjugate 89 = .ok (.iload_n 1, 1) := by decide +kernel
theorem dX12_conjugate_90 : decode cX12_conjugate 90 = .ok (.iload 6, 2) := by decide +kernel
theorem dX12_conjugate_92 : decode cX12_conjugate 92 = .ok (.invokevirtual 49, 3) := by decide +kernel
theorem dX12_conjugate_95 : decode cX12_conjugate 95 = .ok (.ifCond .eq 8, 3) := by decide +kernel
theorem dX12_conjugate_98 : decode cX12_conjugate 98 = .ok (.iload 6, 2) := by decide +kernel
theorem dX12_conjugate_100 : decode cX12_conjugate 100 = .ok (.goto 4, 3) := by decide +kernel
theorem dX12_conjugate_103 : decode cX12_conjugate 103 = .ok (.iconst (-1), 1) := by decide +kernel
theorem dX12_conjugate_104 : decode cX12_conjugate 104 = .ok (.ireturn, 1) := by decide +kernel
def X12_conjugate (this : Nat) (a1 : Int32) (a2 : Int32) : MM Int32 :=
  mb (gR 13 (some this) 12) fun v1 =>
  mb (aI v1 ((a1 * (400 : Int32)) + a2)) fun v2 =>
  mb (gR 13 (some this) 8) fun v3 =>
  mb (aI v3 ((a1 * (71 : Int32)) + v2)) fun v4 =>
  mb (gR 13 (some this) 13) fun v5 =>
  mb (aI v5 ((a1 * (400 : Int32)) + a2)) fun v6 =>
  mb (wc 13 (some this) fun t => X12_isPlain t a1 a2) fun v7 =>
  if v7 = 0 then (mr (-1 : Int32)) else (mb (gR 13 (some this) 13) fun v8 =>
  mb (aI v8 ((a1 * (400 : Int32)) + a2)) fun v9 =>
  if ((v4 + (1 : Int32)) - v6) = v9 then (mr (-1 : Int32)) else (mb (gR 13 (some this) 7) fun v10 =>
  mb (aI v10 ((a1 * (71 : Int32)) + v2)) fun v11 =>
  mb (wc 13 (some this) fun t => X12_placeOf t a1 v11 ((v4 + (1 : Int32)) - v6) (0 : Int32)) fun v12 =>
  if v12 < 0 then (mr (-1 : Int32)) else (mb (wc 13 (some this) fun t => X12_isPlain t a1 v12) fun v13 =>
  if v13 = 0 then (mr (-1 : Int32)) else (mr v12))))
set_option maxRecDepth 100000 in
set_option maxHeartbeats 4000000 in
theorem s_X12_conjugate (G : GG) (this : Nat) (a1 : Int32) (a2 : Int32) : Sn G yX12_conjugate cX12_conjugate 7 (some FieldType.int) 2 45 (fun v : Int32 => some (.int v)) (X12_conjugate this a1 a2) 0 [some (va_rf (some this)), some (.int a1), some (.int a2), none, none, none, none] [] := by
  unfold X12_conjugate
  refine sn_iload_n (v := a1) (pc' := 1) dX12_conjugate_0 rfl rfl rfl ?_
  refine sn_sipush (v := (400 : Int32)) (pc' := 4) dX12_conjugate_1 rfl (by decide) ?_
  refine sn_imul (pc' := 5) dX12_conjugate_4 rfl ?_
  refine sn_iload_n (v := a2) (pc' := 6) dX12_conjugate_5 rfl rfl rfl ?_
  refine sn_iadd (pc' := 7) dX12_conjugate_6 rfl ?_
  refine sn_istore_n (v := ((a1 * (400 : Int32)) + a2)) (L' := [some (va_rf (some this)), some (.int a1), some (.int a2), some (.int ((a1 * (400 : Int32)) + a2)), none, none, none]) (pc' := 8) dX12_conjugate_7 rfl rfl rfl rfl ?_
  refine sn_aload_n (v := (some this)) (pc' := 9) dX12_conjugate_8 rfl rfl rfl ?_
  refine sn_gR (k := 12) (pc' := 12) ci_13 rfl (Or.inl tw1290) dX12_conjugate_9 rfl (fun v1 => ?_)
  refine sn_iload_n (v := ((a1 * (400 : Int32)) + a2)) (pc' := 13) dX12_conjugate_12 rfl rfl rfl ?_
  refine sn_aI (pc' := 14) dX12_conjugate_13 rfl (fun v2 => ?_)
  refine sn_istore (v := v2) (L' := [some (va_rf (some this)), some (.int a1), some (.int a2), some (.int ((a1 * (400 : Int32)) + a2)), some (.int v2), none, none]) (pc' := 16) dX12_conjugate_14 rfl rfl rfl ?_
  refine sn_aload_n (v := (some this)) (pc' := 17) dX12_conjugate_16 rfl rfl rfl ?_
  refine sn_gR (k := 8) (pc' := 20) ci_13 rfl (Or.inl tw1286) dX12_conjugate_17 rfl (fun v3 => ?_)
  refine sn_iload_n (v := a1) (pc' := 21) dX12_conjugate_20 rfl rfl rfl ?_
  refine sn_bipush (v := (71 : Int32)) (pc' := 23) dX12_conjugate_21 rfl (by decide) ?_
  refine sn_imul (pc' := 24) dX12_conjugate_23 rfl ?_
  refine sn_iload (v := v2) (pc' := 26) dX12_conjugate_24 rfl rfl ?_
  refine sn_iadd (pc' := 27) dX12_conjugate_26 rfl ?_
  refine sn_aI (pc' := 28) dX12_conjugate_27 rfl (fun v4 => ?_)
  refine sn_iconst (v := (1 : Int32)) (pc' := 29) dX12_conjugate_28 rfl (by decide) ?_
  refine sn_iadd (pc' := 30) dX12_conjugate_29 rfl ?_
  refine sn_aload_n (v := (some this)) (pc' := 31) dX12_conjugate_30 rfl rfl rfl ?_
  refine sn_gR (k := 13) (pc' := 34) ci_13 rfl (Or.inl tw1291) dX12_conjugate_31 rfl (fun v5 => ?_)
  refine sn_iload_n (v := ((a1 * (400 : Int32)) + a2)) (pc' := 35) dX12_conjugate_34 rfl rfl rfl ?_
  refine sn_aI (pc' := 36) dX12_conjugate_35 rfl (fun v6 => ?_)
  refine sn_isub (pc' := 37) dX12_conjugate_36 rfl ?_
  refine sn_istore (v := ((v4 + (1 : Int32)) - v6)) (L' := [some (va_rf (some this)), some (.int a1), some (.int a2), some (.int ((a1 * (400 : Int32)) + a2)), some (.int v2), some (.int ((v4 + (1 : Int32)) - v6)), none]) (pc' := 39) dX12_conjugate_37 rfl rfl rfl ?_
  refine sn_aload_n (v := (some this)) (pc' := 40) dX12_conjugate_39 rfl rfl rfl ?_
  refine sn_iload_n (v := a1) (pc' := 41) dX12_conjugate_40 rfl rfl rfl ?_
  refine sn_iload_n (v := a2) (pc' := 42) dX12_conjugate_41 rfl rfl rfl ?_
  refine sn_cV (r := (some this)) (st := []) (As := [.int a1, .int a2]) (st2 := (fun v => .int v :: [])) (pc' := 45) ci_13 (fun t => c_X12_isPlain G t a1 a2) cw_X12_isPlain rfl rfl tw1614 pw74 tw1616 rfl rfl cat_nil rfl (fun _ => rfl) dX12_conjugate_42 rfl (fun v7 => ?_)
  refine sn_if_eq (pt := 59) (pf := 48) dX12_conjugate_45 rfl rfl ?_ ?_
  · refine sn_iconst (v := (-1 : Int32)) (pc' := 60) dX12_conjugate_59 rfl (by decide) ?_
    exact sn_iret dX12_conjugate_60 rfl rfl
  · refine sn_iload (v := ((v4 + (1 : Int32)) - v6)) (pc' := 50) dX12_conjugate_48 rfl rfl ?_
    refine sn_aload_n (v := (some this)) (pc' := 51) dX12_conjugate_50 rfl rfl rfl ?_
    refine sn_gR (k := 13) (pc' := 54) ci_13 rfl (Or.inl tw1291) dX12_conjugate_51 rfl (fun v8 => ?_)
    refine sn_iload_n (v := ((a1 * (400 : Int32)) + a2)) (pc' := 55) dX12_conjugate_54 rfl rfl rfl ?_
    refine sn_aI (pc' := 56) dX12_conjugate_55 rfl (fun v9 => ?_)
    refine sn_ic_ne (pt := 61) (pf := 59) dX12_conjugate_56 rfl rfl ?_ ?_
    · refine sn_iconst (v := (-1 : Int32)) (pc' := 60) dX12_conjugate_59 rfl (by decide) ?_
      exact sn_iret dX12_conjugate_60 rfl rfl
    · refine sn_aload_n (v := (some this)) (pc' := 62) dX12_conjugate_61 rfl rfl rfl ?_
      refine sn_iload_n (v := a1) (pc' := 63) dX12_conjugate_62 rfl rfl rfl ?_
      refine sn_aload_n (v := (some this)) (pc' := 64) dX12_conjugate_63 rfl rfl rfl ?_
      refine sn_gR (k := 7) (pc' := 67) ci_13 rfl (Or.inl tw1285) dX12_conjugate_64 rfl (fun v10 => ?_)
      refine sn_iload_n (v := a1) (pc' := 68) dX12_conjugate_67 rfl rfl rfl ?_
      refine sn_bipush (v := (71 : Int32)) (pc' := 70) dX12_conjugate_68 rfl (by decide) ?_
      refine sn_imul (pc' := 71) dX12_conjugate_70 rfl ?_
      refine sn_iload (v := v2) (pc' := 73) dX12_conjugate_71 rfl rfl ?_
      refine sn_iadd (pc' := 74) dX12_conjugate_73 rfl ?_
      refine sn_aI (pc' := 75) dX12_conjugate_74 rfl (fun v11 => ?_)
      refine sn_iload (v := ((v4 + (1 : Int32)) - v6)) (pc' := 77) dX12_conjugate_75 rfl rfl ?_
      refine sn_iconst (v := (0 : Int32)) (pc' := 78) dX12_conjugate_77 rfl (by decide) ?_
      refine sn_cV (r := (some this)) (st := []) (As := [.int a1, .int v11, .int ((v4 + (1 : Int32)) - v6), .int (0 : Int32)]) (st2 := (fun v => .int v :: [])) (pc' := 81) ci_13 (fun t => c_X12_placeOf G t a1 v11 ((v4 + (1 : Int32)) - v6) (0 : Int32)) cw_X12_placeOf rfl rfl tw1574 pw72 tw1576 rfl rfl cat_nil rfl (fun _ => rfl) dX12_conjugate_78 rfl (fun v12 => ?_)
      refine sn_istore (v := v12) (L' := [some (va_rf (some this)), some (.int a1), some (.int a2), some (.int ((a1 * (400 : Int32)) + a2)), some (.int v2), some (.int ((v4 + (1 : Int32)) - v6)), some (.int v12)]) (pc' := 83) dX12_conjugate_81 rfl rfl rfl ?_
      refine sn_iload (v := v12) (pc' := 85) dX12_conjugate_83 rfl rfl ?_
      refine sn_if_lt (pt := 103) (pf := 88) dX12_conjugate_85 rfl rfl ?_ ?_
      · refine sn_iconst (v := (-1 : Int32)) (pc' := 104) dX12_conjugate_103 rfl (by decide) ?_
        exact sn_iret dX12_conjugate_104 rfl rfl
      · refine sn_aload_n (v := (some this)) (pc' := 89) dX12_conjugate_88 rfl rfl rfl ?_
        refine sn_iload_n (v := a1) (pc' := 90) dX12_conjugate_89 rfl rfl rfl ?_
        refine sn_iload (v := v12) (pc' := 92) dX12_conjugate_90 rfl rfl ?_
        refine sn_cV (r := (some this)) (st := []) (As := [.int a1, .int v12]) (st2 := (fun v => .int v :: [])) (pc' := 95) ci_13 (fun t => c_X12_isPlain G t a1 v12) cw_X12_isPlain rfl rfl tw1614 pw74 tw1616 rfl rfl cat_nil rfl (fun _ => rfl) dX12_conjugate_92 rfl (fun v13 => ?_)
        refine sn_if_eq (pt := 103) (pf := 98) dX12_conjugate_95 rfl rfl ?_ ?_
        · refine sn_iconst (v := (-1 : Int32)) (pc' := 104) dX12_conjugate_103 rfl (by decide) ?_
          exact sn_iret dX12_conjugate_104 rfl rfl
        · refine sn_iload (v := v12) (pc' := 100) dX12_conjugate_98 rfl rfl ?_
          refine sn_goto (pc' := 104) dX12_conjugate_100 rfl ?_
          exact sn_iret dX12_conjugate_104 rfl rfl
theorem c_X12_conjugate (G : GG) (this : Nat) (a1 : Int32) (a2 : Int32) : Cal G yX12_conjugate cX12_conjugate 7 (some FieldType.int) 2 45 (fun v : Int32 => some (.int v)) (X12_conjugate this a1 a2) [.ref this, .int a1, .int a2] :=
  Cal.of (by decide) (cat_t (cat_i (cat_i cat_nil))) rfl (sn_weak (le_s (le_s (le_s (le_z (le_z (le_z (le_z le_e))))))) (s_X12_conjugate G this a1 a2))
theorem cw_X12_conjugate : CW yX12_conjugate cX12_conjugate 7 (some FieldType.int) 2 := ⟨tw1621, tw15, by decide, by decide +kernel⟩
/-! X12_isSpelled -/
theorem dX12_isSpelled_0 : decode cX12_isSpelled 0 = .ok (.aload_n 0, 1) := by decide +kernel
theorem dX12_isSpelled_1 : decode cX12_isSpelled 1 = .ok (.getfield 57, 3) := by decide +kernel
theorem dX12_isSpelled_4 : decode cX12_isSpelled 4 = .ok (.aload_n 0, 1) := by decide +kernel
theorem dX12_isSpelled_5 : decode cX12_isSpelled 5 = .ok (.getfield 60, 3) := by decide +kernel
theorem dX12_isSpelled_8 : decode cX12_isSpelled 8 = .ok (.isub, 1) := by decide +kernel
theorem dX12_isSpelled_9 : decode cX12_isSpelled 9 = .ok (.aload_n 1, 1) := by decide +kernel
theorem dX12_isSpelled_10 : decode cX12_isSpelled 10 = .ok (.invokevirtual 63, 3) := by decide +kernel
theorem dX12_isSpelled_13 : decode cX12_isSpelled 13 = .ok (.if_icmp .ne 7, 3) := by decide +kernel
theorem dX12_isSpelled_16 : decode cX12_isSpelled 16 = .ok (.iconst 1, 1) := by decide +kernel
theorem dX12_isSpelled_17 : decode cX12_isSpelled 17 = .ok (.goto 4, 3) := by decide +kernel
theorem dX12_isSpelled_20 : decode cX12_isSpelled 20 = .ok (.iconst 0, 1) := by decide +kernel
theorem dX12_isSpelled_21 : decode cX12_isSpelled 21 = .ok (.istore_n 2, 1) := by decide +kernel
theorem dX12_isSpelled_22 : decode cX12_isSpelled 22 = .ok (.iconst 0, 1) := by decide +kernel
theorem dX12_isSpelled_23 : decode cX12_isSpelled 23 = .ok (.istore_n 3, 1) := by decide +kernel
theorem dX12_isSpelled_24 : decode cX12_isSpelled 24 = .ok (.iload_n 3, 1) := by decide +kernel
theorem dX12_isSpelled_25 : decode cX12_isSpelled 25 = .ok (.aload_n 1, 1) := by decide +kernel
theorem dX12_isSpelled_26 : decode cX12_isSpelled 26 = .ok (.invokevirtual 63, 3) := by decide +kernel
theorem dX12_isSpelled_29 : decode cX12_isSpelled 29 = .ok (.if_icmp .ge 38, 3) := by decide +kernel
theorem dX12_isSpelled_32 : decode cX12_isSpelled 32 = .ok (.iload_n 2, 1) := by decide +kernel
theorem dX12_isSpelled_33 : decode cX12_isSpelled 33 = .ok (.ifCond .eq 34, 3) := by decide +kernel
theorem dX12_isSpelled_36 : decode cX12_isSpelled 36 = .ok (.aload_n 0, 1) := by decide +kernel
theorem dX12_isSpelled_37 : decode cX12_isSpelled 37 = .ok (.getfield 69, 3) := by decide +kernel
theorem dX12_isSpelled_40 : decode cX12_isSpelled 40 = .ok (.aload_n 0, 1) := by decide +kernel
theorem dX12_isSpelled_41 : decode cX12_isSpelled 41 = .ok (.getfield 60, 3) := by decide +kernel
theorem dX12_isSpelled_44 : decode cX12_isSpelled 44 = .ok (.iload_n 3, 1) := by decide +kernel
theorem dX12_isSpelled_45 : decode cX12_isSpelled 45 = .ok (.iadd, 1) := by decide +kernel
theorem dX12_isSpelled_46 : decode cX12_isSpelled 46 = .ok (.iaload, 1) := by decide +kernel
theorem dX12_isSpelled_47 : decode cX12_isSpelled 47 = .ok (.aload_n 1, 1) := by decide +kernel
theorem dX12_isSpelled_48 : decode cX12_isSpelled 48 = .ok (.iload_n 3, 1) := by decide +kernel
theorem dX12_isSpelled_49 : decode cX12_isSpelled 49 = .ok (.invokevirtual 72, 3) := by decide +kernel
theorem dX12_isSpelled_52 : decode cX12_isSpelled 52 = .ok (.if_icmp .ne 7, 3) := by decide +kernel
theorem dX12_isSpelled_55 : decode cX12_isSpelled 55 = .ok (.iconst 1, 1) := by decide +kernel
theorem dX12_isSpelled_56 : decode cX12_isSpelled 56 = .ok (.goto 4, 3) := by decide +kernel
theorem dX12_isSpelled_59 : decode cX12_isSpelled 59 = .ok (.iconst 0, 1) := by decide +kernel
theorem dX12_isSpelled_60 : decode cX12_isSpelled 60 = .ok (.istore_n 2, 1) := by decide +kernel
theorem dX12_isSpelled_61 : decode cX12_isSpelled 61 = .ok (.iinc 3 1, 3) := by decide +kernel
theorem dX12_isSpelled_64 : decode cX12_isSpelled 64 = .ok (.goto (-40), 3) := by decide +kernel
theorem dX12_isSpelled_67 : decode cX12_isSpelled 67 = .ok (.iload_n 2, 1) := by decide +kernel
theorem dX12_isSpelled_68 : decode cX12_isSpelled 68 = .ok (.ireturn, 1) := by decide +kernel
def X12_isSpelled_60 (k24 : Nat → Option Nat → Int32 → Int32 → MM Int32) (this : Nat) (x1 : Option Nat) (x3 : Int32) (y0 : Int32) : MM Int32 :=
  (k24 this x1 y0 (x3 + (1 : Int32)))
def X12_isSpelled_24_st  (k24 : Nat → Option Nat → Int32 → Int32 → MM Int32) (this : Nat) (x1 : Option Nat) (x2 : Int32) (x3 : Int32) : MM Int32 :=
  mb (wc 0 x1 fun t => J0_length_8abf5 t ) fun v1 =>
  if v1 ≤ x3 then (mb (nzI x2) fun v2 =>
  mr v2) else (if x2 = 0 then (mb (nzI x2) fun v3 =>
  mr v3) else (mb (gR 13 (some this) 0) fun v4 =>
  mb (gI 13 (some this) 20) fun v5 =>
  mb (aI v4 (v5 + x3)) fun v6 =>
  mb (wc 0 x1 fun t => J0_charAt_5068e t x3) fun v7 =>
  if v6 = v7 then ((X12_isSpelled_60 k24 this x1 x3 (1 : Int32))) else ((X12_isSpelled_60 k24 this x1 x3 (0 : Int32)))))
def X12_isSpelled_24  : Nat → Nat → Option Nat → Int32 → Int32 → MM Int32
  | 0 => fun _ _ _ _ => mf
  | n + 1 => fun this x1 x2 x3 => X12_isSpelled_24_st  (X12_isSpelled_24  n) this x1 x2 x3
def X12_isSpelled_21  (this : Nat) (x1 : Option Nat) (y0 : Int32) : MM Int32 :=
  (X12_isSpelled_24 LFU this x1 y0 (0 : Int32))
def X12_isSpelled (this : Nat) (a1 : Option Nat) : MM Int32 :=
  mb (gI 13 (some this) 19) fun v1 =>
  mb (gI 13 (some this) 20) fun v2 =>
  mb (wc 0 a1 fun t => J0_length_8abf5 t ) fun v3 =>
  if (v1 - v2) = v3 then ((X12_isSpelled_21 this a1 (1 : Int32))) else ((X12_isSpelled_21 this a1 (0 : Int32)))
set_option maxRecDepth 100000 in
set_option maxHeartbeats 4000000 in
theorem s_X12_isSpelled_60 (G : GG) (k24 : Nat → Option Nat → Int32 → Int32 → MM Int32) (hk24 : ∀ (this : Nat) (x1 : Option Nat) (x2 : Int32) (x3 : Int32), Sn G yX12_isSpelled cX12_isSpelled 4 (some FieldType.boolean) 4 85 (fun v : Int32 => some (.int v)) (k24 this x1 x2 x3) 24 [some (va_rf (some this)), some (va_rf x1), some (.int x2), some (.int x3)] []) (this : Nat) (x1 : Option Nat) (x3 : Int32) (y0 : Int32) : Sn G yX12_isSpelled cX12_isSpelled 4 (some FieldType.boolean) 4 85 (fun v : Int32 => some (.int v)) (X12_isSpelled_60 k24 this x1 x3 y0) 60 [some (va_rf (some this)), some (va_rf x1), none, some (.int x3)] [.int y0] := by
  unfold X12_isSpelled_60
  refine sn_istore_n (v := y0) (L' := [some (va_rf (some this)), some (va_rf x1), some (.int y0), some (.int x3)]) (pc' := 61) dX12_isSpelled_60 rfl rfl rfl rfl ?_
  refine sn_iinc (v := x3) (w := 1) (L' := [some (va_rf (some this)), some (va_rf x1), some (.int y0), some (.int (x3 + (1 : Int32)))]) (pc' := 64) dX12_isSpelled_61 rfl rfl rfl (by decide) rfl ?_
  refine sn_goto (pc' := 24) dX12_isSpelled_64 rfl ?_
  exact sn_weak (le_s (le_s (le_s (le_s le_e)))) (hk24 this x1 y0 (x3 + (1 : Int32)))
set_option maxRecDepth 100000 in
set_option maxHeartbeats 4000000 in
theorem s_X12_isSpelled_24_st (G : GG)   (k24 : Nat → Option Nat → Int32 → Int32 → MM Int32) (hk24 : ∀ (this : Nat) (x1 : Option Nat) (x2 : Int32) (x3 : Int32), Sn G yX12_isSpelled cX12_isSpelled 4 (some FieldType.boolean) 4 85 (fun v : Int32 => some (.int v)) (k24 this x1 x2 x3) 24 [some (va_rf (some this)), some (va_rf x1), some (.int x2), some (.int x3)] []) (this : Nat) (x1 : Option Nat) (x2 : Int32) (x3 : Int32) : Sn G yX12_isSpelled cX12_isSpelled 4 (some FieldType.boolean) 4 85 (fun v : Int32 => some (.int v)) (X12_isSpelled_24_st  k24 this x1 x2 x3) 24 [some (va_rf (some this)), some (va_rf x1), some (.int x2), some (.int x3)] [] := by
  unfold X12_isSpelled_24_st
  refine sn_iload_n (v := x3) (pc' := 25) dX12_isSpelled_24 rfl rfl rfl ?_
  refine sn_aload_n (v := x1) (pc' := 26) dX12_isSpelled_25 rfl rfl rfl ?_
  refine sn_cV (r := x1) (st := [.int x3]) (As := []) (st2 := (fun v => .int v :: [.int x3])) (pc' := 29) ci_0 (fun t => c_J0_length_8abf5 G t ) cw_J0_length_8abf5 rfl rfl tw1467 tw409 tw408 rfl rfl (cat_i cat_nil) rfl (fun _ => rfl) dX12_isSpelled_26 rfl (fun v1 => ?_)
  refine sn_ic_ge (pt := 67) (pf := 32) dX12_isSpelled_29 rfl rfl ?_ ?_
  · refine sn_iload_n (v := x2) (pc' := 68) dX12_isSpelled_67 rfl rfl rfl ?_
    refine sn_nz01 (fun v2 hz => ?_)
    exact sn_iret dX12_isSpelled_68 rfl (nar_b hz)
  · refine sn_iload_n (v := x2) (pc' := 33) dX12_isSpelled_32 rfl rfl rfl ?_
    refine sn_if_eq (pt := 67) (pf := 36) dX12_isSpelled_33 rfl rfl ?_ ?_
    · refine sn_iload_n (v := x2) (pc' := 68) dX12_isSpelled_67 rfl rfl rfl ?_
      refine sn_nz01 (fun v3 hz => ?_)
      exact sn_iret dX12_isSpelled_68 rfl (nar_b hz)
    · refine sn_aload_n (v := (some this)) (pc' := 37) dX12_isSpelled_36 rfl rfl rfl ?_
      refine sn_gR (k := 0) (pc' := 40) ci_13 rfl (Or.inl tw1278) dX12_isSpelled_37 rfl (fun v4 => ?_)
      refine sn_aload_n (v := (some this)) (pc' := 41) dX12_isSpelled_40 rfl rfl rfl ?_
      refine sn_gI (k := 20) (pc' := 44) ci_13 rfl (Or.inl tw1298) dX12_isSpelled_41 rfl (fun v5 => ?_)
      refine sn_iload_n (v := x3) (pc' := 45) dX12_isSpelled_44 rfl rfl rfl ?_
      refine sn_iadd (pc' := 46) dX12_isSpelled_45 rfl ?_
      refine sn_aI (pc' := 47) dX12_isSpelled_46 rfl (fun v6 => ?_)
      refine sn_aload_n (v := x1) (pc' := 48) dX12_isSpelled_47 rfl rfl rfl ?_
      refine sn_iload_n (v := x3) (pc' := 49) dX12_isSpelled_48 rfl rfl rfl ?_
      refine sn_cV (r := x1) (st := [.int v6]) (As := [.int x3]) (st2 := (fun v => .int v :: [.int v6])) (pc' := 52) ci_0 (fun t => c_J0_charAt_5068e G t x3) cw_J0_charAt_5068e rfl rfl tw1468 tw740 tw739 rfl rfl (cat_i cat_nil) rfl (fun _ => rfl) dX12_isSpelled_49 rfl (fun v7 => ?_)
      refine sn_ic_ne (pt := 59) (pf := 55) dX12_isSpelled_52 rfl rfl ?_ ?_
      · refine sn_iconst (v := (1 : Int32)) (pc' := 56) dX12_isSpelled_55 rfl (by decide) ?_
        refine sn_goto (pc' := 60) dX12_isSpelled_56 rfl ?_
        exact sn_weak (le_s (le_s (le_n (le_s le_e)))) (s_X12_isSpelled_60 G k24 hk24 this x1 x3 (1 : Int32))
      · refine sn_iconst (v := (0 : Int32)) (pc' := 60) dX12_isSpelled_59 rfl (by decide) ?_
        exact sn_weak (le_s (le_s (le_n (le_s le_e)))) (s_X12_isSpelled_60 G k24 hk24 this x1 x3 (0 : Int32))
set_option maxRecDepth 100000 in
set_option maxHeartbeats 4000000 in
theorem s_X12_isSpelled_24 (G : GG)   : ∀ (n : Nat) (this : Nat) (x1 : Option Nat) (x2 : Int32) (x3 : Int32), Sn G yX12_isSpelled cX12_isSpelled 4 (some FieldType.boolean) 4 85 (fun v : Int32 => some (.int v)) (X12_isSpelled_24  n this x1 x2 x3) 24 [some (va_rf (some this)), some (va_rf x1), some (.int x2), some (.int x3)] [] := by
  intro n
  induction n with
  | zero => intro this x1 x2 x3; exact sn_mf
  | succ n ih => intro this x1 x2 x3; exact s_X12_isSpelled_24_st G   (X12_isSpelled_24  n) ih this x1 x2 x3
set_option maxRecDepth 100000 in
set_option maxHeartbeats 4000000 in
theorem s_X12_isSpelled_21 (G : GG)   (this : Nat) (x1 : Option Nat) (y0 : Int32) : Sn G yX12_isSpelled cX12_isSpelled 4 (some FieldType.boolean) 4 85 (fun v : Int32 => some (.int v)) (X12_isSpelled_21  this x1 y0) 21 [some (va_rf (some this)), some (va_rf x1), none, none] [.int y0] := by
  unfold X12_isSpelled_21
  refine sn_istore_n (v := y0) (L' := [some (va_rf (some this)), some (va_rf x1), some (.int y0), none]) (pc' := 22) dX12_isSpelled_21 rfl rfl rfl rfl ?_
  refine sn_iconst (v := (0 : Int32)) (pc' := 23) dX12_isSpelled_22 rfl (by decide) ?_
  refine sn_istore_n (v := (0 : Int32)) (L' := [some (va_rf (some this)), some (va_rf x1), some (.int y0), some (.int (0 : Int32))]) (pc' := 24) dX12_isSpelled_23 rfl rfl rfl rfl ?_
  exact sn_weak (le_s (le_s (le_s (le_s le_e)))) (s_X12_isSpelled_24 G LFU this x1 y0 (0 : Int32))
set_option maxRecDepth 100000 in
set_option maxHeartbeats 4000000 in
theorem s_X12_isSpelled (G : GG) (this : Nat) (a1 : Option Nat) : Sn G yX12_isSpelled cX12_isSpelled 4 (some FieldType.boolean) 4 85 (fun v : Int32 => some (.int v)) (X12_isSpelled this a1) 0 [some (va_rf (some this)), some (va_rf a1), none, none] [] := by
  unfold X12_isSpelled
  refine sn_aload_n (v := (some this)) (pc' := 1) dX12_isSpelled_0 rfl rfl rfl ?_
  refine sn_gI (k := 19) (pc' := 4) ci_13 rfl (Or.inl tw1297) dX12_isSpelled_1 rfl (fun v1 => ?_)
  refine sn_aload_n (v := (some this)) (pc' := 5) dX12_isSpelled_4 rfl rfl rfl ?_
  refine sn_gI (k := 20) (pc' := 8) ci_13 rfl (Or.inl tw1298) dX12_isSpelled_5 rfl (fun v2 => ?_)
  refine sn_isub (pc' := 9) dX12_isSpelled_8 rfl ?_
  refine sn_aload_n (v := a1) (pc' := 10) dX12_isSpelled_9 rfl rfl rfl ?_
  refine sn_cV (r := a1) (st := [.int (v1 - v2)]) (As := []) (st2 := (fun v => .int v :: [.int (v1 - v2)])) (pc' := 13) ci_0 (fun t => c_J0_length_8abf5 G t ) cw_J0_length_8abf5 rfl rfl tw1467 tw409 tw408 rfl rfl (cat_i cat_nil) rfl (fun _ => rfl) dX12_isSpelled_10 rfl (fun v3 => ?_)
  refine sn_ic_ne (pt := 20) (pf := 16) dX12_isSpelled_13 rfl rfl ?_ ?_
  · refine sn_iconst (v := (1 : Int32)) (pc' := 17) dX12_isSpelled_16 rfl (by decide) ?_
    refine sn_goto (pc' := 21) dX12_isSpelled_17 rfl ?_
    exact sn_weak (le_s (le_s (le_n (le_n le_e)))) (s_X12_isSpelled_21 G this a1 (1 : Int32))
  · refine sn_iconst (v := (0 : Int32)) (pc' := 21) dX12_isSpelled_20 rfl (by decide) ?_
    exact sn_weak (le_s (le_s (le_n (le_n le_e)))) (s_X12_isSpelled_21 G this a1 (0 : Int32))
theorem c_X12_isSpelled (G : GG) (this : Nat) (a1 : Option Nat) : Cal G yX12_isSpelled cX12_isSpelled 4 (some FieldType.boolean) 4 85 (fun v : Int32 => some (.int v)) (X12_isSpelled this a1) [.ref this, va_rf a1] :=
  Cal.of (by decide) (cat_t (cat_q cat_nil)) rfl (sn_weak (le_s (le_s (le_z (le_z le_e)))) (s_X12_isSpelled G this a1))
theorem cw_X12_isSpelled : CW yX12_isSpelled cX12_isSpelled 4 (some FieldType.boolean) 1 := ⟨tw1466, tw15, by decide, by decide +kernel⟩
/-! X12_signHere -/
theorem dX12_signHere_0 : decode cX12_signHere 0 = .ok (.aload_n 0, 1) := by decide +kernel
theorem dX12_signHere_1 : decode cX12_signHere 1 = .ok (.ldc 76, 2) := by decide +kernel
theorem dX12_signHere_3 : decode cX12_signHere 3 = .ok (.invokevirtual 78, 3) := by decide +kernel
theorem dX12_signHere_6 : decode cX12_signHere 6 = .ok (.ifCond .eq 5, 3) := by decide +kernel
theorem dX12_signHere_9 : decode cX12_signHere 9 = .ok (.iconst 0, 1) := by decide +kernel
theorem dX12_signHere_10 : decode cX12_signHere 10 = .ok (.ireturn, 1) := by decide +kernel
theorem dX12_signHere_11 : decode cX12_signHere 11 = .ok (.aload_n 0, 1) := by decide +kernel
theorem dX12_signHere_12 : decode cX12_signHere 12 = .ok (.ldc 82, 2) := by decide +kernel
theorem dX12_signHere_14 : decode cX12_signHere 14 = .ok (.invokevirtual 78, 3) := by decide +kernel
theorem dX12_signHere_17 : decode cX12_signHere 17 = .ok (.ifCond .eq 6, 3) := by decide +kernel
theorem dX12_signHere_20 : decode cX12_signHere 20 = .ok (.bipush 70, 2) := by decide +kernel
theorem dX12_signHere_22 : decode cX12_signHere 22 = .ok (.ireturn, 1) := by decide +kernel
theorem dX12_signHere_23 : decode cX12_signHere 23 = .ok (.ldc 84, 2) := by decide +kernel
theorem dX12_signHere_25 : decode cX12_signHere 25 = .ok (.aload_n 0, 1) := by decide +kernel
theorem dX12_signHere_26 : decode cX12_signHere 26 = .ok (.getfield 69, 3) := by decide +kernel
theorem dX12_signHere_29 : decode cX12_signHere 29 = .ok (.aload_n 0, 1) := by decide +kernel
theorem dX12_signHere_30 : decode cX12_signHere 30 = .ok (.getfield 60, 3) := by decide +kernel
theorem dX12_signHere_33 : decode cX12_signHere 33 = .ok (.iaload, 1) := by decide +kernel
theorem dX12_signHere_34 : decode cX12_signHere 34 = .ok (.invokevirtual 86, 3) := by decide +kernel
theorem dX12_signHere_37 : decode cX12_signHere 37 = .ok (.istore_n 1, 1) := by decide +kernel
theorem dX12_signHere_38 : decode cX12_signHere 38 = .ok (.aload_n 0, 1) := by decide +kernel
theorem dX12_signHere_39 : decode cX12_signHere 39 = .ok (.getfield 57, 3) := by decide +kernel
theorem dX12_signHere_42 : decode cX12_signHere 42 = .ok (.aload_n 0, 1) := by decide +kernel
theorem dX12_signHere_43 : decode cX12_signHere 43 = .ok (.getfield 60, 3) := by decide +kernel
theorem dX12_signHere_46 : decode cX12_signHere 46 = .ok (.isub, 1) := by decide +kernel
theorem dX12_signHere_47 : decode cX12_signHere 47 = .ok (.istore_n 2, 1) := by decide +kernel
theorem dX12_signHere_48 : decode cX12_signHere 48 = .ok (.aload_n 0, 1) := by decide +kernel
theorem dX12_signHere_49 : decode cX12_signHere 49 = .ok (.getfield 60, 3) := by decide +kernel
theorem dX12_signHere_52 : decode cX12_signHere 52 = .ok (.istore_n 3, 1) := by decide +kernel
theorem dX12_signHere_53 : decode cX12_signHere 53 = .ok (.iload_n 3, 1) := by decide +kernel
theorem dX12_signHere_54 : decode cX12_signHere 54 = .ok (.aload_n 0, 1) := by decide +kernel
theorem dX12_signHere_55 : decode cX12_signHere 55 = .ok (.getfield 57, 3) := by decide +kernel
theorem dX12_signHere_58 : decode cX12_signHere 58 = .ok (.if_icmp .ge 29, 3) := by decide +kernel
theorem dX12_signHere_61 : decode cX12_signHere 61 = .ok (.aload_n 0, 1) := by decide +kernel
theorem dX12_signHere_62 : decode cX12_signHere 62 = .ok (.getfield 69, 3) := by decide +kernel
theorem dX12_signHere_65 : decode cX12_signHere 65 = .ok (.iload_n 3, 1) := by decide +kernel
theorem dX12_signHere_66 : decode cX12_signHere 66 = .ok (.iaload, 1) := by decide +kernel
theorem dX12_signHere_67 : decode cX12_signHere 67 = .ok (.aload_n 0, 1) := by decide +kernel
theorem dX12_signHere_68 : decode cX12_signHere 68 = .ok (.getfield 69, 3) := by decide +kernel
theorem dX12_signHere_71 : decode cX12_signHere 71 = .ok (.aload_n 0, 1) := by decide +kernel
theorem dX12_signHere_72 : decode cX12_signHere 72 = .ok (.getfield 60, 3) := by decide +kernel
theorem dX12_signHere_75 : decode cX12_signHere 75 = .ok (.iaload, 1) := by decide +kernel
theorem dX12_signHere_76 : decode cX12_signHere 76 = .ok (.if_icmp .eq 5, 3) := by decide +kernel
theorem dX12_signHere_79 : decode cX12_signHere 79 = .ok (.iconst (-1), 1) := by decide +kernel
theorem dX12_signHere_80 : decode cX12_signHere 80 = .ok (.ireturn, 1) := by decide +kernel
theorem dX12_signHere_81 : decode cX12_signHere 81 = .ok (.iinc 3 1, 3) := by decide +kernel
theorem dX12_signHere_84 : decode cX12_signHere 84 = .ok (.goto (-31), 3) := by decide +kernel
theorem dX12_signHere_87 : decode cX12_signHere 87 = .ok (.iload_n 1, 1) := by decide +kernel
theorem dX12_signHere_88 : decode cX12_signHere 88 = .ok (.ifCond .lt 8, 3) := by decide +kernel
theorem dX12_signHere_91 : decode cX12_signHere 91 = .ok (.iload_n 2, 1) := by decide +kernel
theorem dX12_signHere_92 : decode cX12_signHere 92 = .ok (.iconst 3, 1) := by decide +kernel
theorem dX12_signHere_93 : decode cX12_signHere 93 = .ok (.if_icmp .le 7, 3) := by decide +kernel
theorem dX12_signHere_96 : decode cX12_signHere 96 = .ok (.iconst (-1), 1) := by decide +kernel
theorem dX12_signHere_97 : decode cX12_signHere 97 = .ok (.goto 13, 3) := by decide +kernel
theorem dX12_signHere_100 : decode cX12_signHere 100 = .ok (.iconst 1, 1) := by decide +kernel
theorem dX12_signHere_101 : decode cX12_signHere 101 = .ok (.bipush 23, 2) := by decide +kernel
theorem dX12_signHere_103 : decode cX12_signHere 103 = .ok (.iload_n 2, 1) := by decide +kernel
theorem dX12_signHere_104 : decode cX12_signHere 104 = .ok (.iconst 1, 1) := by decide +kernel
theorem dX12_signHere_105 : decode cX12_signHere 105 = .ok (.isub, 1) := by decide +kernel
theorem dX12_signHere_106 : decode cX12_signHere 106 = .ok (.imul, 1) := by decide +kernel
theorem dX12_signHere_107 : decode cX12_signHere 107 = .ok (.iadd, 1) := by decide +kernel
theorem dX12_signHere_108 : decode cX12_signHere 108 = .ok (.iload_n 1, 1) := by decide +kernel
theorem dX12_signHere_109 : decode cX12_signHere 109 = .ok (.iadd, 1) := by decide +kernel
theorem dX12_signHere_110 : decode cX12_signHere 110 = .ok (.ireturn, 1) := by decide +kernel
def X12_signHere_87  (x1 : Int32) (x2 : Int32) : MM Int32 :=
  if x1 < 0 then (mr (-1 : Int32)) else (if x2 ≤ (3 : Int32) then (mr (((1 : Int32) + ((23 : Int32) * (x2 - (1 : Int32)))) + x1)) else (mr (-1 : Int32)))
def X12_signHere_53_st  (k53 : Nat → Int32 → Int32 → Int32 → MM Int32) (this : Nat) (x1 : Int32) (x2 : Int32) (x3 : Int32) : MM Int32 :=
  mb (gI 13 (some this) 19) fun v1 =>
  if v1 ≤ x3 then ((X12_signHere_87 x1 x2)) else (mb (gR 13 (some this) 0) fun v2 =>
  mb (aI v2 x3) fun v3 =>
  mb (gR 13 (some this) 0) fun v4 =>
  mb (gI 13 (some this) 20) fun v5 =>
  mb (aI v4 v5) fun v6 =>
  if v3 = v6 then ((k53 this x1 x2 (x3 + (1 : Int32)))) else (mr (-1 : Int32)))
def X12_signHere_53  : Nat → Nat → Int32 → Int32 → Int32 → MM Int32
  | 0 => fun _ _ _ _ => mf
  | n + 1 => fun this x1 x2 x3 => X12_signHere_53_st  (X12_signHere_53  n) this x1 x2 x3
def X12_signHere (this : Nat) : MM Int32 :=
  mb (kR 10) fun v1 =>
  mb (wc 13 (some this) fun t => X12_isSpelled t v1) fun v2 =>
  if v2 = 0 then (mb (kR 11) fun v3 =>
  mb (wc 13 (some this) fun t => X12_isSpelled t v3) fun v4 =>
  if v4 = 0 then (mb (kR 12) fun v5 =>
  mb (gR 13 (some this) 0) fun v6 =>
  mb (gI 13 (some this) 20) fun v7 =>
  mb (aI v6 v7) fun v8 =>
  mb (wc 0 v5 fun t => J0_indexOf_0f7a4 t v8) fun v9 =>
  mb (gI 13 (some this) 19) fun v10 =>
  mb (gI 13 (some this) 20) fun v11 =>
  mb (gI 13 (some this) 20) fun v12 =>
  (X12_signHere_53 LFU this v9 (v10 - v11) v12)) else (mr (70 : Int32))) else (mr (0 : Int32))
set_option maxRecDepth 100000 in
set_option maxHeartbeats 4000000 in
theorem s_X12_signHere_87 (G : GG)   (x1 : Int32) (x2 : Int32) : Sn G yX12_signHere cX12_signHere 4 (some FieldType.int) 5 108 (fun v : Int32 => some (.int v)) (X12_signHere_87  x1 x2) 87 [none, some (.int x1), some (.int x2), none] [] := by
  unfold X12_signHere_87
  refine sn_iload_n (v := x1) (pc' := 88) dX12_signHere_87 rfl rfl rfl ?_
  refine sn_if_lt (pt := 96) (pf := 91) dX12_signHere_88 rfl rfl ?_ ?_
  · refine sn_iconst (v := (-1 : Int32)) (pc' := 97) dX12_signHere_96 rfl (by decide) ?_
    refine sn_goto (pc' := 110) dX12_signHere_97 rfl ?_
    exact sn_iret dX12_signHere_110 rfl rfl
  · refine sn_iload_n (v := x2) (pc' := 92) dX12_signHere_91 rfl rfl rfl ?_
    refine sn_iconst (v := (3 : Int32)) (pc' := 93) dX12_signHere_92 rfl (by decide) ?_
    refine sn_ic_le (pt := 100) (pf := 96) dX12_signHere_93 rfl rfl ?_ ?_
    · refine sn_iconst (v := (1 : Int32)) (pc' := 101) dX12_signHere_100 rfl (by decide) ?_
      refine sn_bipush (v := (23 : Int32)) (pc' := 103) dX12_signHere_101 rfl (by decide) ?_
      refine sn_iload_n (v := x2) (pc' := 104) dX12_signHere_103 rfl rfl rfl ?_
      refine sn_iconst (v := (1 : Int32)) (pc' := 105) dX12_signHere_104 rfl (by decide) ?_
      refine sn_isub (pc' := 106) dX12_signHere_105 rfl ?_
      refine sn_imul (pc' := 107) dX12_signHere_106 rfl ?_
      refine sn_iadd (pc' := 108) dX12_signHere_107 rfl ?_
      refine sn_iload_n (v := x1) (pc' := 109) dX12_signHere_108 rfl rfl rfl ?_
      refine sn_iadd (pc' := 110) dX12_signHere_109 rfl ?_
      exact sn_iret dX12_signHere_110 rfl rfl
    · refine sn_iconst (v := (-1 : Int32)) (pc' := 97) dX12_signHere_96 rfl (by decide) ?_
      refine sn_goto (pc' := 110) dX12_signHere_97 rfl ?_
      exact sn_iret dX12_signHere_110 rfl rfl
set_option maxRecDepth 100000 in
set_option maxHeartbeats 4000000 in
theorem s_X12_signHere_53_st (G : GG)   (k53 : Nat → Int32 → Int32 → Int32 → MM Int32) (hk53 : ∀ (this : Nat) (x1 : Int32) (x2 : Int32) (x3 : Int32), Sn G yX12_signHere cX12_signHere 4 (some FieldType.int) 5 108 (fun v : Int32 => some (.int v)) (k53 this x1 x2 x3) 53 [some (va_rf (some this)), some (.int x1), some (.int x2), some (.int x3)] []) (this : Nat) (x1 : Int32) (x2 : Int32) (x3 : Int32) : Sn G yX12_signHere cX12_signHere 4 (some FieldType.int) 5 108 (fun v : Int32 => some (.int v)) (X12_signHere_53_st  k53 this x1 x2 x3) 53 [some (va_rf (some this)), some (.int x1), some (.int x2), some (.int x3)] [] := by
  unfold X12_signHere_53_st
  refine sn_iload_n (v := x3) (pc' := 54) dX12_signHere_53 rfl rfl rfl ?_
  refine sn_aload_n (v := (some this)) (pc' := 55) dX12_signHere_54 rfl rfl rfl ?_
  refine sn_gI (k := 19) (pc' := 58) ci_13 rfl (Or.inl tw1297) dX12_signHere_55 rfl (fun v1 => ?_)
  refine sn_ic_ge (pt := 87) (pf := 61) dX12_signHere_58 rfl rfl ?_ ?_
  · exact sn_weak (le_n (le_s (le_s (le_n le_e)))) (s_X12_signHere_87 G x1 x2)
  · refine sn_aload_n (v := (some this)) (pc' := 62) dX12_signHere_61 rfl rfl rfl ?_
    refine sn_gR (k := 0) (pc' := 65) ci_13 rfl (Or.inl tw1278) dX12_signHere_62 rfl (fun v2 => ?_)
    refine sn_iload_n (v := x3) (pc' := 66) dX12_signHere_65 rfl rfl rfl ?_
    refine sn_aI (pc' := 67) dX12_signHere_66 rfl (fun v3 => ?_)
    refine sn_aload_n (v := (some this)) (pc' := 68) dX12_signHere_67 rfl rfl rfl ?_
    refine sn_gR (k := 0) (pc' := 71) ci_13 rfl (Or.inl tw1278) dX12_signHere_68 rfl (fun v4 => ?_)
    refine sn_aload_n (v := (some this)) (pc' := 72) dX12_signHere_71 rfl rfl rfl ?_
    refine sn_gI (k := 20) (pc' := 75) ci_13 rfl (Or.inl tw1298) dX12_signHere_72 rfl (fun v5 => ?_)
    refine sn_aI (pc' := 76) dX12_signHere_75 rfl (fun v6 => ?_)
    refine sn_ic_eq (pt := 81) (pf := 79) dX12_signHere_76 rfl rfl ?_ ?_
    · refine sn_iinc (v := x3) (w := 1) (L' := [some (va_rf (some this)), some (.int x1), some (.int x2), some (.int (x3 + (1 : Int32)))]) (pc' := 84) dX12_signHere_81 rfl rfl rfl (by decide) rfl ?_
      refine sn_goto (pc' := 53) dX12_signHere_84 rfl ?_
      exact sn_weak (le_s (le_s (le_s (le_s le_e)))) (hk53 this x1 x2 (x3 + (1 : Int32)))
    · refine sn_iconst (v := (-1 : Int32)) (pc' := 80) dX12_signHere_79 rfl (by decide) ?_
      exact sn_iret dX12_signHere_80 rfl rfl
set_option maxRecDepth 100000 in
set_option maxHeartbeats 4000000 in
theorem s_X12_signHere_53 (G : GG)   : ∀ (n : Nat) (this : Nat) (x1 : Int32) (x2 : Int32) (x3 : Int32), Sn G yX12_signHere cX12_signHere 4 (some FieldType.int) 5 108 (fun v : Int32 => some (.int v)) (X12_signHere_53  n this x1 x2 x3) 53 [some (va_rf (some this)), some (.int x1), some (.int x2), some (.int x3)] [] := by
  intro n
  induction n with
  | zero => intro this x1 x2 x3; exact sn_mf
  | succ n ih => intro this x1 x2 x3; exact s_X12_signHere_53_st G   (X12_signHere_53  n) ih this x1 x2 x3
set_option maxRecDepth 100000 in
set_option maxHeartbeats 4000000 in
theorem s_X12_signHere (G : GG) (this : Nat) : Sn G yX12_signHere cX12_signHere 4 (some FieldType.int) 5 108 (fun v : Int32 => some (.int v)) (X12_signHere this) 0 [some (va_rf (some this)), none, none, none] [] := by
  unfold X12_signHere
  refine sn_aload_n (v := (some this)) (pc' := 1) dX12_signHere_0 rfl rfl rfl ?_
  refine sn_kS (i := 10) (pc' := 3) (tx := "pi") (by decide +kernel) dX12_signHere_1 rfl (fun v1 => ?_)
  refine sn_cV (r := (some this)) (st := []) (As := [va_rf v1]) (st2 := (fun v => .int v :: [])) (pc' := 6) ci_13 (fun t => c_X12_isSpelled G t v1) cw_X12_isSpelled rfl rfl tw1463 pw49 tw1465 rfl rfl cat_nil rfl (fun _ => rfl) dX12_signHere_3 rfl (fun v2 => ?_)
  refine sn_if_eq (pt := 11) (pf := 9) dX12_signHere_6 rfl rfl ?_ ?_
  · refine sn_aload_n (v := (some this)) (pc' := 12) dX12_signHere_11 rfl rfl rfl ?_
    refine sn_kS (i := 11) (pc' := 14) (tx := "chi") (by decide +kernel) dX12_signHere_12 rfl (fun v3 => ?_)
    refine sn_cV (r := (some this)) (st := []) (As := [va_rf v3]) (st2 := (fun v => .int v :: [])) (pc' := 17) ci_13 (fun t => c_X12_isSpelled G t v3) cw_X12_isSpelled rfl rfl tw1463 pw49 tw1465 rfl rfl cat_nil rfl (fun _ => rfl) dX12_signHere_14 rfl (fun v4 => ?_)
    refine sn_if_eq (pt := 23) (pf := 20) dX12_signHere_17 rfl rfl ?_ ?_
    · refine sn_kS (i := 12) (pc' := 25) (tx := "abcdefghiklmnopqrstvxyz") (by decide +kernel) dX12_signHere_23 rfl (fun v5 => ?_)
      refine sn_aload_n (v := (some this)) (pc' := 26) dX12_signHere_25 rfl rfl rfl ?_
      refine sn_gR (k := 0) (pc' := 29) ci_13 rfl (Or.inl tw1278) dX12_signHere_26 rfl (fun v6 => ?_)
      refine sn_aload_n (v := (some this)) (pc' := 30) dX12_signHere_29 rfl rfl rfl ?_
      refine sn_gI (k := 20) (pc' := 33) ci_13 rfl (Or.inl tw1298) dX12_signHere_30 rfl (fun v7 => ?_)
      refine sn_aI (pc' := 34) dX12_signHere_33 rfl (fun v8 => ?_)
      refine sn_cV (r := v5) (st := []) (As := [.int v8]) (st2 := (fun v => .int v :: [])) (pc' := 37) ci_0 (fun t => c_J0_indexOf_0f7a4 G t v8) cw_J0_indexOf_0f7a4 rfl rfl tw1471 tw396 tw395 rfl rfl cat_nil rfl (fun _ => rfl) dX12_signHere_34 rfl (fun v9 => ?_)
      refine sn_istore_n (v := v9) (L' := [some (va_rf (some this)), some (.int v9), none, none]) (pc' := 38) dX12_signHere_37 rfl rfl rfl rfl ?_
      refine sn_aload_n (v := (some this)) (pc' := 39) dX12_signHere_38 rfl rfl rfl ?_
      refine sn_gI (k := 19) (pc' := 42) ci_13 rfl (Or.inl tw1297) dX12_signHere_39 rfl (fun v10 => ?_)
      refine sn_aload_n (v := (some this)) (pc' := 43) dX12_signHere_42 rfl rfl rfl ?_
      refine sn_gI (k := 20) (pc' := 46) ci_13 rfl (Or.inl tw1298) dX12_signHere_43 rfl (fun v11 => ?_)
      refine sn_isub (pc' := 47) dX12_signHere_46 rfl ?_
      refine sn_istore_n (v := (v10 - v11)) (L' := [some (va_rf (some this)), some (.int v9), some (.int (v10 - v11)), none]) (pc' := 48) dX12_signHere_47 rfl rfl rfl rfl ?_
      refine sn_aload_n (v := (some this)) (pc' := 49) dX12_signHere_48 rfl rfl rfl ?_
      refine sn_gI (k := 20) (pc' := 52) ci_13 rfl (Or.inl tw1298) dX12_signHere_49 rfl (fun v12 => ?_)
      refine sn_istore_n (v := v12) (L' := [some (va_rf (some this)), some (.int v9), some (.int (v10 - v11)), some (.int v12)]) (pc' := 53) dX12_signHere_52 rfl rfl rfl rfl ?_
      exact sn_weak (le_s (le_s (le_s (le_s le_e)))) (s_X12_signHere_53 G LFU this v9 (v10 - v11) v12)
    · refine sn_bipush (v := (70 : Int32)) (pc' := 22) dX12_signHere_20 rfl (by decide) ?_
      exact sn_iret dX12_signHere_22 rfl rfl
  · refine sn_iconst (v := (0 : Int32)) (pc' := 10) dX12_signHere_9 rfl (by decide) ?_
    exact sn_iret dX12_signHere_10 rfl rfl
theorem c_X12_signHere (G : GG) (this : Nat) : Cal G yX12_signHere cX12_signHere 4 (some FieldType.int) 5 108 (fun v : Int32 => some (.int v)) (X12_signHere this) [.ref this] :=
  Cal.of (by decide) (cat_t cat_nil) rfl (sn_weak (le_s (le_z (le_z (le_z le_e)))) (s_X12_signHere G this))
theorem cw_X12_signHere : CW yX12_signHere cX12_signHere 4 (some FieldType.int) 0 := ⟨tw1461, tw15, by decide, by decide +kernel⟩
/-! X12_next -/
theorem dX12_next_0 : decode cX12_next 0 = .ok (.aload_n 0, 1) := by decide +kernel
theorem dX12_next_1 : decode cX12_next 1 = .ok (.getfield 57, 3) := by decide +kernel
theorem dX12_next_4 : decode cX12_next 4 = .ok (.aload_n 0, 1) := by decide +kernel
theorem dX12_next_5 : decode cX12_next 5 = .ok (.getfield 90, 3) := by decide +kernel
theorem dX12_next_8 : decode cX12_next 8 = .ok (.if_icmp .ge 30, 3) := by decide +kernel
theorem dX12_next_11 : decode cX12_next 11 = .ok (.aload_n 0, 1) := by decide +kernel
theorem dX12_next_12 : decode cX12_next 12 = .ok (.getfield 69, 3) := by decide +kernel
theorem dX12_next_15 : decode cX12_next 15 = .ok (.aload_n 0, 1) := by decide +kernel
theorem dX12_next_16 : decode cX12_next 16 = .ok (.getfield 57, 3) := by decide +kernel
theorem dX12_next_19 : decode cX12_next 19 = .ok (.iaload, 1) := by decide +kernel
theorem dX12_next_20 : decode cX12_next 20 = .ok (.bipush 32, 2) := by decide +kernel
theorem dX12_next_22 : decode cX12_next 22 = .ok (.if_icmp .ne 16, 3) := by decide +kernel
theorem dX12_next_25 : decode cX12_next 25 = .ok (.aload_n 0, 1) := by decide +kernel
theorem dX12_next_26 : decode cX12_next 26 = .ok (.dup, 1) := by decide +kernel
theorem dX12_next_27 : decode cX12_next 27 = .ok (.getfield 57, 3) := by decide +kernel
theorem dX12_next_30 : decode cX12_next 30 = .ok (.iconst 1, 1) := by decide +kernel
theorem dX12_next_31 : decode cX12_next 31 = .ok (.iadd, 1) := by decide +kernel
theorem dX12_next_32 : decode cX12_next 32 = .ok (.putfield 57, 3) := by decide +kernel
theorem dX12_next_35 : decode cX12_next 35 = .ok (.goto (-35), 3) := by decide +kernel
theorem dX12_next_38 : decode cX12_next 38 = .ok (.aload_n 0, 1) := by decide +kernel
theorem dX12_next_39 : decode cX12_next 39 = .ok (.aload_n 0, 1) := by decide +kernel
theorem dX12_next_40 : decode cX12_next 40 = .ok (.getfield 57, 3) := by decide +kernel
theorem dX12_next_43 : decode cX12_next 43 = .ok (.putfield 60, 3) := by decide +kernel
theorem dX12_next_46 : decode cX12_next 46 = .ok (.aload_n 0, 1) := by decide +kernel
theorem dX12_next_47 : decode cX12_next 47 = .ok (.iconst 0, 1) := by decide +kernel
theorem dX12_next_48 : decode cX12_next 48 = .ok (.putfield 93, 3) := by decide +kernel
theorem dX12_next_51 : decode cX12_next 51 = .ok (.aload_n 0, 1) := by decide +kernel
theorem dX12_next_52 : decode cX12_next 52 = .ok (.iconst 0, 1) := by decide +kernel
theorem dX12_next_53 : decode cX12_next 53 = .ok (.putfield 96, 3) := by decide +kernel
theorem dX12_next_56 : decode cX12_next 56 = .ok (.aload_n 0, 1) := by decide +kernel
theorem dX12_next_57 : decode cX12_next 57 = .ok (.getfield 57, 3) := by decide +kernel
theorem dX12_next_60 : decode cX12_next 60 = .ok (.aload_n 0, 1) := by decide +kernel
theorem dX12_next_61 : decode cX12_next 61 = .ok (.getfield 90, 3) := by decide +kernel
theorem dX12_next_64 : decode cX12_next 64 = .ok (.if_icmp .ne 4, 3) := by decide +kernel
theorem dX12_next_67 : decode cX12_next 67 = .ok (.return_, 1) := by decide +kernel
theorem dX12_next_68 : decode cX12_next 68 = .ok (.aload_n 0, 1) := by decide +kernel
theorem dX12_next_69 : decode cX12_next 69 = .ok (.getfield 69, 3) := by decide +kernel
theorem dX12_next_72 : decode cX12_next 72 = .ok (.aload_n 0, 1) := by decide +kernel
theorem dX12_next_73 : decode cX12_next 73 = .ok (.getfield 57, 3) := by decide +kernel
theorem dX12_next_76 : decode cX12_next 76 = .ok (.iaload, 1) := by decide +kernel
theorem dX12_next_77 : decode cX12_next 77 = .ok (.istore_n 1, 1) := by decide +kernel
theorem dX12_next_78 : decode cX12_next 78 = .ok (.iload_n 1, 1) := by decide +kernel
theorem dX12_next_79 : decode cX12_next 79 = .ok (.bipush 97, 2) := by decide +kernel
theorem dX12_next_81 : decode cX12_next 81 = .ok (.bipush 122, 2) := by decide +kernel
theorem dX12_next_83 : decode cX12_next 83 = .ok (.invokestatic 10, 3) := by decide +kernel
theorem dX12_next_86 : decode cX12_next 86 = .ok (.ifCond .eq 73, 3) := by decide +kernel
theorem dX12_next_89 : decode cX12_next 89 = .ok (.aload_n 0, 1) := by decide +kernel
theorem dX12_next_90 : decode cX12_next 90 = .ok (.getfield 57, 3) := by decide +kernel
theorem dX12_next_93 : decode cX12_next 93 = .ok (.aload_n 0, 1) := by decide +kernel
theorem dX12_next_94 : decode cX12_next 94 = .ok (.getfield 90, 3) := by decide +kernel
theorem dX12_next_97 : decode cX12_next 97 = .ok (.if_icmp .ge 35, 3) := by decide +kernel
theorem dX12_next_100 : decode cX12_next 100 = .ok (.aload_n 0, 1) := by decide +kernel
theorem dX12_next_101 : decode cX12_next 101 = .ok (.getfield 69, 3) := by decide +kernel
theorem dX12_next_104 : decode cX12_next 104 = .ok (.aload_n 0, 1) := by decide +kernel
theorem dX12_next_105 : decode cX12_next 105 = .ok (.getfield 57, 3) := by decide +kernel
theorem dX12_next_108 : decode cX12_next 108 = .ok (.iaload, 1) := by decide +kernel
theorem dX12_next_109 : decode cX12_next 109 = .ok (.bipush 97, 2) := by decide +kernel
theorem dX12_next_111 : decode cX12_next 111 = .ok (.bipush 122, 2) := by decide +kernel
theorem dX12_next_113 : decode cX12_next 113 = .ok (.invokestatic 10, 3) := by decide +kernel
theorem dX12_next_116 : decode cX12_next 116 = .ok (.ifCond .eq 16, 3) := by decide +kernel
theorem dX12_next_119 : decode cX12_next 119 = .ok (.aload_n 0, 1) := by decide +kernel
theorem dX12_next_120 : decode cX12_next 120 = .ok (.dup, 1) := by decide +kernel
theorem dX12_next_121 : decode cX12_next 121 = .ok (.getfield 57, 3) := by decide +kernel
theorem dX12_next_124 : decode cX12_next 124 = .ok (.iconst 1, 1) := by decide +kernel
theorem dX12_next_125 : decode cX12_next 125 = .ok (.iadd, 1) := by decide +kernel
theorem dX12_next_126 : decode cX12_next 126 = .ok (.putfield 57, 3) := by decide +kernel
theorem dX12_next_129 : decode cX12_next 129 = .ok (.goto (-40), 3) := by decide +kernel
theorem dX12_next_132 : decode cX12_next 132 = .ok (.aload_n 0, 1) := by decide +kernel
theorem dX12_next_133 : decode cX12_next 133 = .ok (.aload_n 0, 1) := by decide +kernel
theorem dX12_next_134 : decode cX12_next 134 = .ok (.invokevirtual 99, 3) := by decide +kernel
theorem dX12_next_137 : decode cX12_next 137 = .ok (.putfield 96, 3) := by decide +kernel
theorem dX12_next_140 : decode cX12_next 140 = .ok (.aload_n 0, 1) := by decide +kernel
theorem dX12_next_141 : decode cX12_next 141 = .ok (.aload_n 0, 1) := by decide +kernel
theorem dX12_next_142 : decode cX12_next 142 = .ok (.getfield 96, 3) := by decide +kernel
theorem dX12_next_145 : decode cX12_next 145 = .ok (.ifCond .ge 7, 3) := by decide +kernel
theorem dX12_next_148 : decode cX12_next 148 = .ok (.iconst 1, 1) := by decide +kernel
theorem dX12_next_149 : decode cX12_next 149 = .ok (.goto 4, 3) := by decide +kernel
theorem dX12_next_152 : decode cX12_next 152 = .ok (.iconst 2, 1) := by decide +kernel
theorem dX12_next_153 : decode cX12_next 153 = .ok (.putfield 93, 3) := by decide +kernel
theorem dX12_next_156 : decode cX12_next 156 = .ok (.goto 179, 3) := by decide +kernel
theorem dX12_next_159 : decode cX12_next 159 = .ok (.iload_n 1, 1) := by decide +kernel
theorem dX12_next_160 : decode cX12_next 160 = .ok (.bipush 48, 2) := by decide +kernel
theorem dX12_next_162 : decode cX12_next 162 = .ok (.bipush 57, 2) := by decide +kernel
theorem dX12_next_164 : decode cX12_next 164 = .ok (.invokestatic 10, 3) := by decide +kernel
theorem dX12_next_167 : decode cX12_next 167 = .ok (.ifCond .eq 108, 3) := by decide +kernel
theorem dX12_next_170 : decode cX12_next 170 = .ok (.aload_n 0, 1) := by decide +kernel
theorem dX12_next_171 : decode cX12_next 171 = .ok (.getfield 57, 3) := by decide +kernel
theorem dX12_next_174 : decode cX12_next 174 = .ok (.aload_n 0, 1) := by decide +kernel
theorem dX12_next_175 : decode cX12_next 175 = .ok (.getfield 90, 3) := by decide +kernel
theorem dX12_next_178 : decode cX12_next 178 = .ok (.if_icmp .ge 72, 3) := by decide +kernel
theorem dX12_next_181 : decode cX12_next 181 = .ok (.aload_n 0, 1) := by decide +kernel
theorem dX12_next_182 : decode cX12_next 182 = .ok (.getfield 69, 3) := by decide +kernel
theorem dX12_next_185 : decode cX12_next 185 = .ok (.aload_n 0, 1) := by decide +kernel
theorem dX12_next_186 : decode cX12_next 186 = .ok (.getfield 57, 3) := by decide +kernel
theorem dX12_next_189 : decode cX12_next 189 = .ok (.iaload, 1) := by decide +kernel
theorem dX12_next_190 : decode cX12_next 190 = .ok (.bipush 48, 2) := by decide +kernel
theorem dX12_next_192 : decode cX12_next 192 = .ok (.bipush 57, 2) := by decide +kernel
theorem dX12_next_194 : decode cX12_next 194 = .ok (.invokestatic 10, 3) := by decide +kernel
theorem dX12_next_197 : decode cX12_next 197 = .ok (.ifCond .eq 53, 3) := by decide +kernel
theorem dX12_next_200 : decode cX12_next 200 = .ok (.aload_n 0, 1) := by decide +kernel
theorem dX12_next_201 : decode cX12_next 201 = .ok (.getfield 57, 3) := by decide +kernel
theorem dX12_next_204 : decode cX12_next 204 = .ok (.aload_n 0, 1) := by decide +kernel
theorem dX12_next_205 : decode cX12_next 205 = .ok (.getfield 60, 3) := by decide +kernel
theorem dX12_next_208 : decode cX12_next 208 = .ok (.isub, 1) := by decide +kernel
theorem dX12_next_209 : decode cX12_next 209 = .ok (.iconst 3, 1) := by decide +kernel
theorem dX12_next_210 : decode cX12_next 210 = .ok (.if_icmp .ge 27, 3) := by decide +kernel
theorem dX12_next_213 : decode cX12_next 213 = .ok (.aload_n 0, 1) := by decide +kernel
theorem dX12_next_214 : decode cX12_next 214 = .ok (.bipush 10, 2) := by decide +kernel
theorem dX12_next_216 : decode cX12_next 216 = .ok (.aload_n 0, 1) := by decide +kernel
theorem dX12_next_217 : decode cX12_next 217 = .ok (.getfield 96, 3) := by decide +kernel
theorem dX12_next_220 : decode cX12_next 220 = .ok (.imul, 1) := by decide +kernel
theorem dX12_next_221 : decode cX12_next 221 = .ok (.aload_n 0, 1) := by decide +kernel
theorem dX12_next_222 : decode cX12_next 222 = .ok (.getfield 69, 3) := by decide +kernel
theorem dX12_next_225 : decode cX12_next 225 = .ok (.aload_n 0, 1) := by decide +kernel
theorem dX12_next_226 : decode cX12_next 226 = .ok (.getfield 57, 3) := by decide +kernel
theorem dX12_next_229 : decode cX12_next 229 = .ok (.iaload, 1) := by decide +kernel
theorem dX12_next_230 : decode cX12_next 230 = .ok (.iadd, 1) := by decide +kernel
theorem dX12_next_231 : decode cX12_next 231 = .ok (.bipush 48, 2) := by decide +kernel
theorem dX12_next_233 : decode cX12_next 233 = .ok (.isub, 1) := by decide +kernel
theorem dX12_next_234 : decode cX12_next 234 = .ok (.putfield 96, 3) := by decide +kernel
theorem dX12_next_237 : decode cX12_next 237 = .ok (.aload_n 0, 1) := by decide +kernel
theorem dX12_next_238 : decode cX12_next 238 = .ok (.dup, 1) := by decide +kernel
theorem dX12_next_239 : decode cX12_next 239 = .ok (.getfield 57, 3) := by decide +kernel
theorem dX12_next_242 : decode cX12_next 242 = .ok (.iconst 1, 1) := by decide +kernel
theorem dX12_next_243 : decode cX12_next 243 = .ok (.iadd, 1) := by decide +kernel
theorem dX12_next_244 : decode cX12_next 244 = .ok (.putfield 57, 3) := by decide +kernel
theorem dX12_next_247 : decode cX12_next 247 = .ok (.goto (-77), 3) := by decide +kernel
theorem dX12_next_250 : decode cX12_next 250 = .ok (.aload_n 0, 1) := by decide +kernel
theorem dX12_next_251 : decode cX12_next 251 = .ok (.aload_n 0, 1) := by decide +kernel
theorem dX12_next_252 : decode cX12_next 252 = .ok (.getfield 57, 3) := by decide +kernel
theorem dX12_next_255 : decode cX12_next 255 = .ok (.aload_n 0, 1) := by decide +kernel
theorem dX12_next_256 : decode cX12_next 256 = .ok (.getfield 60, 3) := by decide +kernel
theorem dX12_next_259 : decode cX12_next 259 = .ok (.isub, 1) := by decide +kernel
theorem dX12_next_260 : decode cX12_next 260 = .ok (.iconst 3, 1) := by decide +kernel
theorem dX12_next_261 : decode cX12_next 261 = .ok (.if_icmp .le 7, 3) := by decide +kernel
theorem dX12_next_264 : decode cX12_next 264 = .ok (.iconst 1, 1) := by decide +kernel
theorem dX12_next_265 : decode cX12_next 265 = .ok (.goto 4, 3) := by decide +kernel
theorem dX12_next_268 : decode cX12_next 268 = .ok (.iconst 3, 1) := by decide +kernel
theorem dX12_next_269 : decode cX12_next 269 = .ok (.putfield 93, 3) := by decide +kernel
theorem dX12_next_272 : decode cX12_next 272 = .ok (.goto 63, 3) := by decide +kernel
theorem dX12_next_275 : decode cX12_next 275 = .ok (.aload_n 0, 1) := by decide +kernel
theorem dX12_next_276 : decode cX12_next 276 = .ok (.dup, 1) := by decide +kernel
theorem dX12_next_277 : decode cX12_next 277 = .ok (.getfield 57, 3) := by decide +kernel
theorem dX12_next_280 : decode cX12_next 280 = .ok (.iconst 1, 1) := by decide +kernel
theorem dX12_next_281 : decode cX12_next 281 = .ok (.iadd, 1) := by decide +kernel
theorem dX12_next_282 : decode cX12_next 282 = .ok (.putfield 57, 3) := by decide +kernel
theorem dX12_next_285 : decode cX12_next 285 = .ok (.aload_n 0, 1) := by decide +kernel
theorem dX12_next_286 : decode cX12_next 286 = .ok (.iload_n 1, 1) := by decide +kernel
theorem dX12_next_287 : decode cX12_next 287 = .ok (.putfield 96, 3) := by decide +kernel
theorem dX12_next_290 : decode cX12_next 290 = .ok (.aload_n 0, 1) := by decide +kernel
theorem dX12_next_291 : decode cX12_next 291 = .ok (.iload_n 1, 1) := by decide +kernel
theorem dX12_next_292 : decode cX12_next 292 = .ok (.bipush 40, 2) := by decide +kernel
theorem dX12_next_294 : decode cX12_next 294 = .ok (.if_icmp .eq 33, 3) := by decide +kernel
theorem dX12_next_297 : decode cX12_next 297 = .ok (.iload_n 1, 1) := by decide +kernel
theorem dX12_next_298 : decode cX12_next 298 = .ok (.bipush 41, 2) := by decide +kernel
theorem dX12_next_300 : decode cX12_next 300 = .ok (.if_icmp .eq 27, 3) := by decide +kernel
theorem dX12_next_303 : decode cX12_next 303 = .ok (.iload_n 1, 1) := by decide +kernel
theorem dX12_next_304 : decode cX12_next 304 = .ok (.bipush 44, 2) := by decide +kernel
theorem dX12_next_306 : decode cX12_next 306 = .ok (.if_icmp .eq 21, 3) := by decide +kernel
theorem dX12_next_309 : decode cX12_next 309 = .ok (.iload_n 1, 1) := by decide +kernel
theorem dX12_next_310 : decode cX12_next 310 = .ok (.bipush 45, 2) := by decide +kernel
theorem dX12_next_312 : decode cX12_next 312 = .ok (.if_icmp .eq 15, 3) := by decide +kernel
theorem dX12_next_315 : decode cX12_next 315 = .ok (.iload_n 1, 1) := by decide +kernel
theorem dX12_next_316 : decode cX12_next 316 = .ok (.bipush 43, 2) := by decide +kernel
theorem dX12_next_318 : decode cX12_next 318 = .ok (.if_icmp .eq 9, 3) := by decide +kernel
theorem dX12_next_321 : decode cX12_next 321 = .ok (.iload_n 1, 1) := by decide +kernel
theorem dX12_next_322 : decode cX12_next 322 = .ok (.bipush 61, 2) := by decide +kernel
theorem dX12_next_324 : decode cX12_next 324 = .ok (.if_icmp .ne 7, 3) := by decide +kernel
theorem dX12_next_327 : decode cX12_next 327 = .ok (.iconst 4, 1) := by decide +kernel
theorem dX12_next_328 : decode cX12_next 328 = .ok (.goto 4, 3) := by decide +kernel
theorem dX12_next_331 : decode cX12_next 331 = .ok (.iconst 1, 1) := by decide +kernel
theorem dX12_next_332 : decode cX12_next 332 = .ok (.putfield 93, 3) := by decide +kernel
theorem dX12_next_335 : decode cX12_next 335 = .ok (.return_, 1) := by decide +kernel
def X12_next_132  (this : Nat) : MM Unit :=
  mb (wc 13 (some this) fun t => X12_signHere t ) fun v1 =>
  mb (pI 13 (some this) 22 v1) fun _ =>
  mb (gI 13 (some this) 22) fun v2 =>
  if 0 ≤ v2 then (mb (pI 13 (some this) 21 (2 : Int32)) fun _ =>
  mr ()) else (mb (pI 13 (some this) 21 (1 : Int32)) fun _ =>
  mr ())
def X12_next_89_st  (k89 : Nat → MM Unit) (this : Nat) : MM Unit :=
  mb (gI 13 (some this) 19) fun v1 =>
  mb (gI 13 (some this) 1) fun v2 =>
  if v2 ≤ v1 then ((X12_next_132 this)) else (mb (gR 13 (some this) 0) fun v3 =>
  mb (gI 13 (some this) 19) fun v4 =>
  mb (aI v3 v4) fun v5 =>
  mb (X12_isIn v5 (97 : Int32) (122 : Int32)) fun v6 =>
  if v6 = 0 then ((X12_next_132 this)) else (mb (gI 13 (some this) 19) fun v7 =>
  mb (pI 13 (some this) 19 (v7 + (1 : Int32))) fun _ =>
  (k89 this)))
def X12_next_89  : Nat → Nat → MM Unit
  | 0 => fun _ => mf
  | n + 1 => fun this => X12_next_89_st  (X12_next_89  n) this
def X12_next_237 (k170 : Nat → MM Unit) (this : Nat) : MM Unit :=
  mb (gI 13 (some this) 19) fun v1 =>
  mb (pI 13 (some this) 19 (v1 + (1 : Int32))) fun _ =>
  (k170 this)
def X12_next_250  (this : Nat) : MM Unit :=
  mb (gI 13 (some this) 19) fun v1 =>
  mb (gI 13 (some this) 20) fun v2 =>
  if (v1 - v2) ≤ (3 : Int32) then (mb (pI 13 (some this) 21 (3 : Int32)) fun _ =>
  mr ()) else (mb (pI 13 (some this) 21 (1 : Int32)) fun _ =>
  mr ())
def X12_next_170_st  (k170 : Nat → MM Unit) (this : Nat) : MM Unit :=
  mb (gI 13 (some this) 19) fun v1 =>
  mb (gI 13 (some this) 1) fun v2 =>
  if v2 ≤ v1 then ((X12_next_250 this)) else (mb (gR 13 (some this) 0) fun v3 =>
  mb (gI 13 (some this) 19) fun v4 =>
  mb (aI v3 v4) fun v5 =>
  mb (X12_isIn v5 (48 : Int32) (57 : Int32)) fun v6 =>
  if v6 = 0 then ((X12_next_250 this)) else (mb (gI 13 (some this) 19) fun v7 =>
  mb (gI 13 (some this) 20) fun v8 =>
  if (3 : Int32) ≤ (v7 - v8) then ((X12_next_237 k170 this)) else (mb (gI 13 (some this) 22) fun v9 =>
  mb (gR 13 (some this) 0) fun v10 =>
  mb (gI 13 (some this) 19) fun v11 =>
  mb (aI v10 v11) fun v12 =>
  mb (pI 13 (some this) 22 ((((10 : Int32) * v9) + v12) - (48 : Int32))) fun _ =>
  (X12_next_237 k170 this))))
def X12_next_170  : Nat → Nat → MM Unit
  | 0 => fun _ => mf
  | n + 1 => fun this => X12_next_170_st  (X12_next_170  n) this
def X12_next_38  (this : Nat) : MM Unit :=
  mb (gI 13 (some this) 19) fun v1 =>
  mb (pI 13 (some this) 20 v1) fun _ =>
  mb (pI 13 (some this) 21 (0 : Int32)) fun _ =>
  mb (pI 13 (some this) 22 (0 : Int32)) fun _ =>
  mb (gI 13 (some this) 19) fun v2 =>
  mb (gI 13 (some this) 1) fun v3 =>
  if v2 = v3 then (mr ()) else (mb (gR 13 (some this) 0) fun v4 =>
  mb (gI 13 (some this) 19) fun v5 =>
  mb (aI v4 v5) fun v6 =>
  mb (X12_isIn v6 (97 : Int32) (122 : Int32)) fun v7 =>
  if v7 = 0 then (mb (X12_isIn v6 (48 : Int32) (57 : Int32)) fun v8 =>
  if v8 = 0 then (mb (gI 13 (some this) 19) fun v9 =>
  mb (pI 13 (some this) 19 (v9 + (1 : Int32))) fun _ =>
  mb (pI 13 (some this) 22 v6) fun _ =>
  if v6 = (40 : Int32) then (mb (pI 13 (some this) 21 (4 : Int32)) fun _ =>
  mr ()) else (if v6 = (41 : Int32) then (mb (pI 13 (some this) 21 (4 : Int32)) fun _ =>
  mr ()) else (if v6 = (44 : Int32) then (mb (pI 13 (some this) 21 (4 : Int32)) fun _ =>
  mr ()) else (if v6 = (45 : Int32) then (mb (pI 13 (some this) 21 (4 : Int32)) fun _ =>
  mr ()) else (if v6 = (43 : Int32) then (mb (pI 13 (some this) 21 (4 : Int32)) fun _ =>
  mr ()) else (if v6 = (61 : Int32) then (mb (pI 13 (some this) 21 (4 : Int32)) fun _ =>
  mr ()) else (mb (pI 13 (some this) 21 (1 : Int32)) fun _ =>
  mr ()))))))) else ((X12_next_170 LFU this))) else ((X12_next_89 LFU this)))
def X12_next_0_st  (k0 : Nat → MM Unit) (this : Nat) : MM Unit :=
  mb (gI 13 (some this) 19) fun v1 =>
  mb (gI 13 (some this) 1) fun v2 =>
  if v2 ≤ v1 then ((X12_next_38 this)) else (mb (gR 13 (some this) 0) fun v3 =>
  mb (gI 13 (some this) 19) fun v4 =>
  mb (aI v3 v4) fun v5 =>
  if v5 = (32 : Int32) then (mb (gI 13 (some this) 19) fun v6 =>
  mb (pI 13 (some this) 19 (v6 + (1 : Int32))) fun _ =>
  (k0 this)) else ((X12_next_38 this)))
def X12_next_0  : Nat → Nat → MM Unit
  | 0 => fun _ => mf
  | n + 1 => fun this => X12_next_0_st  (X12_next_0  n) this
def X12_next (this : Nat) : MM Unit :=
  (X12_next_0 LFU this)
set_option maxRecDepth 100000 in
set_option maxHeartbeats 4000000 in
theorem s_X12_next_132 (G : GG)   (this : Nat) : Sn G yX12_next cX12_next 2 none 6 131 (fun _ : Unit => none) (X12_next_132  this) 132 [some (va_rf (some this)), none] [] := by
  unfold X12_next_132
  refine sn_aload_n (v := (some this)) (pc' := 133) dX12_next_132 rfl rfl rfl ?_
  refine sn_aload_n (v := (some this)) (pc' := 134) dX12_next_133 rfl rfl rfl ?_
  refine sn_cV (r := (some this)) (st := [va_rf (some this)]) (As := []) (st2 := (fun v => .int v :: [va_rf (some this)])) (pc' := 137) ci_13 (fun t => c_X12_signHere G t ) cw_X12_signHere rfl rfl tw1458 pw48 tw1460 rfl rfl (cat_q cat_nil) rfl (fun _ => rfl) dX12_next_134 rfl (fun v1 => ?_)
  refine sn_pI (k := 22) (pc' := 140) ci_13 rfl (Or.inl tw1300) (Or.inl rfl) rfl dX12_next_137 rfl (fun _ => ?_)
  refine sn_aload_n (v := (some this)) (pc' := 141) dX12_next_140 rfl rfl rfl ?_
  refine sn_aload_n (v := (some this)) (pc' := 142) dX12_next_141 rfl rfl rfl ?_
  refine sn_gI (k := 22) (pc' := 145) ci_13 rfl (Or.inl tw1300) dX12_next_142 rfl (fun v2 => ?_)
  refine sn_if_ge (pt := 152) (pf := 148) dX12_next_145 rfl rfl ?_ ?_
  · refine sn_iconst (v := (2 : Int32)) (pc' := 153) dX12_next_152 rfl (by decide) ?_
    refine sn_pI (k := 21) (pc' := 156) ci_13 rfl (Or.inl tw1299) (Or.inl rfl) rfl dX12_next_153 rfl (fun _ => ?_)
    refine sn_goto (pc' := 335) dX12_next_156 rfl ?_
    exact sn_vret dX12_next_335 rfl
  · refine sn_iconst (v := (1 : Int32)) (pc' := 149) dX12_next_148 rfl (by decide) ?_
    refine sn_goto (pc' := 153) dX12_next_149 rfl ?_
    refine sn_pI (k := 21) (pc' := 156) ci_13 rfl (Or.inl tw1299) (Or.inl rfl) rfl dX12_next_153 rfl (fun _ => ?_)
    refine sn_goto (pc' := 335) dX12_next_156 rfl ?_
    exact sn_vret dX12_next_335 rfl
set_option maxRecDepth 100000 in
set_option maxHeartbeats 4000000 in
theorem s_X12_next_89_st (G : GG)   (k89 : Nat → MM Unit) (hk89 : ∀ (this : Nat), Sn G yX12_next cX12_next 2 none 6 131 (fun _ : Unit => none) (k89 this) 89 [some (va_rf (some this)), none] []) (this : Nat) : Sn G yX12_next cX12_next 2 none 6 131 (fun _ : Unit => none) (X12_next_89_st  k89 this) 89 [some (va_rf (some this)), none] [] := by
  unfold X12_next_89_st
  refine sn_aload_n (v := (some this)) (pc' := 90) dX12_next_89 rfl rfl rfl ?_
  refine sn_gI (k := 19) (pc' := 93) ci_13 rfl (Or.inl tw1297) dX12_next_90 rfl (fun v1 => ?_)
  refine sn_aload_n (v := (some this)) (pc' := 94) dX12_next_93 rfl rfl rfl ?_
  refine sn_gI (k := 1) (pc' := 97) ci_13 rfl (Or.inl tw1279) dX12_next_94 rfl (fun v2 => ?_)
  refine sn_ic_ge (pt := 132) (pf := 100) dX12_next_97 rfl rfl ?_ ?_
  · exact sn_weak (le_s (le_n le_e)) (s_X12_next_132 G this)
  · refine sn_aload_n (v := (some this)) (pc' := 101) dX12_next_100 rfl rfl rfl ?_
    refine sn_gR (k := 0) (pc' := 104) ci_13 rfl (Or.inl tw1278) dX12_next_101 rfl (fun v3 => ?_)
    refine sn_aload_n (v := (some this)) (pc' := 105) dX12_next_104 rfl rfl rfl ?_
    refine sn_gI (k := 19) (pc' := 108) ci_13 rfl (Or.inl tw1297) dX12_next_105 rfl (fun v4 => ?_)
    refine sn_aI (pc' := 109) dX12_next_108 rfl (fun v5 => ?_)
    refine sn_bipush (v := (97 : Int32)) (pc' := 111) dX12_next_109 rfl (by decide) ?_
    refine sn_bipush (v := (122 : Int32)) (pc' := 113) dX12_next_111 rfl (by decide) ?_
    refine sn_cS (st := []) (As := [.int v5, .int (97 : Int32), .int (122 : Int32)]) (st2 := (fun v => .int v :: [])) (pc' := 116) (c_X12_isIn G v5 (97 : Int32) (122 : Int32)) cw_X12_isIn rfl rfl tw1443 tw1444 rfl rfl cat_nil rfl (fun _ => rfl) dX12_next_113 rfl (fun v6 => ?_)
    refine sn_if_eq (pt := 132) (pf := 119) dX12_next_116 rfl rfl ?_ ?_
    · exact sn_weak (le_s (le_n le_e)) (s_X12_next_132 G this)
    · refine sn_aload_n (v := (some this)) (pc' := 120) dX12_next_119 rfl rfl rfl ?_
      refine sn_dup (pc' := 121) dX12_next_120 rfl (cat_rf _) ?_
      refine sn_gI (k := 19) (pc' := 124) ci_13 rfl (Or.inl tw1297) dX12_next_121 rfl (fun v7 => ?_)
      refine sn_iconst (v := (1 : Int32)) (pc' := 125) dX12_next_124 rfl (by decide) ?_
      refine sn_iadd (pc' := 126) dX12_next_125 rfl ?_
      refine sn_pI (k := 19) (pc' := 129) ci_13 rfl (Or.inl tw1297) (Or.inl rfl) rfl dX12_next_126 rfl (fun _ => ?_)
      refine sn_goto (pc' := 89) dX12_next_129 rfl ?_
      exact sn_weak (le_s (le_n le_e)) (hk89 this)
set_option maxRecDepth 100000 in
set_option maxHeartbeats 4000000 in
theorem s_X12_next_89 (G : GG)   : ∀ (n : Nat) (this : Nat), Sn G yX12_next cX12_next 2 none 6 131 (fun _ : Unit => none) (X12_next_89  n this) 89 [some (va_rf (some this)), none] [] := by
  intro n
  induction n with
  | zero => intro this; exact sn_mf
  | succ n ih => intro this; exact s_X12_next_89_st G   (X12_next_89  n) ih this
set_option maxRecDepth 100000 in
set_option maxHeartbeats 4000000 in
theorem s_X12_next_237 (G : GG) (k170 : Nat → MM Unit) (hk170 : ∀ (this : Nat), Sn G yX12_next cX12_next 2 none 6 131 (fun _ : Unit => none) (k170 this) 170 [some (va_rf (some this)), none] []) (this : Nat) : Sn G yX12_next cX12_next 2 none 6 131 (fun _ : Unit => none) (X12_next_237 k170 this) 237 [some (va_rf (some this)), none] [] := by
  unfold X12_next_237
  refine sn_aload_n (v := (some this)) (pc' := 238) dX12_next_237 rfl rfl rfl ?_
  refine sn_dup (pc' := 239) dX12_next_238 rfl (cat_rf _) ?_
  refine sn_gI (k := 19) (pc' := 242) ci_13 rfl (Or.inl tw1297) dX12_next_239 rfl (fun v1 => ?_)
  refine sn_iconst (v := (1 : Int32)) (pc' := 243) dX12_next_242 rfl (by decide) ?_
  refine sn_iadd (pc' := 244) dX12_next_243 rfl ?_
  refine sn_pI (k := 19) (pc' := 247) ci_13 rfl (Or.inl tw1297) (Or.inl rfl) rfl dX12_next_244 rfl (fun _ => ?_)
  refine sn_goto (pc' := 170) dX12_next_247 rfl ?_
  exact sn_weak (le_s (le_n le_e)) (hk170 this)
set_option maxRecDepth 100000 in
set_option maxHeartbeats 4000000 in
theorem s_X12_next_250 (G : GG)   (this : Nat) : Sn G yX12_next cX12_next 2 none 6 131 (fun _ : Unit => none) (X12_next_250  this) 250 [some (va_rf (some this)), none] [] := by
  unfold X12_next_250
  refine sn_aload_n (v := (some this)) (pc' := 251) dX12_next_250 rfl rfl rfl ?_
  refine sn_aload_n (v := (some this)) (pc' := 252) dX12_next_251 rfl rfl rfl ?_
  refine sn_gI (k := 19) (pc' := 255) ci_13 rfl (Or.inl tw1297) dX12_next_252 rfl (fun v1 => ?_)
  refine sn_aload_n (v := (some this)) (pc' := 256) dX12_next_255 rfl rfl rfl ?_
  refine sn_gI (k := 20) (pc' := 259) ci_13 rfl (Or.inl tw1298) dX12_next_256 rfl (fun v2 => ?_)
  refine sn_isub (pc' := 260) dX12_next_259 rfl ?_
  refine sn_iconst (v := (3 : Int32)) (pc' := 261) dX12_next_260 rfl (by decide) ?_
  refine sn_ic_le (pt := 268) (pf := 264) dX12_next_261 rfl rfl ?_ ?_
  · refine sn_iconst (v := (3 : Int32)) (pc' := 269) dX12_next_268 rfl (by decide) ?_
    refine sn_pI (k := 21) (pc' := 272) ci_13 rfl (Or.inl tw1299) (Or.inl rfl) rfl dX12_next_269 rfl (fun _ => ?_)
    refine sn_goto (pc' := 335) dX12_next_272 rfl ?_
    exact sn_vret dX12_next_335 rfl
  · refine sn_iconst (v := (1 : Int32)) (pc' := 265) dX12_next_264 rfl (by decide) ?_
    refine sn_goto (pc' := 269) dX12_next_265 rfl ?_
    refine sn_pI (k := 21) (pc' := 272) ci_13 rfl (Or.inl tw1299) (Or.inl rfl) rfl dX12_next_269 rfl (fun _ => ?_)
    refine sn_goto (pc' := 335) dX12_next_272 rfl ?_
    exact sn_vret dX12_next_335 rfl
set_option maxRecDepth 100000 in
set_option maxHeartbeats 4000000 in
theorem s_X12_next_170_st (G : GG)   (k170 : Nat → MM Unit) (hk170 : ∀ (this : Nat), Sn G yX12_next cX12_next 2 none 6 131 (fun _ : Unit => none) (k170 this) 170 [some (va_rf (some this)), none] []) (this : Nat) : Sn G yX12_next cX12_next 2 none 6 131 (fun _ : Unit => none) (X12_next_170_st  k170 this) 170 [some (va_rf (some this)), none] [] := by
  unfold X12_next_170_st
  refine sn_aload_n (v := (some this)) (pc' := 171) dX12_next_170 rfl rfl rfl ?_
  refine sn_gI (k := 19) (pc' := 174) ci_13 rfl (Or.inl tw1297) dX12_next_171 rfl (fun v1 => ?_)
  refine sn_aload_n (v := (some this)) (pc' := 175) dX12_next_174 rfl rfl rfl ?_
  refine sn_gI (k := 1) (pc' := 178) ci_13 rfl (Or.inl tw1279) dX12_next_175 rfl (fun v2 => ?_)
  refine sn_ic_ge (pt := 250) (pf := 181) dX12_next_178 rfl rfl ?_ ?_
  · exact sn_weak (le_s (le_n le_e)) (s_X12_next_250 G this)
  · refine sn_aload_n (v := (some this)) (pc' := 182) dX12_next_181 rfl rfl rfl ?_
    refine sn_gR (k := 0) (pc' := 185) ci_13 rfl (Or.inl tw1278) dX12_next_182 rfl (fun v3 => ?_)
    refine sn_aload_n (v := (some this)) (pc' := 186) dX12_next_185 rfl rfl rfl ?_
    refine sn_gI (k := 19) (pc' := 189) ci_13 rfl (Or.inl tw1297) dX12_next_186 rfl (fun v4 => ?_)
    refine sn_aI (pc' := 190) dX12_next_189 rfl (fun v5 => ?_)
    refine sn_bipush (v := (48 : Int32)) (pc' := 192) dX12_next_190 rfl (by decide) ?_
    refine sn_bipush (v := (57 : Int32)) (pc' := 194) dX12_next_192 rfl (by decide) ?_
    refine sn_cS (st := []) (As := [.int v5, .int (48 : Int32), .int (57 : Int32)]) (st2 := (fun v => .int v :: [])) (pc' := 197) (c_X12_isIn G v5 (48 : Int32) (57 : Int32)) cw_X12_isIn rfl rfl tw1443 tw1444 rfl rfl cat_nil rfl (fun _ => rfl) dX12_next_194 rfl (fun v6 => ?_)
    refine sn_if_eq (pt := 250) (pf := 200) dX12_next_197 rfl rfl ?_ ?_
    · exact sn_weak (le_s (le_n le_e)) (s_X12_next_250 G this)
    · refine sn_aload_n (v := (some this)) (pc' := 201) dX12_next_200 rfl rfl rfl ?_
      refine sn_gI (k := 19) (pc' := 204) ci_13 rfl (Or.inl tw1297) dX12_next_201 rfl (fun v7 => ?_)
      refine sn_aload_n (v := (some this)) (pc' := 205) dX12_next_204 rfl rfl rfl ?_
      refine sn_gI (k := 20) (pc' := 208) ci_13 rfl (Or.inl tw1298) dX12_next_205 rfl (fun v8 => ?_)
      refine sn_isub (pc' := 209) dX12_next_208 rfl ?_
      refine sn_iconst (v := (3 : Int32)) (pc' := 210) dX12_next_209 rfl (by decide) ?_
      refine sn_ic_ge (pt := 237) (pf := 213) dX12_next_210 rfl rfl ?_ ?_
      · exact sn_weak (le_s (le_n le_e)) (s_X12_next_237 G k170 hk170 this)
      · refine sn_aload_n (v := (some this)) (pc' := 214) dX12_next_213 rfl rfl rfl ?_
        refine sn_bipush (v := (10 : Int32)) (pc' := 216) dX12_next_214 rfl (by decide) ?_
        refine sn_aload_n (v := (some this)) (pc' := 217) dX12_next_216 rfl rfl rfl ?_
        refine sn_gI (k := 22) (pc' := 220) ci_13 rfl (Or.inl tw1300) dX12_next_217 rfl (fun v9 => ?_)
        refine sn_imul (pc' := 221) dX12_next_220 rfl ?_
        refine sn_aload_n (v := (some this)) (pc' := 222) dX12_next_221 rfl rfl rfl ?_
        refine sn_gR (k := 0) (pc' := 225) ci_13 rfl (Or.inl tw1278) dX12_next_222 rfl (fun v10 => ?_)
        refine sn_aload_n (v := (some this)) (pc' := 226) dX12_next_225 rfl rfl rfl ?_
        refine sn_gI (k := 19) (pc' := 229) ci_13 rfl (Or.inl tw1297) dX12_next_226 rfl (fun v11 => ?_)
        refine sn_aI (pc' := 230) dX12_next_229 rfl (fun v12 => ?_)
        refine sn_iadd (pc' := 231) dX12_next_230 rfl ?_
        refine sn_bipush (v := (48 : Int32)) (pc' := 233) dX12_next_231 rfl (by decide) ?_
        refine sn_isub (pc' := 234) dX12_next_233 rfl ?_
        refine sn_pI (k := 22) (pc' := 237) ci_13 rfl (Or.inl tw1300) (Or.inl rfl) rfl dX12_next_234 rfl (fun _ => ?_)
        exact sn_weak (le_s (le_n le_e)) (s_X12_next_237 G k170 hk170 this)
set_option maxRecDepth 100000 in
set_option maxHeartbeats 4000000 in
theorem s_X12_next_170 (G : GG)   : ∀ (n : Nat) (this : Nat), Sn G yX12_next cX12_next 2 none 6 131 (fun _ : Unit => none) (X12_next_170  n this) 170 [some (va_rf (some this)), none] [] := by
  intro n
  induction n with
  | zero => intro this; exact sn_mf
  | succ n ih => intro this; exact s_X12_next_170_st G   (X12_next_170  n) ih this
set_option maxRecDepth 100000 in
set_option maxHeartbeats 4000000 in
theorem s_X12_next_38 (G : GG)   (this : Nat) : Sn G yX12_next cX12_next 2 none 6 131 (fun _ : Unit => none) (X12_next_38  this) 38 [some (va_rf (some this)), none] [] := by
  unfold X12_next_38
  refine sn_aload_n (v := (some this)) (pc' := 39) dX12_next_38 rfl rfl rfl ?_
  refine sn_aload_n (v := (some this)) (pc' := 40) dX12_next_39 rfl rfl rfl ?_
  refine sn_gI (k := 19) (pc' := 43) ci_13 rfl (Or.inl tw1297) dX12_next_40 rfl (fun v1 => ?_)
  refine sn_pI (k := 20) (pc' := 46) ci_13 rfl (Or.inl tw1298) (Or.inl rfl) rfl dX12_next_43 rfl (fun _ => ?_)
  refine sn_aload_n (v := (some this)) (pc' := 47) dX12_next_46 rfl rfl rfl ?_
  refine sn_iconst (v := (0 : Int32)) (pc' := 48) dX12_next_47 rfl (by decide) ?_
  refine sn_pI (k := 21) (pc' := 51) ci_13 rfl (Or.inl tw1299) (Or.inl rfl) rfl dX12_next_48 rfl (fun _ => ?_)
  refine sn_aload_n (v := (some this)) (pc' := 52) dX12_next_51 rfl rfl rfl ?_
  refine sn_iconst (v := (0 : Int32)) (pc' := 53) dX12_next_52 rfl (by decide) ?_
  refine sn_pI (k := 22) (pc' := 56) ci_13 rfl (Or.inl tw1300) (Or.inl rfl) rfl dX12_next_53 rfl (fun _ => ?_)
  refine sn_aload_n (v := (some this)) (pc' := 57) dX12_next_56 rfl rfl rfl ?_
  refine sn_gI (k := 19) (pc' := 60) ci_13 rfl (Or.inl tw1297) dX12_next_57 rfl (fun v2 => ?_)
  refine sn_aload_n (v := (some this)) (pc' := 61) dX12_next_60 rfl rfl rfl ?_
  refine sn_gI (k := 1) (pc' := 64) ci_13 rfl (Or.inl tw1279) dX12_next_61 rfl (fun v3 => ?_)
  refine sn_ic_ne (pt := 68) (pf := 67) dX12_next_64 rfl rfl ?_ ?_
  · exact sn_vret dX12_next_67 rfl
  · refine sn_aload_n (v := (some this)) (pc' := 69) dX12_next_68 rfl rfl rfl ?_
    refine sn_gR (k := 0) (pc' := 72) ci_13 rfl (Or.inl tw1278) dX12_next_69 rfl (fun v4 => ?_)
    refine sn_aload_n (v := (some this)) (pc' := 73) dX12_next_72 rfl rfl rfl ?_
    refine sn_gI (k := 19) (pc' := 76) ci_13 rfl (Or.inl tw1297) dX12_next_73 rfl (fun v5 => ?_)
    refine sn_aI (pc' := 77) dX12_next_76 rfl (fun v6 => ?_)
    refine sn_istore_n (v := v6) (L' := [some (va_rf (some this)), some (.int v6)]) (pc' := 78) dX12_next_77 rfl rfl rfl rfl ?_
    refine sn_iload_n (v := v6) (pc' := 79) dX12_next_78 rfl rfl rfl ?_
    refine sn_bipush (v := (97 : Int32)) (pc' := 81) dX12_next_79 rfl (by decide) ?_
    refine sn_bipush (v := (122 : Int32)) (pc' := 83) dX12_next_81 rfl (by decide) ?_
    refine sn_cS (st := []) (As := [.int v6, .int (97 : Int32), .int (122 : Int32)]) (st2 := (fun v => .int v :: [])) (pc' := 86) (c_X12_isIn G v6 (97 : Int32) (122 : Int32)) cw_X12_isIn rfl rfl tw1443 tw1444 rfl rfl cat_nil rfl (fun _ => rfl) dX12_next_83 rfl (fun v7 => ?_)
    refine sn_if_eq (pt := 159) (pf := 89) dX12_next_86 rfl rfl ?_ ?_
    · refine sn_iload_n (v := v6) (pc' := 160) dX12_next_159 rfl rfl rfl ?_
      refine sn_bipush (v := (48 : Int32)) (pc' := 162) dX12_next_160 rfl (by decide) ?_
      refine sn_bipush (v := (57 : Int32)) (pc' := 164) dX12_next_162 rfl (by decide) ?_
      refine sn_cS (st := []) (As := [.int v6, .int (48 : Int32), .int (57 : Int32)]) (st2 := (fun v => .int v :: [])) (pc' := 167) (c_X12_isIn G v6 (48 : Int32) (57 : Int32)) cw_X12_isIn rfl rfl tw1443 tw1444 rfl rfl cat_nil rfl (fun _ => rfl) dX12_next_164 rfl (fun v8 => ?_)
      refine sn_if_eq (pt := 275) (pf := 170) dX12_next_167 rfl rfl ?_ ?_
      · refine sn_aload_n (v := (some this)) (pc' := 276) dX12_next_275 rfl rfl rfl ?_
        refine sn_dup (pc' := 277) dX12_next_276 rfl (cat_rf _) ?_
        refine sn_gI (k := 19) (pc' := 280) ci_13 rfl (Or.inl tw1297) dX12_next_277 rfl (fun v9 => ?_)
        refine sn_iconst (v := (1 : Int32)) (pc' := 281) dX12_next_280 rfl (by decide) ?_
        refine sn_iadd (pc' := 282) dX12_next_281 rfl ?_
        refine sn_pI (k := 19) (pc' := 285) ci_13 rfl (Or.inl tw1297) (Or.inl rfl) rfl dX12_next_282 rfl (fun _ => ?_)
        refine sn_aload_n (v := (some this)) (pc' := 286) dX12_next_285 rfl rfl rfl ?_
        refine sn_iload_n (v := v6) (pc' := 287) dX12_next_286 rfl rfl rfl ?_
        refine sn_pI (k := 22) (pc' := 290) ci_13 rfl (Or.inl tw1300) (Or.inl rfl) rfl dX12_next_287 rfl (fun _ => ?_)
        refine sn_aload_n (v := (some this)) (pc' := 291) dX12_next_290 rfl rfl rfl ?_
        refine sn_iload_n (v := v6) (pc' := 292) dX12_next_291 rfl rfl rfl ?_
        refine sn_bipush (v := (40 : Int32)) (pc' := 294) dX12_next_292 rfl (by decide) ?_
        refine sn_ic_eq (pt := 327) (pf := 297) dX12_next_294 rfl rfl ?_ ?_
        · refine sn_iconst (v := (4 : Int32)) (pc' := 328) dX12_next_327 rfl (by decide) ?_
          refine sn_goto (pc' := 332) dX12_next_328 rfl ?_
          refine sn_pI (k := 21) (pc' := 335) ci_13 rfl (Or.inl tw1299) (Or.inl rfl) rfl dX12_next_332 rfl (fun _ => ?_)
          exact sn_vret dX12_next_335 rfl
        · refine sn_iload_n (v := v6) (pc' := 298) dX12_next_297 rfl rfl rfl ?_
          refine sn_bipush (v := (41 : Int32)) (pc' := 300) dX12_next_298 rfl (by decide) ?_
          refine sn_ic_eq (pt := 327) (pf := 303) dX12_next_300 rfl rfl ?_ ?_
          · refine sn_iconst (v := (4 : Int32)) (pc' := 328) dX12_next_327 rfl (by decide) ?_
            refine sn_goto (pc' := 332) dX12_next_328 rfl ?_
            refine sn_pI (k := 21) (pc' := 335) ci_13 rfl (Or.inl tw1299) (Or.inl rfl) rfl dX12_next_332 rfl (fun _ => ?_)
            exact sn_vret dX12_next_335 rfl
          · refine sn_iload_n (v := v6) (pc' := 304) dX12_next_303 rfl rfl rfl ?_
            refine sn_bipush (v := (44 : Int32)) (pc' := 306) dX12_next_304 rfl (by decide) ?_
            refine sn_ic_eq (pt := 327) (pf := 309) dX12_next_306 rfl rfl ?_ ?_
            · refine sn_iconst (v := (4 : Int32)) (pc' := 328) dX12_next_327 rfl (by decide) ?_
              refine sn_goto (pc' := 332) dX12_next_328 rfl ?_
              refine sn_pI (k := 21) (pc' := 335) ci_13 rfl (Or.inl tw1299) (Or.inl rfl) rfl dX12_next_332 rfl (fun _ => ?_)
              exact sn_vret dX12_next_335 rfl
            · refine sn_iload_n (v := v6) (pc' := 310) dX12_next_309 rfl rfl rfl ?_
              refine sn_bipush (v := (45 : Int32)) (pc' := 312) dX12_next_310 rfl (by decide) ?_
              refine sn_ic_eq (pt := 327) (pf := 315) dX12_next_312 rfl rfl ?_ ?_
              · refine sn_iconst (v := (4 : Int32)) (pc' := 328) dX12_next_327 rfl (by decide) ?_
                refine sn_goto (pc' := 332) dX12_next_328 rfl ?_
                refine sn_pI (k := 21) (pc' := 335) ci_13 rfl (Or.inl tw1299) (Or.inl rfl) rfl dX12_next_332 rfl (fun _ => ?_)
                exact sn_vret dX12_next_335 rfl
              · refine sn_iload_n (v := v6) (pc' := 316) dX12_next_315 rfl rfl rfl ?_
                refine sn_bipush (v := (43 : Int32)) (pc' := 318) dX12_next_316 rfl (by decide) ?_
                refine sn_ic_eq (pt := 327) (pf := 321) dX12_next_318 rfl rfl ?_ ?_
                · refine sn_iconst (v := (4 : Int32)) (pc' := 328) dX12_next_327 rfl (by decide) ?_
                  refine sn_goto (pc' := 332) dX12_next_328 rfl ?_
                  refine sn_pI (k := 21) (pc' := 335) ci_13 rfl (Or.inl tw1299) (Or.inl rfl) rfl dX12_next_332 rfl (fun _ => ?_)
                  exact sn_vret dX12_next_335 rfl
                · refine sn_iload_n (v := v6) (pc' := 322) dX12_next_321 rfl rfl rfl ?_
                  refine sn_bipush (v := (61 : Int32)) (pc' := 324) dX12_next_322 rfl (by decide) ?_
                  refine sn_ic_ne (pt := 331) (pf := 327) dX12_next_324 rfl rfl ?_ ?_
                  · refine sn_iconst (v := (4 : Int32)) (pc' := 328) dX12_next_327 rfl (by decide) ?_
                    refine sn_goto (pc' := 332) dX12_next_328 rfl ?_
                    refine sn_pI (k := 21) (pc' := 335) ci_13 rfl (Or.inl tw1299) (Or.inl rfl) rfl dX12_next_332 rfl (fun _ => ?_)
                    exact sn_vret dX12_next_335 rfl
                  · refine sn_iconst (v := (1 : Int32)) (pc' := 332) dX12_next_331 rfl (by decide) ?_
                    refine sn_pI (k := 21) (pc' := 335) ci_13 rfl (Or.inl tw1299) (Or.inl rfl) rfl dX12_next_332 rfl (fun _ => ?_)
                    exact sn_vret dX12_next_335 rfl
      · exact sn_weak (le_s (le_n le_e)) (s_X12_next_170 G LFU this)
    · exact sn_weak (le_s (le_n le_e)) (s_X12_next_89 G LFU this)
set_option maxRecDepth 100000 in
set_option maxHeartbeats 4000000 in
theorem s_X12_next_0_st (G : GG)   (k0 : Nat → MM Unit) (hk0 : ∀ (this : Nat), Sn G yX12_next cX12_next 2 none 6 131 (fun _ : Unit => none) (k0 this) 0 [some (va_rf (some this)), none] []) (this : Nat) : Sn G yX12_next cX12_next 2 none 6 131 (fun _ : Unit => none) (X12_next_0_st  k0 this) 0 [some (va_rf (some this)), none] [] := by
  unfold X12_next_0_st
  refine sn_aload_n (v := (some this)) (pc' := 1) dX12_next_0 rfl rfl rfl ?_
  refine sn_gI (k := 19) (pc' := 4) ci_13 rfl (Or.inl tw1297) dX12_next_1 rfl (fun v1 => ?_)
  refine sn_aload_n (v := (some this)) (pc' := 5) dX12_next_4 rfl rfl rfl ?_
  refine sn_gI (k := 1) (pc' := 8) ci_13 rfl (Or.inl tw1279) dX12_next_5 rfl (fun v2 => ?_)
  refine sn_ic_ge (pt := 38) (pf := 11) dX12_next_8 rfl rfl ?_ ?_
  · exact sn_weak (le_s (le_n le_e)) (s_X12_next_38 G this)
  · refine sn_aload_n (v := (some this)) (pc' := 12) dX12_next_11 rfl rfl rfl ?_
    refine sn_gR (k := 0) (pc' := 15) ci_13 rfl (Or.inl tw1278) dX12_next_12 rfl (fun v3 => ?_)
    refine sn_aload_n (v := (some this)) (pc' := 16) dX12_next_15 rfl rfl rfl ?_
    refine sn_gI (k := 19) (pc' := 19) ci_13 rfl (Or.inl tw1297) dX12_next_16 rfl (fun v4 => ?_)
    refine sn_aI (pc' := 20) dX12_next_19 rfl (fun v5 => ?_)
    refine sn_bipush (v := (32 : Int32)) (pc' := 22) dX12_next_20 rfl (by decide) ?_
    refine sn_ic_ne (pt := 38) (pf := 25) dX12_next_22 rfl rfl ?_ ?_
    · refine sn_aload_n (v := (some this)) (pc' := 26) dX12_next_25 rfl rfl rfl ?_
      refine sn_dup (pc' := 27) dX12_next_26 rfl (cat_rf _) ?_
      refine sn_gI (k := 19) (pc' := 30) ci_13 rfl (Or.inl tw1297) dX12_next_27 rfl (fun v6 => ?_)
      refine sn_iconst (v := (1 : Int32)) (pc' := 31) dX12_next_30 rfl (by decide) ?_
      refine sn_iadd (pc' := 32) dX12_next_31 rfl ?_
      refine sn_pI (k := 19) (pc' := 35) ci_13 rfl (Or.inl tw1297) (Or.inl rfl) rfl dX12_next_32 rfl (fun _ => ?_)
      refine sn_goto (pc' := 0) dX12_next_35 rfl ?_
      exact sn_weak (le_s (le_n le_e)) (hk0 this)
    · exact sn_weak (le_s (le_n le_e)) (s_X12_next_38 G this)
set_option maxRecDepth 100000 in
set_option maxHeartbeats 4000000 in
theorem s_X12_next_0 (G : GG)   : ∀ (n : Nat) (this : Nat), Sn G yX12_next cX12_next 2 none 6 131 (fun _ : Unit => none) (X12_next_0  n this) 0 [some (va_rf (some this)), none] [] := by
  intro n
  induction n with
  | zero => intro this; exact sn_mf
  | succ n ih => intro this; exact s_X12_next_0_st G   (X12_next_0  n) ih this
set_option maxRecDepth 100000 in
set_option maxHeartbeats 4000000 in
theorem s_X12_next (G : GG) (this : Nat) : Sn G yX12_next cX12_next 2 none 6 131 (fun _ : Unit => none) (X12_next this) 0 [some (va_rf (some this)), none] [] := by
  unfold X12_next
  exact sn_weak (le_s (le_n le_e)) (s_X12_next_0 G LFU this)
theorem c_X12_next (G : GG) (this : Nat) : Cal G yX12_next cX12_next 2 none 6 131 (fun _ : Unit => none) (X12_next this) [.ref this] :=
  Cal.of (by decide) (cat_t cat_nil) rfl (sn_weak (le_s (le_z le_e)) (s_X12_next G this))
theorem cw_X12_next : CW yX12_next cX12_next 2 none 0 := ⟨tw1457, tw15, by decide, by decide +kernel⟩
/-! X12_isMark -/
theorem dX12_isMark_0 : decode cX12_isMark 0 = .ok (.aload_n 0, 1) := by decide +kernel
theorem dX12_isMark_1 : decode cX12_isMark 1 = .ok (.getfield 93, 3) := by decide +kernel
theorem dX12_isMark_4 : decode cX12_isMark 4 = .ok (.iconst 4, 1) := by decide +kernel
theorem dX12_isMark_5 : decode cX12_isMark 5 = .ok (.if_icmp .ne 15, 3) := by decide +kernel
theorem dX12_isMark_8 : decode cX12_isMark 8 = .ok (.aload_n 0, 1) := by decide +kernel
theorem dX12_isMark_9 : decode cX12_isMark 9 = .ok (.getfield 96, 3) := by decide +kernel
theorem dX12_isMark_12 : decode cX12_isMark 12 = .ok (.iload_n 1, 1) := by decide +kernel
theorem dX12_isMark_13 : decode cX12_isMark 13 = .ok (.if_icmp .ne 7, 3) := by decide +kernel
theorem dX12_isMark_16 : decode cX12_isMark 16 = .ok (.iconst 1, 1) := by decide +kernel
theorem dX12_isMark_17 : decode cX12_isMark 17 = .ok (.goto 4, 3) := by decide +kernel
theorem dX12_isMark_20 : decode cX12_isMark 20 = .ok (.iconst 0, 1) := by decide +kernel
theorem dX12_isMark_21 : decode cX12_isMark 21 = .ok (.ireturn, 1) := by decide +kernel
def X12_isMark (this : Nat) (a1 : Int32) : MM Int32 :=
  mb (gI 13 (some this) 21) fun v1 =>
  if v1 = (4 : Int32) then (mb (gI 13 (some this) 22) fun v2 =>
  if v2 = a1 then (mr (1 : Int32)) else (mr (0 : Int32))) else (mr (0 : Int32))
set_option maxRecDepth 100000 in
set_option maxHeartbeats 4000000 in
theorem s_X12_isMark (G : GG) (this : Nat) (a1 : Int32) : Sn G yX12_isMark cX12_isMark 2 (some FieldType.boolean) 0 0 (fun v : Int32 => some (.int v)) (X12_isMark this a1) 0 [some (va_rf (some this)), some (.int a1)] [] := by
  unfold X12_isMark
  refine sn_aload_n (v := (some this)) (pc' := 1) dX12_isMark_0 rfl rfl rfl ?_
  refine sn_gI (k := 21) (pc' := 4) ci_13 rfl (Or.inl tw1299) dX12_isMark_1 rfl (fun v1 => ?_)
  refine sn_iconst (v := (4 : Int32)) (pc' := 5) dX12_isMark_4 rfl (by decide) ?_
  refine sn_ic_ne (pt := 20) (pf := 8) dX12_isMark_5 rfl rfl ?_ ?_
  · refine sn_aload_n (v := (some this)) (pc' := 9) dX12_isMark_8 rfl rfl rfl ?_
    refine sn_gI (k := 22) (pc' := 12) ci_13 rfl (Or.inl tw1300) dX12_isMark_9 rfl (fun v2 => ?_)
    refine sn_iload_n (v := a1) (pc' := 13) dX12_isMark_12 rfl rfl rfl ?_
    refine sn_ic_ne (pt := 20) (pf := 16) dX12_isMark_13 rfl rfl ?_ ?_
    · refine sn_iconst (v := (1 : Int32)) (pc' := 17) dX12_isMark_16 rfl (by decide) ?_
      refine sn_goto (pc' := 21) dX12_isMark_17 rfl ?_
      exact sn_iret dX12_isMark_21 rfl (by decide)
    · refine sn_iconst (v := (0 : Int32)) (pc' := 21) dX12_isMark_20 rfl (by decide) ?_
      exact sn_iret dX12_isMark_21 rfl (by decide)
  · refine sn_iconst (v := (0 : Int32)) (pc' := 21) dX12_isMark_20 rfl (by decide) ?_
    exact sn_iret dX12_isMark_21 rfl (by decide)
theorem c_X12_isMark (G : GG) (this : Nat) (a1 : Int32) : Cal G yX12_isMark cX12_isMark 2 (some FieldType.boolean) 0 0 (fun v : Int32 => some (.int v)) (X12_isMark this a1) [.ref this, .int a1] :=
  Cal.of (by decide) (cat_t (cat_i cat_nil)) rfl (sn_weak (le_s (le_s le_e)) (s_X12_isMark G this a1))
theorem cw_X12_isMark : CW yX12_isMark cX12_isMark 2 (some FieldType.boolean) 1 := ⟨tw1487, tw15, by decide, by decide +kernel⟩
/-! X12_take -/
theorem dX12_take_0 : decode cX12_take 0 = .ok (.aload_n 0, 1) := by decide +kernel
theorem dX12_take_1 : decode cX12_take 1 = .ok (.aload_n 0, 1) := by decide +kernel
theorem dX12_take_2 : decode cX12_take 2 = .ok (.getfield 102, 3) := by decide +kernel
theorem dX12_take_5 : decode cX12_take 5 = .ok (.ifCond .eq 15, 3) := by decide +kernel
theorem dX12_take_8 : decode cX12_take 8 = .ok (.aload_n 0, 1) := by decide +kernel
theorem dX12_take_9 : decode cX12_take 9 = .ok (.getfield 93, 3) := by decide +kernel
theorem dX12_take_12 : decode cX12_take 12 = .ok (.iload_n 1, 1) := by decide +kernel
theorem dX12_take_13 : decode cX12_take 13 = .ok (.if_icmp .ne 7, 3) := by decide +kernel
theorem dX12_take_16 : decode cX12_take 16 = .ok (.iconst 1, 1) := by decide +kernel
theorem dX12_take_17 : decode cX12_take 17 = .ok (.goto 4, 3) := by decide +kernel
theorem dX12_take_20 : decode cX12_take 20 = .ok (.iconst 0, 1) := by decide +kernel
theorem dX12_take_21 : decode cX12_take 21 = .ok (.putfield 102, 3) := by decide +kernel
theorem dX12_take_24 : decode cX12_take 24 = .ok (.aload_n 0, 1) := by decide +kernel
theorem dX12_take_25 : decode cX12_take 25 = .ok (.getfield 102, 3) := by decide +kernel
theorem dX12_take_28 : decode cX12_take 28 = .ok (.ifCond .ne 5, 3) := by decide +kernel
theorem dX12_take_31 : decode cX12_take 31 = .ok (.iconst 0, 1) := by decide +kernel
theorem dX12_take_32 : decode cX12_take 32 = .ok (.ireturn, 1) := by decide +kernel
theorem dX12_take_33 : decode cX12_take 33 = .ok (.aload_n 0, 1) := by decide +kernel
theorem dX12_take_34 : decode cX12_take 34 = .ok (.getfield 96, 3) := by decide +kernel
theorem dX12_take_37 : decode cX12_take 37 = .ok (.istore_n 2, 1) := by decide +kernel
theorem dX12_take_38 : decode cX12_take 38 = .ok (.aload_n 0, 1) := by decide +kernel
theorem dX12_take_39 : decode cX12_take 39 = .ok (.invokevirtual 106, 3) := by decide +kernel
theorem dX12_take_42 : decode cX12_take 42 = .ok (.iload_n 2, 1) := by decide +kernel
theorem dX12_take_43 : decode cX12_take 43 = .ok (.ireturn, 1) := by decide +kernel
def X12_take_21  (this : Nat) (y0 : Int32) : MM Int32 :=
  mb (pZ 13 (some this) 23 y0) fun _ =>
  mb (gI 13 (some this) 23) fun v1 =>
  if v1 = 0 then (mr (0 : Int32)) else (mb (gI 13 (some this) 22) fun v2 =>
  mb (wc 13 (some this) fun t => X12_next t ) fun _ =>
  mr v2)
def X12_take_20  (this : Nat) : MM Int32 :=
  (X12_take_21 this (0 : Int32))
def X12_take (this : Nat) (a1 : Int32) : MM Int32 :=
  mb (gI 13 (some this) 23) fun v1 =>
  if v1 = 0 then ((X12_take_20 this)) else (mb (gI 13 (some this) 21) fun v2 =>
  if v2 = a1 then ((X12_take_21 this (1 : Int32))) else ((X12_take_20 this)))
set_option maxRecDepth 100000 in
set_option maxHeartbeats 4000000 in
theorem s_X12_take_21 (G : GG)   (this : Nat) (y0 : Int32) : Sn G yX12_take cX12_take 3 (some FieldType.int) 7 152 (fun v : Int32 => some (.int v)) (X12_take_21  this y0) 21 [some (va_rf (some this)), none, none] [.int y0, va_rf (some this)] := by
  unfold X12_take_21
  refine sn_pZ (k := 23) (pc' := 24) ci_13 rfl (Or.inl tw1301) (Or.inl rfl) rfl dX12_take_21 rfl (fun _ => ?_)
  refine sn_aload_n (v := (some this)) (pc' := 25) dX12_take_24 rfl rfl rfl ?_
  refine sn_gI (k := 23) (pc' := 28) ci_13 rfl (Or.inl tw1301) dX12_take_25 rfl (fun v1 => ?_)
  refine sn_if_ne (pt := 33) (pf := 31) dX12_take_28 rfl rfl ?_ ?_
  · refine sn_iconst (v := (0 : Int32)) (pc' := 32) dX12_take_31 rfl (by decide) ?_
    exact sn_iret dX12_take_32 rfl rfl
  · refine sn_aload_n (v := (some this)) (pc' := 34) dX12_take_33 rfl rfl rfl ?_
    refine sn_gI (k := 22) (pc' := 37) ci_13 rfl (Or.inl tw1300) dX12_take_34 rfl (fun v2 => ?_)
    refine sn_istore_n (v := v2) (L' := [some (va_rf (some this)), none, some (.int v2)]) (pc' := 38) dX12_take_37 rfl rfl rfl rfl ?_
    refine sn_aload_n (v := (some this)) (pc' := 39) dX12_take_38 rfl rfl rfl ?_
    refine sn_cV (r := (some this)) (st := []) (As := []) (st2 := (fun _ => [])) (pc' := 42) ci_13 (fun t => c_X12_next G t ) cw_X12_next rfl rfl tw1454 pw47 tw1456 rfl rfl cat_nil rfl (fun _ => rfl) dX12_take_39 rfl (fun _ => ?_)
    refine sn_iload_n (v := v2) (pc' := 43) dX12_take_42 rfl rfl rfl ?_
    exact sn_iret dX12_take_43 rfl rfl
set_option maxRecDepth 100000 in
set_option maxHeartbeats 4000000 in
theorem s_X12_take_20 (G : GG)   (this : Nat) : Sn G yX12_take cX12_take 3 (some FieldType.int) 7 152 (fun v : Int32 => some (.int v)) (X12_take_20  this) 20 [some (va_rf (some this)), none, none] [va_rf (some this)] := by
  unfold X12_take_20
  refine sn_iconst (v := (0 : Int32)) (pc' := 21) dX12_take_20 rfl (by decide) ?_
  exact sn_weak (le_s (le_n (le_n le_e))) (s_X12_take_21 G this (0 : Int32))
set_option maxRecDepth 100000 in
set_option maxHeartbeats 4000000 in
theorem s_X12_take (G : GG) (this : Nat) (a1 : Int32) : Sn G yX12_take cX12_take 3 (some FieldType.int) 7 152 (fun v : Int32 => some (.int v)) (X12_take this a1) 0 [some (va_rf (some this)), some (.int a1), none] [] := by
  unfold X12_take
  refine sn_aload_n (v := (some this)) (pc' := 1) dX12_take_0 rfl rfl rfl ?_
  refine sn_aload_n (v := (some this)) (pc' := 2) dX12_take_1 rfl rfl rfl ?_
  refine sn_gI (k := 23) (pc' := 5) ci_13 rfl (Or.inl tw1301) dX12_take_2 rfl (fun v1 => ?_)
  refine sn_if_eq (pt := 20) (pf := 8) dX12_take_5 rfl rfl ?_ ?_
  · exact sn_weak (le_s (le_n (le_n le_e))) (s_X12_take_20 G this)
  · refine sn_aload_n (v := (some this)) (pc' := 9) dX12_take_8 rfl rfl rfl ?_
    refine sn_gI (k := 21) (pc' := 12) ci_13 rfl (Or.inl tw1299) dX12_take_9 rfl (fun v2 => ?_)
    refine sn_iload_n (v := a1) (pc' := 13) dX12_take_12 rfl rfl rfl ?_
    refine sn_ic_ne (pt := 20) (pf := 16) dX12_take_13 rfl rfl ?_ ?_
    · refine sn_iconst (v := (1 : Int32)) (pc' := 17) dX12_take_16 rfl (by decide) ?_
      refine sn_goto (pc' := 21) dX12_take_17 rfl ?_
      exact sn_weak (le_s (le_n (le_n le_e))) (s_X12_take_21 G this (1 : Int32))
    · exact sn_weak (le_s (le_n (le_n le_e))) (s_X12_take_20 G this)
theorem c_X12_take (G : GG) (this : Nat) (a1 : Int32) : Cal G yX12_take cX12_take 3 (some FieldType.int) 7 152 (fun v : Int32 => some (.int v)) (X12_take this a1) [.ref this, .int a1] :=
  Cal.of (by decide) (cat_t (cat_i cat_nil)) rfl (sn_weak (le_s (le_s (le_z le_e))) (s_X12_take G this a1))
theorem cw_X12_take : CW yX12_take cX12_take 3 (some FieldType.int) 1 := ⟨tw1479, tw15, by decide, by decide +kernel⟩
/-! X12_must -/
theorem dX12_must_0 : decode cX12_must 0 = .ok (.aload_n 0, 1) := by decide +kernel
theorem dX12_must_1 : decode cX12_must 1 = .ok (.aload_n 0, 1) := by decide +kernel
theorem dX12_must_2 : decode cX12_must 2 = .ok (.getfield 102, 3) := by decide +kernel
theorem dX12_must_5 : decode cX12_must 5 = .ok (.ifCond .eq 15, 3) := by decide +kernel
theorem dX12_must_8 : decode cX12_must 8 = .ok (.aload_n 0, 1) := by decide +kernel
theorem dX12_must_9 : decode cX12_must 9 = .ok (.iload_n 1, 1) := by decide +kernel
theorem dX12_must_10 : decode cX12_must 10 = .ok (.invokevirtual 110, 3) := by decide +kernel
theorem dX12_must_13 : decode cX12_must 13 = .ok (.ifCond .eq 7, 3) := by decide +kernel
theorem dX12_must_16 : decode cX12_must 16 = .ok (.iconst 1, 1) := by decide +kernel
theorem dX12_must_17 : decode cX12_must 17 = .ok (.goto 4, 3) := by decide +kernel
theorem dX12_must_20 : decode cX12_must 20 = .ok (.iconst 0, 1) := by decide +kernel
theorem dX12_must_21 : decode cX12_must 21 = .ok (.putfield 102, 3) := by decide +kernel
theorem dX12_must_24 : decode cX12_must 24 = .ok (.aload_n 0, 1) := by decide +kernel
theorem dX12_must_25 : decode cX12_must 25 = .ok (.getfield 102, 3) := by decide +kernel
theorem dX12_must_28 : decode cX12_must 28 = .ok (.ifCond .eq 7, 3) := by decide +kernel
theorem dX12_must_31 : decode cX12_must 31 = .ok (.aload_n 0, 1) := by decide +kernel
theorem dX12_must_32 : decode cX12_must 32 = .ok (.invokevirtual 106, 3) := by decide +kernel
theorem dX12_must_35 : decode cX12_must 35 = .ok (.return_, 1) := by decide +kernel
def X12_must_21  (this : Nat) (y0 : Int32) : MM Unit :=
  mb (pZ 13 (some this) 23 y0) fun _ =>
  mb (gI 13 (some this) 23) fun v1 =>
  if v1 = 0 then (mr ()) else (mb (wc 13 (some this) fun t => X12_next t ) fun _ =>
  mr ())
def X12_must_20  (this : Nat) : MM Unit :=
  (X12_must_21 this (0 : Int32))
def X12_must (this : Nat) (a1 : Int32) : MM Unit :=
  mb (gI 13 (some this) 23) fun v1 =>
  if v1 = 0 then ((X12_must_20 this)) else (mb (wc 13 (some this) fun t => X12_isMark t a1) fun v2 =>
  if v2 = 0 then ((X12_must_20 this)) else ((X12_must_21 this (1 : Int32))))
set_option maxRecDepth 100000 in
set_option maxHeartbeats 4000000 in
theorem s_X12_must_21 (G : GG)   (this : Nat) (y0 : Int32) : Sn G yX12_must cX12_must 2 none 7 152 (fun _ : Unit => none) (X12_must_21  this y0) 21 [some (va_rf (some this)), none] [.int y0, va_rf (some this)] := by
  unfold X12_must_21
  refine sn_pZ (k := 23) (pc' := 24) ci_13 rfl (Or.inl tw1301) (Or.inl rfl) rfl dX12_must_21 rfl (fun _ => ?_)
  refine sn_aload_n (v := (some this)) (pc' := 25) dX12_must_24 rfl rfl rfl ?_
  refine sn_gI (k := 23) (pc' := 28) ci_13 rfl (Or.inl tw1301) dX12_must_25 rfl (fun v1 => ?_)
  refine sn_if_eq (pt := 35) (pf := 31) dX12_must_28 rfl rfl ?_ ?_
  · exact sn_vret dX12_must_35 rfl
  · refine sn_aload_n (v := (some this)) (pc' := 32) dX12_must_31 rfl rfl rfl ?_
    refine sn_cV (r := (some this)) (st := []) (As := []) (st2 := (fun _ => [])) (pc' := 35) ci_13 (fun t => c_X12_next G t ) cw_X12_next rfl rfl tw1454 pw47 tw1456 rfl rfl cat_nil rfl (fun _ => rfl) dX12_must_32 rfl (fun _ => ?_)
    exact sn_vret dX12_must_35 rfl
set_option maxRecDepth 100000 in
set_option maxHeartbeats 4000000 in
theorem s_X12_must_20 (G : GG)   (this : Nat) : Sn G yX12_must cX12_must 2 none 7 152 (fun _ : Unit => none) (X12_must_20  this) 20 [some (va_rf (some this)), none] [va_rf (some this)] := by
  unfold X12_must_20
  refine sn_iconst (v := (0 : Int32)) (pc' := 21) dX12_must_20 rfl (by decide) ?_
  exact sn_weak (le_s (le_n le_e)) (s_X12_must_21 G this (0 : Int32))
set_option maxRecDepth 100000 in
set_option maxHeartbeats 4000000 in
theorem s_X12_must (G : GG) (this : Nat) (a1 : Int32) : Sn G yX12_must cX12_must 2 none 7 152 (fun _ : Unit => none) (X12_must this a1) 0 [some (va_rf (some this)), some (.int a1)] [] := by
  unfold X12_must
  refine sn_aload_n (v := (some this)) (pc' := 1) dX12_must_0 rfl rfl rfl ?_
  refine sn_aload_n (v := (some this)) (pc' := 2) dX12_must_1 rfl rfl rfl ?_
  refine sn_gI (k := 23) (pc' := 5) ci_13 rfl (Or.inl tw1301) dX12_must_2 rfl (fun v1 => ?_)
  refine sn_if_eq (pt := 20) (pf := 8) dX12_must_5 rfl rfl ?_ ?_
  · exact sn_weak (le_s (le_n le_e)) (s_X12_must_20 G this)
  · refine sn_aload_n (v := (some this)) (pc' := 9) dX12_must_8 rfl rfl rfl ?_
    refine sn_iload_n (v := a1) (pc' := 10) dX12_must_9 rfl rfl rfl ?_
    refine sn_cV (r := (some this)) (st := [va_rf (some this)]) (As := [.int a1]) (st2 := (fun v => .int v :: [va_rf (some this)])) (pc' := 13) ci_13 (fun t => c_X12_isMark G t a1) cw_X12_isMark rfl rfl tw1484 pw53 tw1486 rfl rfl (cat_q cat_nil) rfl (fun _ => rfl) dX12_must_10 rfl (fun v2 => ?_)
    refine sn_if_eq (pt := 20) (pf := 16) dX12_must_13 rfl rfl ?_ ?_
    · exact sn_weak (le_s (le_n le_e)) (s_X12_must_20 G this)
    · refine sn_iconst (v := (1 : Int32)) (pc' := 17) dX12_must_16 rfl (by decide) ?_
      refine sn_goto (pc' := 21) dX12_must_17 rfl ?_
      exact sn_weak (le_s (le_n le_e)) (s_X12_must_21 G this (1 : Int32))
theorem c_X12_must (G : GG) (this : Nat) (a1 : Int32) : Cal G yX12_must cX12_must 2 none 7 152 (fun _ : Unit => none) (X12_must this a1) [.ref this, .int a1] :=
  Cal.of (by decide) (cat_t (cat_i cat_nil)) rfl (sn_weak (le_s (le_s le_e)) (s_X12_must G this a1))
theorem cw_X12_must : CW yX12_must cX12_must 2 none 1 := ⟨tw1499, tw15, by decide, by decide +kernel⟩
/-! X12_goes -/
theorem dX12_goes_0 : decode cX12_goes 0 = .ok (.aload_n 0, 1) := by decide +kernel
theorem dX12_goes_1 : decode cX12_goes 1 = .ok (.getfield 102, 3) := by decide +kernel
theorem dX12_goes_4 : decode cX12_goes 4 = .ok (.ifCond .eq 15, 3) := by decide +kernel
theorem dX12_goes_7 : decode cX12_goes 7 = .ok (.aload_n 0, 1) := by decide +kernel
theorem dX12_goes_8 : decode cX12_goes 8 = .ok (.iload_n 1, 1) := by decide +kernel
theorem dX12_goes_9 : decode cX12_goes 9 = .ok (.invokevirtual 110, 3) := by decide +kernel
theorem dX12_goes_12 : decode cX12_goes 12 = .ok (.ifCond .eq 7, 3) := by decide +kernel
theorem dX12_goes_15 : decode cX12_goes 15 = .ok (.iconst 1, 1) := by decide +kernel
theorem dX12_goes_16 : decode cX12_goes 16 = .ok (.goto 4, 3) := by decide +kernel
theorem dX12_goes_19 : decode cX12_goes 19 = .ok (.iconst 0, 1) := by decide +kernel
theorem dX12_goes_20 : decode cX12_goes 20 = .ok (.istore_n 2, 1) := by decide +kernel
theorem dX12_goes_21 : decode cX12_goes 21 = .ok (.iload_n 2, 1) := by decide +kernel
theorem dX12_goes_22 : decode cX12_goes 22 = .ok (.ifCond .eq 7, 3) := by decide +kernel
theorem dX12_goes_25 : decode cX12_goes 25 = .ok (.aload_n 0, 1) := by decide +kernel
theorem dX12_goes_26 : decode cX12_goes 26 = .ok (.invokevirtual 106, 3) := by decide +kernel
theorem dX12_goes_29 : decode cX12_goes 29 = .ok (.iload_n 2, 1) := by decide +kernel
theorem dX12_goes_30 : decode cX12_goes 30 = .ok (.ireturn, 1) := by decide +kernel
def X12_goes_20  (this : Nat) (y0 : Int32) : MM Int32 :=
  if y0 = 0 then (mb (nzI y0) fun v1 =>
  mr v1) else (mb (wc 13 (some this) fun t => X12_next t ) fun _ =>
  mb (nzI y0) fun v2 =>
  mr v2)
def X12_goes_19  (this : Nat) : MM Int32 :=
  (X12_goes_20 this (0 : Int32))
def X12_goes (this : Nat) (a1 : Int32) : MM Int32 :=
  mb (gI 13 (some this) 23) fun v1 =>
  if v1 = 0 then ((X12_goes_19 this)) else (mb (wc 13 (some this) fun t => X12_isMark t a1) fun v2 =>
  if v2 = 0 then ((X12_goes_19 this)) else ((X12_goes_20 this (1 : Int32))))
set_option maxRecDepth 100000 in
set_option maxHeartbeats 4000000 in
theorem s_X12_goes_20 (G : GG)   (this : Nat) (y0 : Int32) : Sn G yX12_goes cX12_goes 3 (some FieldType.boolean) 7 152 (fun v : Int32 => some (.int v)) (X12_goes_20  this y0) 20 [some (va_rf (some this)), none, none] [.int y0] := by
  unfold X12_goes_20
  refine sn_istore_n (v := y0) (L' := [some (va_rf (some this)), none, some (.int y0)]) (pc' := 21) dX12_goes_20 rfl rfl rfl rfl ?_
  refine sn_iload_n (v := y0) (pc' := 22) dX12_goes_21 rfl rfl rfl ?_
  refine sn_if_eq (pt := 29) (pf := 25) dX12_goes_22 rfl rfl ?_ ?_
  · refine sn_iload_n (v := y0) (pc' := 30) dX12_goes_29 rfl rfl rfl ?_
    refine sn_nz01 (fun v1 hz => ?_)
    exact sn_iret dX12_goes_30 rfl (nar_b hz)
  · refine sn_aload_n (v := (some this)) (pc' := 26) dX12_goes_25 rfl rfl rfl ?_
    refine sn_cV (r := (some this)) (st := []) (As := []) (st2 := (fun _ => [])) (pc' := 29) ci_13 (fun t => c_X12_next G t ) cw_X12_next rfl rfl tw1454 pw47 tw1456 rfl rfl cat_nil rfl (fun _ => rfl) dX12_goes_26 rfl (fun _ => ?_)
    refine sn_iload_n (v := y0) (pc' := 30) dX12_goes_29 rfl rfl rfl ?_
    refine sn_nz01 (fun v2 hz => ?_)
    exact sn_iret dX12_goes_30 rfl (nar_b hz)
set_option maxRecDepth 100000 in
set_option maxHeartbeats 4000000 in
theorem s_X12_goes_19 (G : GG)   (this : Nat) : Sn G yX12_goes cX12_goes 3 (some FieldType.boolean) 7 152 (fun v : Int32 => some (.int v)) (X12_goes_19  this) 19 [some (va_rf (some this)), none, none] [] := by
  unfold X12_goes_19
  refine sn_iconst (v := (0 : Int32)) (pc' := 20) dX12_goes_19 rfl (by decide) ?_
  exact sn_weak (le_s (le_n (le_n le_e))) (s_X12_goes_20 G this (0 : Int32))
set_option maxRecDepth 100000 in
set_option maxHeartbeats 4000000 in
theorem s_X12_goes (G : GG) (this : Nat) (a1 : Int32) : Sn G yX12_goes cX12_goes 3 (some FieldType.boolean) 7 152 (fun v : Int32 => some (.int v)) (X12_goes this a1) 0 [some (va_rf (some this)), some (.int a1), none] [] := by
  unfold X12_goes
  refine sn_aload_n (v := (some this)) (pc' := 1) dX12_goes_0 rfl rfl rfl ?_
  refine sn_gI (k := 23) (pc' := 4) ci_13 rfl (Or.inl tw1301) dX12_goes_1 rfl (fun v1 => ?_)
  refine sn_if_eq (pt := 19) (pf := 7) dX12_goes_4 rfl rfl ?_ ?_
  · exact sn_weak (le_s (le_n (le_n le_e))) (s_X12_goes_19 G this)
  · refine sn_aload_n (v := (some this)) (pc' := 8) dX12_goes_7 rfl rfl rfl ?_
    refine sn_iload_n (v := a1) (pc' := 9) dX12_goes_8 rfl rfl rfl ?_
    refine sn_cV (r := (some this)) (st := []) (As := [.int a1]) (st2 := (fun v => .int v :: [])) (pc' := 12) ci_13 (fun t => c_X12_isMark G t a1) cw_X12_isMark rfl rfl tw1484 pw53 tw1486 rfl rfl cat_nil rfl (fun _ => rfl) dX12_goes_9 rfl (fun v2 => ?_)
    refine sn_if_eq (pt := 19) (pf := 15) dX12_goes_12 rfl rfl ?_ ?_
    · exact sn_weak (le_s (le_n (le_n le_e))) (s_X12_goes_19 G this)
    · refine sn_iconst (v := (1 : Int32)) (pc' := 16) dX12_goes_15 rfl (by decide) ?_
      refine sn_goto (pc' := 20) dX12_goes_16 rfl ?_
      exact sn_weak (le_s (le_n (le_n le_e))) (s_X12_goes_20 G this (1 : Int32))
theorem c_X12_goes (G : GG) (this : Nat) (a1 : Int32) : Cal G yX12_goes cX12_goes 3 (some FieldType.boolean) 7 152 (fun v : Int32 => some (.int v)) (X12_goes this a1) [.ref this, .int a1] :=
  Cal.of (by decide) (cat_t (cat_i cat_nil)) rfl (sn_weak (le_s (le_s (le_z le_e))) (s_X12_goes G this a1))
theorem cw_X12_goes : CW yX12_goes cX12_goes 3 (some FieldType.boolean) 1 := ⟨tw1483, tw15, by decide, by decide +kernel⟩
/-! X12_begins -/
theorem dX12_begins_0 : decode cX12_begins 0 = .ok (.aload_n 0, 1) := by decide +kernel
theorem dX12_begins_1 : decode cX12_begins 1 = .ok (.iconst 0, 1) := by decide +kernel
theorem dX12_begins_2 : decode cX12_begins 2 = .ok (.putfield 57, 3) := by decide +kernel
theorem dX12_begins_5 : decode cX12_begins 5 = .ok (.aload_n 0, 1) := by decide +kernel
theorem dX12_begins_6 : decode cX12_begins 6 = .ok (.iconst 1, 1) := by decide +kernel
theorem dX12_begins_7 : decode cX12_begins 7 = .ok (.putfield 102, 3) := by decide +kernel
theorem dX12_begins_10 : decode cX12_begins 10 = .ok (.aload_n 0, 1) := by decide +kernel
theorem dX12_begins_11 : decode cX12_begins 11 = .ok (.iconst 0, 1) := by decide +kernel
theorem dX12_begins_12 : decode cX12_begins 12 = .ok (.putfield 114, 3) := by decide +kernel
theorem dX12_begins_15 : decode cX12_begins 15 = .ok (.aload_n 0, 1) := by decide +kernel
theorem dX12_begins_16 : decode cX12_begins 16 = .ok (.invokevirtual 106, 3) := by decide +kernel
theorem dX12_begins_19 : decode cX12_begins 19 = .ok (.return_, 1) := by decide +kernel
def X12_begins (this : Nat) : MM Unit :=
  mb (pI 13 (some this) 19 (0 : Int32)) fun _ =>
  mb (pZ 13 (some this) 23 (1 : Int32)) fun _ =>
  mb (pI 13 (some this) 4 (0 : Int32)) fun _ =>
  mb (wc 13 (some this) fun t => X12_next t ) fun _ =>
  mr ()
set_option maxRecDepth 100000 in
set_option maxHeartbeats 4000000 in
theorem s_X12_begins (G : GG) (this : Nat) : Sn G yX12_begins cX12_begins 1 none 7 152 (fun _ : Unit => none) (X12_begins this) 0 [some (va_rf (some this))] [] := by
  unfold X12_begins
  refine sn_aload_n (v := (some this)) (pc' := 1) dX12_begins_0 rfl rfl rfl ?_
  refine sn_iconst (v := (0 : Int32)) (pc' := 2) dX12_begins_1 rfl (by decide) ?_
  refine sn_pI (k := 19) (pc' := 5) ci_13 rfl (Or.inl tw1297) (Or.inl rfl) rfl dX12_begins_2 rfl (fun _ => ?_)
  refine sn_aload_n (v := (some this)) (pc' := 6) dX12_begins_5 rfl rfl rfl ?_
  refine sn_iconst (v := (1 : Int32)) (pc' := 7) dX12_begins_6 rfl (by decide) ?_
  refine sn_pZ (k := 23) (pc' := 10) ci_13 rfl (Or.inl tw1301) (Or.inl rfl) rfl dX12_begins_7 rfl (fun _ => ?_)
  refine sn_aload_n (v := (some this)) (pc' := 11) dX12_begins_10 rfl rfl rfl ?_
  refine sn_iconst (v := (0 : Int32)) (pc' := 12) dX12_begins_11 rfl (by decide) ?_
  refine sn_pI (k := 4) (pc' := 15) ci_13 rfl (Or.inl tw1282) (Or.inl rfl) rfl dX12_begins_12 rfl (fun _ => ?_)
  refine sn_aload_n (v := (some this)) (pc' := 16) dX12_begins_15 rfl rfl rfl ?_
  refine sn_cV (r := (some this)) (st := []) (As := []) (st2 := (fun _ => [])) (pc' := 19) ci_13 (fun t => c_X12_next G t ) cw_X12_next rfl rfl tw1454 pw47 tw1456 rfl rfl cat_nil rfl (fun _ => rfl) dX12_begins_16 rfl (fun _ => ?_)
  exact sn_vret dX12_begins_19 rfl
theorem c_X12_begins (G : GG) (this : Nat) : Cal G yX12_begins cX12_begins 1 none 7 152 (fun _ : Unit => none) (X12_begins this) [.ref this] :=
  Cal.of (by decide) (cat_t cat_nil) rfl (sn_weak (le_s le_e) (s_X12_begins G this))
theorem cw_X12_begins : CW yX12_begins cX12_begins 1 none 0 := ⟨tw1453, tw15, by decide, by decide +kernel⟩
/-! X12_ends -/
theorem dX12_ends_0 : decode cX12_ends 0 = .ok (.aload_n 0, 1) := by decide +kernel
theorem dX12_ends_1 : decode cX12_ends 1 = .ok (.aload_n 0, 1) := by decide +kernel
theorem dX12_ends_2 : decode cX12_ends 2 = .ok (.getfield 102, 3) := by decide +kernel
theorem dX12_ends_5 : decode cX12_ends 5 = .ok (.ifCond .eq 14, 3) := by decide +kernel
theorem dX12_ends_8 : decode cX12_ends 8 = .ok (.aload_n 0, 1) := by decide +kernel
theorem dX12_ends_9 : decode cX12_ends 9 = .ok (.getfield 93, 3) := by decide +kernel
theorem dX12_ends_12 : decode cX12_ends 12 = .ok (.ifCond .ne 7, 3) := by decide +kernel
theorem dX12_ends_15 : decode cX12_ends 15 = .ok (.iconst 1, 1) := by decide +kernel
theorem dX12_ends_16 : decode cX12_ends 16 = .ok (.goto 4, 3) := by decide +kernel
theorem dX12_ends_19 : decode cX12_ends 19 = .ok (.iconst 0, 1) := by decide +kernel
theorem dX12_ends_20 : decode cX12_ends 20 = .ok (.putfield 102, 3) := by decide +kernel
theorem dX12_ends_23 : decode cX12_ends 23 = .ok (.aload_n 0, 1) := by decide +kernel
theorem dX12_ends_24 : decode cX12_ends 24 = .ok (.aload_n 0, 1) := by decide +kernel
theorem dX12_ends_25 : decode cX12_ends 25 = .ok (.getfield 102, 3) := by decide +kernel
theorem dX12_ends_28 : decode cX12_ends 28 = .ok (.ifCond .eq 8, 3) := by decide +kernel
theorem dX12_ends_31 : decode cX12_ends 31 = .ok (.bipush (-9), 2) := by decide +kernel
theorem dX12_ends_33 : decode cX12_ends 33 = .ok (.goto 7, 3) := by decide +kernel
theorem dX12_ends_36 : decode cX12_ends 36 = .ok (.aload_n 0, 1) := by decide +kernel
theorem dX12_ends_37 : decode cX12_ends 37 = .ok (.getfield 60, 3) := by decide +kernel
theorem dX12_ends_40 : decode cX12_ends 40 = .ok (.putfield 117, 3) := by decide +kernel
theorem dX12_ends_43 : decode cX12_ends 43 = .ok (.aload_n 0, 1) := by decide +kernel
theorem dX12_ends_44 : decode cX12_ends 44 = .ok (.iconst 0, 1) := by decide +kernel
theorem dX12_ends_45 : decode cX12_ends 45 = .ok (.putfield 90, 3) := by decide +kernel
theorem dX12_ends_48 : decode cX12_ends 48 = .ok (.aload_n 0, 1) := by decide +kernel
theorem dX12_ends_49 : decode cX12_ends 49 = .ok (.getfield 102, 3) := by decide +kernel
theorem dX12_ends_52 : decode cX12_ends 52 = .ok (.ireturn, 1) := by decide +kernel
def X12_ends_20  (this : Nat) (y0 : Int32) : MM Int32 :=
  mb (pZ 13 (some this) 23 y0) fun _ =>
  mb (gI 13 (some this) 23) fun v1 =>
  if v1 = 0 then (mb (gI 13 (some this) 20) fun v2 =>
  mb (pI 13 (some this) 3 v2) fun _ =>
  mb (pI 13 (some this) 1 (0 : Int32)) fun _ =>
  mb (gI 13 (some this) 23) fun v3 =>
  mb (nzI v3) fun v4 =>
  mr v4) else (mb (pI 13 (some this) 3 (-9 : Int32)) fun _ =>
  mb (pI 13 (some this) 1 (0 : Int32)) fun _ =>
  mb (gI 13 (some this) 23) fun v5 =>
  mb (nzI v5) fun v6 =>
  mr v6)
def X12_ends_19  (this : Nat) : MM Int32 :=
  (X12_ends_20 this (0 : Int32))
def X12_ends (this : Nat) : MM Int32 :=
  mb (gI 13 (some this) 23) fun v1 =>
  if v1 = 0 then ((X12_ends_19 this)) else (mb (gI 13 (some this) 21) fun v2 =>
  if v2 = 0 then ((X12_ends_20 this (1 : Int32))) else ((X12_ends_19 this)))
set_option maxRecDepth 100000 in
set_option maxHeartbeats 4000000 in
theorem s_X12_ends_20 (G : GG)   (this : Nat) (y0 : Int32) : Sn G yX12_ends cX12_ends 1 (some FieldType.boolean) 0 0 (fun v : Int32 => some (.int v)) (X12_ends_20  this y0) 20 [some (va_rf (some this))] [.int y0, va_rf (some this)] := by
  unfold X12_ends_20
  refine sn_pZ (k := 23) (pc' := 23) ci_13 rfl (Or.inl tw1301) (Or.inl rfl) rfl dX12_ends_20 rfl (fun _ => ?_)
  refine sn_aload_n (v := (some this)) (pc' := 24) dX12_ends_23 rfl rfl rfl ?_
  refine sn_aload_n (v := (some this)) (pc' := 25) dX12_ends_24 rfl rfl rfl ?_
  refine sn_gI (k := 23) (pc' := 28) ci_13 rfl (Or.inl tw1301) dX12_ends_25 rfl (fun v1 => ?_)
  refine sn_if_eq (pt := 36) (pf := 31) dX12_ends_28 rfl rfl ?_ ?_
  · refine sn_aload_n (v := (some this)) (pc' := 37) dX12_ends_36 rfl rfl rfl ?_
    refine sn_gI (k := 20) (pc' := 40) ci_13 rfl (Or.inl tw1298) dX12_ends_37 rfl (fun v2 => ?_)
    refine sn_pI (k := 3) (pc' := 43) ci_13 rfl (Or.inl tw1281) (Or.inl rfl) rfl dX12_ends_40 rfl (fun _ => ?_)
    refine sn_aload_n (v := (some this)) (pc' := 44) dX12_ends_43 rfl rfl rfl ?_
    refine sn_iconst (v := (0 : Int32)) (pc' := 45) dX12_ends_44 rfl (by decide) ?_
    refine sn_pI (k := 1) (pc' := 48) ci_13 rfl (Or.inl tw1279) (Or.inl rfl) rfl dX12_ends_45 rfl (fun _ => ?_)
    refine sn_aload_n (v := (some this)) (pc' := 49) dX12_ends_48 rfl rfl rfl ?_
    refine sn_gI (k := 23) (pc' := 52) ci_13 rfl (Or.inl tw1301) dX12_ends_49 rfl (fun v3 => ?_)
    refine sn_nz01 (fun v4 hz => ?_)
    exact sn_iret dX12_ends_52 rfl (nar_b hz)
  · refine sn_bipush (v := (-9 : Int32)) (pc' := 33) dX12_ends_31 rfl (by decide) ?_
    refine sn_goto (pc' := 40) dX12_ends_33 rfl ?_
    refine sn_pI (k := 3) (pc' := 43) ci_13 rfl (Or.inl tw1281) (Or.inl rfl) rfl dX12_ends_40 rfl (fun _ => ?_)
    refine sn_aload_n (v := (some this)) (pc' := 44) dX12_ends_43 rfl rfl rfl ?_
    refine sn_iconst (v := (0 : Int32)) (pc' := 45) dX12_ends_44 rfl (by decide) ?_
    refine sn_pI (k := 1) (pc' := 48) ci_13 rfl (Or.inl tw1279) (Or.inl rfl) rfl dX12_ends_45 rfl (fun _ => ?_)
    refine sn_aload_n (v := (some this)) (pc' := 49) dX12_ends_48 rfl rfl rfl ?_
    refine sn_gI (k := 23) (pc' := 52) ci_13 rfl (Or.inl tw1301) dX12_ends_49 rfl (fun v5 => ?_)
    refine sn_nz01 (fun v6 hz => ?_)
    exact sn_iret dX12_ends_52 rfl (nar_b hz)
set_option maxRecDepth 100000 in
set_option maxHeartbeats 4000000 in
theorem s_X12_ends_19 (G : GG)   (this : Nat) : Sn G yX12_ends cX12_ends 1 (some FieldType.boolean) 0 0 (fun v : Int32 => some (.int v)) (X12_ends_19  this) 19 [some (va_rf (some this))] [va_rf (some this)] := by
  unfold X12_ends_19
  refine sn_iconst (v := (0 : Int32)) (pc' := 20) dX12_ends_19 rfl (by decide) ?_
  exact sn_weak (le_s le_e) (s_X12_ends_20 G this (0 : Int32))
set_option maxRecDepth 100000 in
set_option maxHeartbeats 4000000 in
theorem s_X12_ends (G : GG) (this : Nat) : Sn G yX12_ends cX12_ends 1 (some FieldType.boolean) 0 0 (fun v : Int32 => some (.int v)) (X12_ends this) 0 [some (va_rf (some this))] [] := by
  unfold X12_ends
  refine sn_aload_n (v := (some this)) (pc' := 1) dX12_ends_0 rfl rfl rfl ?_
  refine sn_aload_n (v := (some this)) (pc' := 2) dX12_ends_1 rfl rfl rfl ?_
  refine sn_gI (k := 23) (pc' := 5) ci_13 rfl (Or.inl tw1301) dX12_ends_2 rfl (fun v1 => ?_)
  refine sn_if_eq (pt := 19) (pf := 8) dX12_ends_5 rfl rfl ?_ ?_
  · exact sn_weak (le_s le_e) (s_X12_ends_19 G this)
  · refine sn_aload_n (v := (some this)) (pc' := 9) dX12_ends_8 rfl rfl rfl ?_
    refine sn_gI (k := 21) (pc' := 12) ci_13 rfl (Or.inl tw1299) dX12_ends_9 rfl (fun v2 => ?_)
    refine sn_if_ne (pt := 19) (pf := 15) dX12_ends_12 rfl rfl ?_ ?_
    · refine sn_iconst (v := (1 : Int32)) (pc' := 16) dX12_ends_15 rfl (by decide) ?_
      refine sn_goto (pc' := 20) dX12_ends_16 rfl ?_
      exact sn_weak (le_s le_e) (s_X12_ends_20 G this (1 : Int32))
    · exact sn_weak (le_s le_e) (s_X12_ends_19 G this)
theorem c_X12_ends (G : GG) (this : Nat) : Cal G yX12_ends cX12_ends 1 (some FieldType.boolean) 0 0 (fun v : Int32 => some (.int v)) (X12_ends this) [.ref this] :=
  Cal.of (by decide) (cat_t cat_nil) rfl (sn_weak (le_s le_e) (s_X12_ends G this))
theorem cw_X12_ends : CW yX12_ends cX12_ends 1 (some FieldType.boolean) 0 := ⟨tw1503, tw15, by decide, by decide +kernel⟩
/-! X12_readChange -/
theorem dX12_readChange_0 : decode cX12_readChange 0 = .ok (.aload_n 0, 1) := by decide +kernel
theorem dX12_readChange_1 : decode cX12_readChange 1 = .ok (.getfield 120, 3) := by decide +kernel
theorem dX12_readChange_4 : decode cX12_readChange 4 = .ok (.istore_n 1, 1) := by decide +kernel
theorem dX12_readChange_5 : decode cX12_readChange 5 = .ok (.aload_n 0, 1) := by decide +kernel
theorem dX12_readChange_6 : decode cX12_readChange 6 = .ok (.getfield 123, 3) := by decide +kernel
theorem dX12_readChange_9 : decode cX12_readChange 9 = .ok (.iload_n 1, 1) := by decide +kernel
theorem dX12_readChange_10 : decode cX12_readChange 10 = .ok (.aload_n 0, 1) := by decide +kernel
theorem dX12_readChange_11 : decode cX12_readChange 11 = .ok (.bipush 45, 2) := by decide +kernel
theorem dX12_readChange_13 : decode cX12_readChange 13 = .ok (.invokevirtual 126, 3) := by decide +kernel
theorem dX12_readChange_16 : decode cX12_readChange 16 = .ok (.ifCond .eq 8, 3) := by decide +kernel
theorem dX12_readChange_19 : decode cX12_readChange 19 = .ok (.bipush 45, 2) := by decide +kernel
theorem dX12_readChange_21 : decode cX12_readChange 21 = .ok (.goto 19, 3) := by decide +kernel
theorem dX12_readChange_24 : decode cX12_readChange 24 = .ok (.aload_n 0, 1) := by decide +kernel
theorem dX12_readChange_25 : decode cX12_readChange 25 = .ok (.bipush 61, 2) := by decide +kernel
theorem dX12_readChange_27 : decode cX12_readChange 27 = .ok (.invokevirtual 126, 3) := by decide +kernel
theorem dX12_readChange_30 : decode cX12_readChange 30 = .ok (.ifCond .eq 8, 3) := by decide +kernel
theorem dX12_readChange_33 : decode cX12_readChange 33 = .ok (.bipush 61, 2) := by decide +kernel
theorem dX12_readChange_35 : decode cX12_readChange 35 = .ok (.goto 5, 3) := by decide +kernel
theorem dX12_readChange_38 : decode cX12_readChange 38 = .ok (.bipush 43, 2) := by decide +kernel
theorem dX12_readChange_40 : decode cX12_readChange 40 = .ok (.iastore, 1) := by decide +kernel
theorem dX12_readChange_41 : decode cX12_readChange 41 = .ok (.aload_n 0, 1) := by decide +kernel
theorem dX12_readChange_42 : decode cX12_readChange 42 = .ok (.getfield 129, 3) := by decide +kernel
theorem dX12_readChange_45 : decode cX12_readChange 45 = .ok (.iload_n 1, 1) := by decide +kernel
theorem dX12_readChange_46 : decode cX12_readChange 46 = .ok (.aload_n 0, 1) := by decide +kernel
theorem dX12_readChange_47 : decode cX12_readChange 47 = .ok (.iconst 2, 1) := by decide +kernel
theorem dX12_readChange_48 : decode cX12_readChange 48 = .ok (.invokevirtual 132, 3) := by decide +kernel
theorem dX12_readChange_51 : decode cX12_readChange 51 = .ok (.iastore, 1) := by decide +kernel
theorem dX12_readChange_52 : decode cX12_readChange 52 = .ok (.aload_n 0, 1) := by decide +kernel
theorem dX12_readChange_53 : decode cX12_readChange 53 = .ok (.getfield 135, 3) := by decide +kernel
theorem dX12_readChange_56 : decode cX12_readChange 56 = .ok (.iload_n 1, 1) := by decide +kernel
theorem dX12_readChange_57 : decode cX12_readChange 57 = .ok (.aload_n 0, 1) := by decide +kernel
theorem dX12_readChange_58 : decode cX12_readChange 58 = .ok (.iconst 3, 1) := by decide +kernel
theorem dX12_readChange_59 : decode cX12_readChange 59 = .ok (.invokevirtual 132, 3) := by decide +kernel
theorem dX12_readChange_62 : decode cX12_readChange 62 = .ok (.iastore, 1) := by decide +kernel
theorem dX12_readChange_63 : decode cX12_readChange 63 = .ok (.aload_n 0, 1) := by decide +kernel
theorem dX12_readChange_64 : decode cX12_readChange 64 = .ok (.getfield 138, 3) := by decide +kernel
theorem dX12_readChange_67 : decode cX12_readChange 67 = .ok (.iload_n 1, 1) := by decide +kernel
theorem dX12_readChange_68 : decode cX12_readChange 68 = .ok (.iconst 0, 1) := by decide +kernel
theorem dX12_readChange_69 : decode cX12_readChange 69 = .ok (.iastore, 1) := by decide +kernel
theorem dX12_readChange_70 : decode cX12_readChange 70 = .ok (.aload_n 0, 1) := by decide +kernel
theorem dX12_readChange_71 : decode cX12_readChange 71 = .ok (.getfield 123, 3) := by decide +kernel
theorem dX12_readChange_74 : decode cX12_readChange 74 = .ok (.iload_n 1, 1) := by decide +kernel
theorem dX12_readChange_75 : decode cX12_readChange 75 = .ok (.iaload, 1) := by decide +kernel
theorem dX12_readChange_76 : decode cX12_readChange 76 = .ok (.bipush 43, 2) := by decide +kernel
theorem dX12_readChange_78 : decode cX12_readChange 78 = .ok (.if_icmp .ne 20, 3) := by decide +kernel
theorem dX12_readChange_81 : decode cX12_readChange 81 = .ok (.aload_n 0, 1) := by decide +kernel
theorem dX12_readChange_82 : decode cX12_readChange 82 = .ok (.bipush 43, 2) := by decide +kernel
theorem dX12_readChange_84 : decode cX12_readChange 84 = .ok (.invokevirtual 141, 3) := by decide +kernel
theorem dX12_readChange_87 : decode cX12_readChange 87 = .ok (.aload_n 0, 1) := by decide +kernel
theorem dX12_readChange_88 : decode cX12_readChange 88 = .ok (.getfield 138, 3) := by decide +kernel
theorem dX12_readChange_91 : decode cX12_readChange 91 = .ok (.iload_n 1, 1) := by decide +kernel
theorem dX12_readChange_92 : decode cX12_readChange 92 = .ok (.aload_n 0, 1) := by decide +kernel
theorem dX12_readChange_93 : decode cX12_readChange 93 = .ok (.iconst 3, 1) := by decide +kernel
theorem dX12_readChange_94 : decode cX12_readChange 94 = .ok (.invokevirtual 132, 3) := by decide +kernel
theorem dX12_readChange_97 : decode cX12_readChange 97 = .ok (.iastore, 1) := by decide +kernel
theorem dX12_readChange_98 : decode cX12_readChange 98 = .ok (.aload_n 0, 1) := by decide +kernel
theorem dX12_readChange_99 : decode cX12_readChange 99 = .ok (.dup, 1) := by decide +kernel
theorem dX12_readChange_100 : decode cX12_readChange 100 = .ok (.getfield 120, 3) := by decide +kernel
theorem dX12_readChange_103 : decode cX12_readChange 103 = .ok (.iconst 1, 1) := by decide +kernel
theorem dX12_readChange_104 : decode cX12_readChange 104 = .ok (.iadd, 1) := by decide +kernel
theorem dX12_readChange_105 : decode cX12_readChange 105 = .ok (.putfield 120, 3) := by decide +kernel
theorem dX12_readChange_108 : decode cX12_readChange 108 = .ok (.return_, 1) := by decide +kernel
def X12_readChange_40  (this : Nat) (x1 : Int32) (y0 : Int32) (y1 : Int32) (y2 : Option Nat) : MM Unit :=
  mb (sI y2 y1 y0) fun _ =>
  mb (gR 13 (some this) 33) fun v1 =>
  mb (wc 13 (some this) fun t => X12_take t (2 : Int32)) fun v2 =>
  mb (sI v1 x1 v2) fun _ =>
  mb (gR 13 (some this) 34) fun v3 =>
  mb (wc 13 (some this) fun t => X12_take t (3 : Int32)) fun v4 =>
  mb (sI v3 x1 v4) fun _ =>
  mb (gR 13 (some this) 35) fun v5 =>
  mb (sI v5 x1 (0 : Int32)) fun _ =>
  mb (gR 13 (some this) 32) fun v6 =>
  mb (aI v6 x1) fun v7 =>
  if v7 = (43 : Int32) then (mb (wc 13 (some this) fun t => X12_must t (43 : Int32)) fun _ =>
  mb (gR 13 (some this) 35) fun v8 =>
  mb (wc 13 (some this) fun t => X12_take t (3 : Int32)) fun v9 =>
  mb (sI v8 x1 v9) fun _ =>
  mb (gI 13 (some this) 25) fun v10 =>
  mb (pI 13 (some this) 25 (v10 + (1 : Int32))) fun _ =>
  mr ()) else (mb (gI 13 (some this) 25) fun v11 =>
  mb (pI 13 (some this) 25 (v11 + (1 : Int32))) fun _ =>
  mr ())
def X12_readChange (this : Nat) : MM Unit :=
  mb (gI 13 (some this) 25) fun v1 =>
  mb (gR 13 (some this) 32) fun v2 =>
  mb (wc 13 (some this) fun t => X12_goes t (45 : Int32)) fun v3 =>
  if v3 = 0 then (mb (wc 13 (some this) fun t => X12_goes t (61 : Int32)) fun v4 =>
  if v4 = 0 then ((X12_readChange_40 this v1 (43 : Int32) v1 v2)) else ((X12_readChange_40 this v1 (61 : Int32) v1 v2))) else ((X12_readChange_40 this v1 (45 : Int32) v1 v2))
set_option maxRecDepth 100000 in
set_option maxHeartbeats 4000000 in
theorem s_X12_readChange_40 (G : GG)   (this : Nat) (x1 : Int32) (y0 : Int32) (y1 : Int32) (y2 : Option Nat) : Sn G yX12_readChange cX12_readChange 2 none 8 174 (fun _ : Unit => none) (X12_readChange_40  this x1 y0 y1 y2) 40 [some (va_rf (some this)), some (.int x1)] [.int y0, .int y1, va_rf y2] := by
  unfold X12_readChange_40
  refine sn_sI (pc' := 41) dX12_readChange_40 rfl (fun _ => ?_)
  refine sn_aload_n (v := (some this)) (pc' := 42) dX12_readChange_41 rfl rfl rfl ?_
  refine sn_gR (k := 33) (pc' := 45) ci_13 rfl (Or.inl tw1311) dX12_readChange_42 rfl (fun v1 => ?_)
  refine sn_iload_n (v := x1) (pc' := 46) dX12_readChange_45 rfl rfl rfl ?_
  refine sn_aload_n (v := (some this)) (pc' := 47) dX12_readChange_46 rfl rfl rfl ?_
  refine sn_iconst (v := (2 : Int32)) (pc' := 48) dX12_readChange_47 rfl (by decide) ?_
  refine sn_cV (r := (some this)) (st := [.int x1, va_rf v1]) (As := [.int (2 : Int32)]) (st2 := (fun v => .int v :: [.int x1, va_rf v1])) (pc' := 51) ci_13 (fun t => c_X12_take G t (2 : Int32)) cw_X12_take rfl rfl tw1476 pw51 tw1478 rfl rfl (cat_i (cat_q cat_nil)) rfl (fun _ => rfl) dX12_readChange_48 rfl (fun v2 => ?_)
  refine sn_sI (pc' := 52) dX12_readChange_51 rfl (fun _ => ?_)
  refine sn_aload_n (v := (some this)) (pc' := 53) dX12_readChange_52 rfl rfl rfl ?_
  refine sn_gR (k := 34) (pc' := 56) ci_13 rfl (Or.inl tw1312) dX12_readChange_53 rfl (fun v3 => ?_)
  refine sn_iload_n (v := x1) (pc' := 57) dX12_readChange_56 rfl rfl rfl ?_
  refine sn_aload_n (v := (some this)) (pc' := 58) dX12_readChange_57 rfl rfl rfl ?_
  refine sn_iconst (v := (3 : Int32)) (pc' := 59) dX12_readChange_58 rfl (by decide) ?_
  refine sn_cV (r := (some this)) (st := [.int x1, va_rf v3]) (As := [.int (3 : Int32)]) (st2 := (fun v => .int v :: [.int x1, va_rf v3])) (pc' := 62) ci_13 (fun t => c_X12_take G t (3 : Int32)) cw_X12_take rfl rfl tw1476 pw51 tw1478 rfl rfl (cat_i (cat_q cat_nil)) rfl (fun _ => rfl) dX12_readChange_59 rfl (fun v4 => ?_)
  refine sn_sI (pc' := 63) dX12_readChange_62 rfl (fun _ => ?_)
  refine sn_aload_n (v := (some this)) (pc' := 64) dX12_readChange_63 rfl rfl rfl ?_
  refine sn_gR (k := 35) (pc' := 67) ci_13 rfl (Or.inl tw1313) dX12_readChange_64 rfl (fun v5 => ?_)
  refine sn_iload_n (v := x1) (pc' := 68) dX12_readChange_67 rfl rfl rfl ?_
  refine sn_iconst (v := (0 : Int32)) (pc' := 69) dX12_readChange_68 rfl (by decide) ?_
  refine sn_sI (pc' := 70) dX12_readChange_69 rfl (fun _ => ?_)
  refine sn_aload_n (v := (some this)) (pc' := 71) dX12_readChange_70 rfl rfl rfl ?_
  refine sn_gR (k := 32) (pc' := 74) ci_13 rfl (Or.inl tw1310) dX12_readChange_71 rfl (fun v6 => ?_)
  refine sn_iload_n (v := x1) (pc' := 75) dX12_readChange_74 rfl rfl rfl ?_
  refine sn_aI (pc' := 76) dX12_readChange_75 rfl (fun v7 => ?_)
  refine sn_bipush (v := (43 : Int32)) (pc' := 78) dX12_readChange_76 rfl (by decide) ?_
  refine sn_ic_ne (pt := 98) (pf := 81) dX12_readChange_78 rfl rfl ?_ ?_
  · refine sn_aload_n (v := (some this)) (pc' := 82) dX12_readChange_81 rfl rfl rfl ?_
    refine sn_bipush (v := (43 : Int32)) (pc' := 84) dX12_readChange_82 rfl (by decide) ?_
    refine sn_cV (r := (some this)) (st := []) (As := [.int (43 : Int32)]) (st2 := (fun _ => [])) (pc' := 87) ci_13 (fun t => c_X12_must G t (43 : Int32)) cw_X12_must rfl rfl tw1496 pw56 tw1498 rfl rfl cat_nil rfl (fun _ => rfl) dX12_readChange_84 rfl (fun _ => ?_)
    refine sn_aload_n (v := (some this)) (pc' := 88) dX12_readChange_87 rfl rfl rfl ?_
    refine sn_gR (k := 35) (pc' := 91) ci_13 rfl (Or.inl tw1313) dX12_readChange_88 rfl (fun v8 => ?_)
    refine sn_iload_n (v := x1) (pc' := 92) dX12_readChange_91 rfl rfl rfl ?_
    refine sn_aload_n (v := (some this)) (pc' := 93) dX12_readChange_92 rfl rfl rfl ?_
    refine sn_iconst (v := (3 : Int32)) (pc' := 94) dX12_readChange_93 rfl (by decide) ?_
    refine sn_cV (r := (some this)) (st := [.int x1, va_rf v8]) (As := [.int (3 : Int32)]) (st2 := (fun v => .int v :: [.int x1, va_rf v8])) (pc' := 97) ci_13 (fun t => c_X12_take G t (3 : Int32)) cw_X12_take rfl rfl tw1476 pw51 tw1478 rfl rfl (cat_i (cat_q cat_nil)) rfl (fun _ => rfl) dX12_readChange_94 rfl (fun v9 => ?_)
    refine sn_sI (pc' := 98) dX12_readChange_97 rfl (fun _ => ?_)
    refine sn_aload_n (v := (some this)) (pc' := 99) dX12_readChange_98 rfl rfl rfl ?_
    refine sn_dup (pc' := 100) dX12_readChange_99 rfl (cat_rf _) ?_
    refine sn_gI (k := 25) (pc' := 103) ci_13 rfl (Or.inl tw1303) dX12_readChange_100 rfl (fun v10 => ?_)
    refine sn_iconst (v := (1 : Int32)) (pc' := 104) dX12_readChange_103 rfl (by decide) ?_
    refine sn_iadd (pc' := 105) dX12_readChange_104 rfl ?_
    refine sn_pI (k := 25) (pc' := 108) ci_13 rfl (Or.inl tw1303) (Or.inl rfl) rfl dX12_readChange_105 rfl (fun _ => ?_)
    exact sn_vret dX12_readChange_108 rfl
  · refine sn_aload_n (v := (some this)) (pc' := 99) dX12_readChange_98 rfl rfl rfl ?_
    refine sn_dup (pc' := 100) dX12_readChange_99 rfl (cat_rf _) ?_
    refine sn_gI (k := 25) (pc' := 103) ci_13 rfl (Or.inl tw1303) dX12_readChange_100 rfl (fun v11 => ?_)
    refine sn_iconst (v := (1 : Int32)) (pc' := 104) dX12_readChange_103 rfl (by decide) ?_
    refine sn_iadd (pc' := 105) dX12_readChange_104 rfl ?_
    refine sn_pI (k := 25) (pc' := 108) ci_13 rfl (Or.inl tw1303) (Or.inl rfl) rfl dX12_readChange_105 rfl (fun _ => ?_)
    exact sn_vret dX12_readChange_108 rfl
set_option maxRecDepth 100000 in
set_option maxHeartbeats 4000000 in
theorem s_X12_readChange (G : GG) (this : Nat) : Sn G yX12_readChange cX12_readChange 2 none 8 174 (fun _ : Unit => none) (X12_readChange this) 0 [some (va_rf (some this)), none] [] := by
  unfold X12_readChange
  refine sn_aload_n (v := (some this)) (pc' := 1) dX12_readChange_0 rfl rfl rfl ?_
  refine sn_gI (k := 25) (pc' := 4) ci_13 rfl (Or.inl tw1303) dX12_readChange_1 rfl (fun v1 => ?_)
  refine sn_istore_n (v := v1) (L' := [some (va_rf (some this)), some (.int v1)]) (pc' := 5) dX12_readChange_4 rfl rfl rfl rfl ?_
  refine sn_aload_n (v := (some this)) (pc' := 6) dX12_readChange_5 rfl rfl rfl ?_
  refine sn_gR (k := 32) (pc' := 9) ci_13 rfl (Or.inl tw1310) dX12_readChange_6 rfl (fun v2 => ?_)
  refine sn_iload_n (v := v1) (pc' := 10) dX12_readChange_9 rfl rfl rfl ?_
  refine sn_aload_n (v := (some this)) (pc' := 11) dX12_readChange_10 rfl rfl rfl ?_
  refine sn_bipush (v := (45 : Int32)) (pc' := 13) dX12_readChange_11 rfl (by decide) ?_
  refine sn_cV (r := (some this)) (st := [.int v1, va_rf v2]) (As := [.int (45 : Int32)]) (st2 := (fun v => .int v :: [.int v1, va_rf v2])) (pc' := 16) ci_13 (fun t => c_X12_goes G t (45 : Int32)) cw_X12_goes rfl rfl tw1480 pw52 tw1482 rfl rfl (cat_i (cat_q cat_nil)) rfl (fun _ => rfl) dX12_readChange_13 rfl (fun v3 => ?_)
  refine sn_if_eq (pt := 24) (pf := 19) dX12_readChange_16 rfl rfl ?_ ?_
  · refine sn_aload_n (v := (some this)) (pc' := 25) dX12_readChange_24 rfl rfl rfl ?_
    refine sn_bipush (v := (61 : Int32)) (pc' := 27) dX12_readChange_25 rfl (by decide) ?_
    refine sn_cV (r := (some this)) (st := [.int v1, va_rf v2]) (As := [.int (61 : Int32)]) (st2 := (fun v => .int v :: [.int v1, va_rf v2])) (pc' := 30) ci_13 (fun t => c_X12_goes G t (61 : Int32)) cw_X12_goes rfl rfl tw1480 pw52 tw1482 rfl rfl (cat_i (cat_q cat_nil)) rfl (fun _ => rfl) dX12_readChange_27 rfl (fun v4 => ?_)
    refine sn_if_eq (pt := 38) (pf := 33) dX12_readChange_30 rfl rfl ?_ ?_
    · refine sn_bipush (v := (43 : Int32)) (pc' := 40) dX12_readChange_38 rfl (by decide) ?_
      exact sn_weak (le_s (le_s le_e)) (s_X12_readChange_40 G this v1 (43 : Int32) v1 v2)
    · refine sn_bipush (v := (61 : Int32)) (pc' := 35) dX12_readChange_33 rfl (by decide) ?_
      refine sn_goto (pc' := 40) dX12_readChange_35 rfl ?_
      exact sn_weak (le_s (le_s le_e)) (s_X12_readChange_40 G this v1 (61 : Int32) v1 v2)
  · refine sn_bipush (v := (45 : Int32)) (pc' := 21) dX12_readChange_19 rfl (by decide) ?_
    refine sn_goto (pc' := 40) dX12_readChange_21 rfl ?_
    exact sn_weak (le_s (le_s le_e)) (s_X12_readChange_40 G this v1 (45 : Int32) v1 v2)
theorem c_X12_readChange (G : GG) (this : Nat) : Cal G yX12_readChange cX12_readChange 2 none 8 174 (fun _ : Unit => none) (X12_readChange this) [.ref this] :=
  Cal.of (by decide) (cat_t cat_nil) rfl (sn_weak (le_s (le_z le_e)) (s_X12_readChange G this))
theorem cw_X12_readChange : CW yX12_readChange cX12_readChange 2 none 0 := ⟨tw1495, tw15, by decide, by decide +kernel⟩
/-! X12_readChanges -/
theorem dX12_readChanges_0 : decode cX12_readChanges 0 = .ok (.aload_n 0, 1) := by decide +kernel
theorem dX12_readChanges_1 : decode cX12_readChanges 1 = .ok (.invokevirtual 145, 3) := by decide +kernel
theorem dX12_readChanges_4 : decode cX12_readChanges 4 = .ok (.aload_n 0, 1) := by decide +kernel
theorem dX12_readChanges_5 : decode cX12_readChanges 5 = .ok (.bipush 44, 2) := by decide +kernel
theorem dX12_readChanges_7 : decode cX12_readChanges 7 = .ok (.invokevirtual 126, 3) := by decide +kernel
theorem dX12_readChanges_10 : decode cX12_readChanges 10 = .ok (.ifCond .eq 10, 3) := by decide +kernel
theorem dX12_readChanges_13 : decode cX12_readChanges 13 = .ok (.aload_n 0, 1) := by decide +kernel
theorem dX12_readChanges_14 : decode cX12_readChanges 14 = .ok (.invokevirtual 145, 3) := by decide +kernel
theorem dX12_readChanges_17 : decode cX12_readChanges 17 = .ok (.goto (-13), 3) := by decide +kernel
theorem dX12_readChanges_20 : decode cX12_readChanges 20 = .ok (.return_, 1) := by decide +kernel
def X12_readChanges_4_st  (k4 : Nat → MM Unit) (this : Nat) : MM Unit :=
  mb (wc 13 (some this) fun t => X12_goes t (44 : Int32)) fun v1 =>
  if v1 = 0 then (mr ()) else (mb (wc 13 (some this) fun t => X12_readChange t ) fun _ =>
  (k4 this))
def X12_readChanges_4  : Nat → Nat → MM Unit
  | 0 => fun _ => mf
  | n + 1 => fun this => X12_readChanges_4_st  (X12_readChanges_4  n) this
def X12_readChanges (this : Nat) : MM Unit :=
  mb (wc 13 (some this) fun t => X12_readChange t ) fun _ =>
  (X12_readChanges_4 LFU this)
set_option maxRecDepth 100000 in
set_option maxHeartbeats 4000000 in
theorem s_X12_readChanges_4_st (G : GG)   (k4 : Nat → MM Unit) (hk4 : ∀ (this : Nat), Sn G yX12_readChanges cX12_readChanges 1 none 9 195 (fun _ : Unit => none) (k4 this) 4 [some (va_rf (some this))] []) (this : Nat) : Sn G yX12_readChanges cX12_readChanges 1 none 9 195 (fun _ : Unit => none) (X12_readChanges_4_st  k4 this) 4 [some (va_rf (some this))] [] := by
  unfold X12_readChanges_4_st
  refine sn_aload_n (v := (some this)) (pc' := 5) dX12_readChanges_4 rfl rfl rfl ?_
  refine sn_bipush (v := (44 : Int32)) (pc' := 7) dX12_readChanges_5 rfl (by decide) ?_
  refine sn_cV (r := (some this)) (st := []) (As := [.int (44 : Int32)]) (st2 := (fun v => .int v :: [])) (pc' := 10) ci_13 (fun t => c_X12_goes G t (44 : Int32)) cw_X12_goes rfl rfl tw1480 pw52 tw1482 rfl rfl cat_nil rfl (fun _ => rfl) dX12_readChanges_7 rfl (fun v1 => ?_)
  refine sn_if_eq (pt := 20) (pf := 13) dX12_readChanges_10 rfl rfl ?_ ?_
  · exact sn_vret dX12_readChanges_20 rfl
  · refine sn_aload_n (v := (some this)) (pc' := 14) dX12_readChanges_13 rfl rfl rfl ?_
    refine sn_cV (r := (some this)) (st := []) (As := []) (st2 := (fun _ => [])) (pc' := 17) ci_13 (fun t => c_X12_readChange G t ) cw_X12_readChange rfl rfl tw1492 pw55 tw1494 rfl rfl cat_nil rfl (fun _ => rfl) dX12_readChanges_14 rfl (fun _ => ?_)
    refine sn_goto (pc' := 4) dX12_readChanges_17 rfl ?_
    exact sn_weak (le_s le_e) (hk4 this)
set_option maxRecDepth 100000 in
set_option maxHeartbeats 4000000 in
theorem s_X12_readChanges_4 (G : GG)   : ∀ (n : Nat) (this : Nat), Sn G yX12_readChanges cX12_readChanges 1 none 9 195 (fun _ : Unit => none) (X12_readChanges_4  n this) 4 [some (va_rf (some this))] [] := by
  intro n
  induction n with
  | zero => intro this; exact sn_mf
  | succ n ih => intro this; exact s_X12_readChanges_4_st G   (X12_readChanges_4  n) ih this
set_option maxRecDepth 100000 in
set_option maxHeartbeats 4000000 in
theorem s_X12_readChanges (G : GG) (this : Nat) : Sn G yX12_readChanges cX12_readChanges 1 none 9 195 (fun _ : Unit => none) (X12_readChanges this) 0 [some (va_rf (some this))] [] := by
  unfold X12_readChanges
  refine sn_aload_n (v := (some this)) (pc' := 1) dX12_readChanges_0 rfl rfl rfl ?_
  refine sn_cV (r := (some this)) (st := []) (As := []) (st2 := (fun _ => [])) (pc' := 4) ci_13 (fun t => c_X12_readChange G t ) cw_X12_readChange rfl rfl tw1492 pw55 tw1494 rfl rfl cat_nil rfl (fun _ => rfl) dX12_readChanges_1 rfl (fun _ => ?_)
  exact sn_weak (le_s le_e) (s_X12_readChanges_4 G LFU this)
theorem c_X12_readChanges (G : GG) (this : Nat) : Cal G yX12_readChanges cX12_readChanges 1 none 9 195 (fun _ : Unit => none) (X12_readChanges this) [.ref this] :=
  Cal.of (by decide) (cat_t cat_nil) rfl (sn_weak (le_s le_e) (s_X12_readChanges G this))
theorem cw_X12_readChanges : CW yX12_readChanges cX12_readChanges 1 none 0 := ⟨tw1491, tw15, by decide, by decide +kernel⟩
