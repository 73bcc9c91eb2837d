theorem tw1302 : (Jvm.Cond.fieldLink "LeafFormulaModel" (148 : Nat) "LeafFormulaModel" "groups" "I") ∈ gtbl := gt_of 1395 (by decide +kernel) (by decide +kernel)
theorem tw1304 : (Jvm.Cond.fieldLink "LeafFormulaModel" (151 : Nat) "LeafFormulaModel" "groupFirst" "[I") ∈ gtbl := gt_of 1397 (by decide +kernel) (by decide +kernel)
theorem tw1305 : (Jvm.Cond.fieldLink "LeafFormulaModel" (158 : Nat) "LeafFormulaModel" "groupLast" "[I") ∈ gtbl := gt_of 1398 (by decide +kernel) (by decide +kernel)
theorem tw1306 : (Jvm.Cond.fieldLink "LeafFormulaModel" (154 : Nat) "LeafFormulaModel" "groupIsRow" "[Z") ∈ gtbl := gt_of 1399 (by decide +kernel) (by decide +kernel)
theorem tw1307 : (Jvm.Cond.fieldLink "LeafFormulaModel" (161 : Nat) "LeafFormulaModel" "groupN" "[I") ∈ gtbl := gt_of 1400 (by decide +kernel) (by decide +kernel)
theorem tw1308 : (Jvm.Cond.fieldLink "LeafFormulaModel" (164 : Nat) "LeafFormulaModel" "groupM" "[I") ∈ gtbl := gt_of 1401 (by decide +kernel) (by decide +kernel)
theorem tw1309 : (Jvm.Cond.fieldLink "LeafFormulaModel" (170 : Nat) "LeafFormulaModel" "groupChanges" "[I") ∈ gtbl := gt_of 1402 (by decide +kernel) (by decide +kernel)
theorem tw1314 : (Jvm.Cond.fieldLink "LeafFormulaModel" (202 : Nat) "LeafFormulaModel" "written" "[I") ∈ gtbl := gt_of 1407 (by decide +kernel) (by decide +kernel)
theorem tw1315 : (Jvm.Cond.fieldLink "LeafFormulaModel" (205 : Nat) "LeafFormulaModel" "writes" "I") ∈ gtbl := gt_of 1408 (by decide +kernel) (by decide +kernel)
theorem tw1431 : (Jvm.Cond.methodLink "LeafFormulaModel" (193 : Nat) ({ cls := "LeafFormulaModel", name := "no", desc := "(I)I" } : Jvm.MethodName)) ∈ gtbl := gt_of 1524 (by decide +kernel) (by decide +kernel)
theorem tw1433 : (Jvm.Cond.instanceMethod ({ cls := "LeafFormulaModel", name := "no", desc := "(I)I" } : Jvm.MethodName)) ∈ gtbl := gt_of 1526 (by decide +kernel) (by decide +kernel)
theorem tw1435 : (Jvm.Cond.methodLink "LeafFormulaModel" (199 : Nat) ({ cls := "LeafFormulaModel", name := "fine", desc := "(I)I" } : Jvm.MethodName)) ∈ gtbl := gt_of 1528 (by decide +kernel) (by decide +kernel)
theorem tw1437 : (Jvm.Cond.instanceMethod ({ cls := "LeafFormulaModel", name := "fine", desc := "(I)I" } : Jvm.MethodName)) ∈ gtbl := gt_of 1530 (by decide +kernel) (by decide +kernel)
theorem tw1475 : (Jvm.Cond.code ({ cls := "LeafFormulaModel", name := "readGroup", desc := "()V" } : Jvm.MethodName) prog_14_method_24_code (2 : Nat) (Option.none : Option Jvm.ClassFile.FieldType)) ∈ gtbl := gt_of 1568 (by decide +kernel) (by decide +kernel)
theorem tw1488 : (Jvm.Cond.methodLink "LeafFormulaModel" (167 : Nat) ({ cls := "LeafFormulaModel", name := "readChanges", desc := "()V" } : Jvm.MethodName)) ∈ gtbl := gt_of 1581 (by decide +kernel) (by decide +kernel)
theorem tw1490 : (Jvm.Cond.instanceMethod ({ cls := "LeafFormulaModel", name := "readChanges", desc := "()V" } : Jvm.MethodName)) ∈ gtbl := gt_of 1583 (by decide +kernel) (by decide +kernel)
theorem tw1507 : (Jvm.Cond.code ({ cls := "LeafFormulaModel", name := "faultOfAll", desc := "()I" } : Jvm.MethodName) prog_14_method_29_code (5 : Nat) (Option.some Jvm.ClassFile.FieldType.int)) ∈ gtbl := gt_of 1600 (by decide +kernel) (by decide +kernel)
theorem tw1508 : (Jvm.Cond.methodLink "LeafFormulaModel" (182 : Nat) ({ cls := "LeafFormulaModel", name := "faultOfGroup", desc := "(IIZ)I" } : Jvm.MethodName)) ∈ gtbl := gt_of 1601 (by decide +kernel) (by decide +kernel)
theorem tw1510 : (Jvm.Cond.instanceMethod ({ cls := "LeafFormulaModel", name := "faultOfGroup", desc := "(IIZ)I" } : Jvm.MethodName)) ∈ gtbl := gt_of 1603 (by decide +kernel) (by decide +kernel)
theorem tw1511 : (Jvm.Cond.code ({ cls := "LeafFormulaModel", name := "faultOfGroup", desc := "(IIZ)I" } : Jvm.MethodName) prog_14_method_28_code (8 : Nat) (Option.some Jvm.ClassFile.FieldType.int)) ∈ gtbl := gt_of 1604 (by decide +kernel) (by decide +kernel)
theorem tw1512 : (Jvm.Cond.methodLink "LeafFormulaModel" (173 : Nat) ({ cls := "LeafFormulaModel", name := "isSize", desc := "(I)Z" } : Jvm.MethodName)) ∈ gtbl := gt_of 1605 (by decide +kernel) (by decide +kernel)
theorem tw1513 : (Jvm.Cond.static ({ cls := "LeafFormulaModel", name := "isSize", desc := "(I)Z" } : Jvm.MethodName)) ∈ gtbl := gt_of 1606 (by decide +kernel) (by decide +kernel)
theorem tw1514 : (Jvm.Cond.code ({ cls := "LeafFormulaModel", name := "isSize", desc := "(I)Z" } : Jvm.MethodName) prog_14_method_25_code (1 : Nat) (Option.some Jvm.ClassFile.FieldType.boolean)) ∈ gtbl := gt_of 1607 (by decide +kernel) (by decide +kernel)
theorem tw1515 : (Jvm.Cond.methodLink "LeafFormulaModel" (176 : Nat) ({ cls := "LeafFormulaModel", name := "isFewPut", desc := "(II)Z" } : Jvm.MethodName)) ∈ gtbl := gt_of 1608 (by decide +kernel) (by decide +kernel)
theorem tw1517 : (Jvm.Cond.instanceMethod ({ cls := "LeafFormulaModel", name := "isFewPut", desc := "(II)Z" } : Jvm.MethodName)) ∈ gtbl := gt_of 1610 (by decide +kernel) (by decide +kernel)
theorem tw1518 : (Jvm.Cond.code ({ cls := "LeafFormulaModel", name := "isFewPut", desc := "(II)Z" } : Jvm.MethodName) prog_14_method_27_code (5 : Nat) (Option.some Jvm.ClassFile.FieldType.boolean)) ∈ gtbl := gt_of 1611 (by decide +kernel) (by decide +kernel)
theorem tw1519 : (Jvm.Cond.methodLink "LeafFormulaModel" (179 : Nat) ({ cls := "LeafFormulaModel", name := "isTwice", desc := "(II)Z" } : Jvm.MethodName)) ∈ gtbl := gt_of 1612 (by decide +kernel) (by decide +kernel)
theorem tw1521 : (Jvm.Cond.instanceMethod ({ cls := "LeafFormulaModel", name := "isTwice", desc := "(II)Z" } : Jvm.MethodName)) ∈ gtbl := gt_of 1614 (by decide +kernel) (by decide +kernel)
theorem tw1522 : (Jvm.Cond.code ({ cls := "LeafFormulaModel", name := "isTwice", desc := "(II)Z" } : Jvm.MethodName) prog_14_method_26_code (6 : Nat) (Option.some Jvm.ClassFile.FieldType.boolean)) ∈ gtbl := gt_of 1615 (by decide +kernel) (by decide +kernel)
theorem tw1526 : (Jvm.Cond.code ({ cls := "LeafFormulaModel", name := "add", desc := "(III)V" } : Jvm.MethodName) prog_14_method_32_code (6 : Nat) (Option.none : Option Jvm.ClassFile.FieldType)) ∈ gtbl := gt_of 1619 (by decide +kernel) (by decide +kernel)
theorem tw1533 : (Jvm.Cond.code ({ cls := "LeafFormulaModel", name := "apply", desc := "(II)V" } : Jvm.MethodName) prog_14_method_30_code (4 : Nat) (Option.none : Option Jvm.ClassFile.FieldType)) ∈ gtbl := gt_of 1626 (by decide +kernel) (by decide +kernel)
theorem tw1534 : (Jvm.Cond.methodLink "LeafFormulaModel" (186 : Nat) ({ cls := "LeafFormulaModel", name := "gatheringOf", desc := "(II)I" } : Jvm.MethodName)) ∈ gtbl := gt_of 1627 (by decide +kernel) (by decide +kernel)
theorem tw1536 : (Jvm.Cond.instanceMethod ({ cls := "LeafFormulaModel", name := "gatheringOf", desc := "(II)I" } : Jvm.MethodName)) ∈ gtbl := gt_of 1629 (by decide +kernel) (by decide +kernel)
theorem tw1541 : (Jvm.Cond.code ({ cls := "LeafFormulaModel", name := "isMade", desc := "(I)I" } : Jvm.MethodName) prog_14_method_31_code (2 : Nat) (Option.some Jvm.ClassFile.FieldType.int)) ∈ gtbl := gt_of 1634 (by decide +kernel) (by decide +kernel)
theorem tw1542 : (Jvm.Cond.methodLink "LeafFormulaModel" (190 : Nat) ({ cls := "LeafFormulaModel", name := "total", desc := "(I)I" } : Jvm.MethodName)) ∈ gtbl := gt_of 1635 (by decide +kernel) (by decide +kernel)
theorem tw1544 : (Jvm.Cond.instanceMethod ({ cls := "LeafFormulaModel", name := "total", desc := "(I)I" } : Jvm.MethodName)) ∈ gtbl := gt_of 1637 (by decide +kernel) (by decide +kernel)
theorem tw1546 : (Jvm.Cond.methodLink "LeafFormulaModel" (196 : Nat) ({ cls := "LeafFormulaModel", name := "layOut", desc := "(I)V" } : Jvm.MethodName)) ∈ gtbl := gt_of 1639 (by decide +kernel) (by decide +kernel)
theorem tw1548 : (Jvm.Cond.instanceMethod ({ cls := "LeafFormulaModel", name := "layOut", desc := "(I)V" } : Jvm.MethodName)) ∈ gtbl := gt_of 1641 (by decide +kernel) (by decide +kernel)
theorem tw1632 : (Jvm.Cond.code ({ cls := "LeafFormulaModel", name := "isLetters", desc := "(I)Z" } : Jvm.MethodName) prog_14_method_37_code (1 : Nat) (Option.some Jvm.ClassFile.FieldType.boolean)) ∈ gtbl := gt_of 1725 (by decide +kernel) (by decide +kernel)
theorem tw1633 : (Jvm.Cond.methodLink "LeafFormulaModel" (208 : Nat) ({ cls := "LeafFormulaModel", name := "write", desc := "(I)V" } : Jvm.MethodName)) ∈ gtbl := gt_of 1726 (by decide +kernel) (by decide +kernel)
theorem tw1635 : (Jvm.Cond.instanceMethod ({ cls := "LeafFormulaModel", name := "write", desc := "(I)V" } : Jvm.MethodName)) ∈ gtbl := gt_of 1728 (by decide +kernel) (by decide +kernel)
theorem tw1636 : (Jvm.Cond.code ({ cls := "LeafFormulaModel", name := "write", desc := "(I)V" } : Jvm.MethodName) prog_14_method_33_code (2 : Nat) (Option.none : Option Jvm.ClassFile.FieldType)) ∈ gtbl := gt_of 1729 (by decide +kernel) (by decide +kernel)
theorem tw1637 : (Jvm.Cond.methodLink "LeafFormulaModel" (218 : Nat) ({ cls := "LeafFormulaModel", name := "writeSign", desc := "(I)V" } : Jvm.MethodName)) ∈ gtbl := gt_of 1730 (by decide +kernel) (by decide +kernel)
theorem tw1639 : (Jvm.Cond.instanceMethod ({ cls := "LeafFormulaModel", name := "writeSign", desc := "(I)V" } : Jvm.MethodName)) ∈ gtbl := gt_of 1732 (by decide +kernel) (by decide +kernel)
theorem tw1640 : (Jvm.Cond.code ({ cls := "LeafFormulaModel", name := "writeSign", desc := "(I)V" } : Jvm.MethodName) prog_14_method_36_code (3 : Nat) (Option.none : Option Jvm.ClassFile.FieldType)) ∈ gtbl := gt_of 1733 (by decide +kernel) (by decide +kernel)
theorem tw1641 : (Jvm.Cond.methodLink "LeafFormulaModel" (211 : Nat) ({ cls := "LeafFormulaModel", name := "writeWord", desc := "(Ljava/lang/String;)V" } : Jvm.MethodName)) ∈ gtbl := gt_of 1734 (by decide +kernel) (by decide +kernel)
theorem tw1643 : (Jvm.Cond.instanceMethod ({ cls := "LeafFormulaModel", name := "writeWord", desc := "(Ljava/lang/String;)V" } : Jvm.MethodName)) ∈ gtbl := gt_of 1736 (by decide +kernel) (by decide +kernel)
theorem tw1644 : (Jvm.Cond.code ({ cls := "LeafFormulaModel", name := "writeWord", desc := "(Ljava/lang/String;)V" } : Jvm.MethodName) prog_14_method_35_code (3 : Nat) (Option.none : Option Jvm.ClassFile.FieldType)) ∈ gtbl := gt_of 1737 (by decide +kernel) (by decide +kernel)
theorem tw1645 : (Jvm.Cond.methodLink "LeafFormulaModel" (221 : Nat) ({ cls := "LeafFormulaModel", name := "writeNumber", desc := "(I)V" } : Jvm.MethodName)) ∈ gtbl := gt_of 1738 (by decide +kernel) (by decide +kernel)
theorem tw1647 : (Jvm.Cond.instanceMethod ({ cls := "LeafFormulaModel", name := "writeNumber", desc := "(I)V" } : Jvm.MethodName)) ∈ gtbl := gt_of 1740 (by decide +kernel) (by decide +kernel)
theorem tw1648 : (Jvm.Cond.code ({ cls := "LeafFormulaModel", name := "writeNumber", desc := "(I)V" } : Jvm.MethodName) prog_14_method_34_code (2 : Nat) (Option.none : Option Jvm.ClassFile.FieldType)) ∈ gtbl := gt_of 1741 (by decide +kernel) (by decide +kernel)
theorem tw1652 : (Jvm.Cond.code ({ cls := "LeafFormulaModel", name := "writeChanges", desc := "(III)V" } : Jvm.MethodName) prog_14_method_39_code (9 : Nat) (Option.none : Option Jvm.ClassFile.FieldType)) ∈ gtbl := gt_of 1745 (by decide +kernel) (by decide +kernel)
theorem pw44 : Cond.selects "LeafFormulaModel" ⟨"LeafFormulaModel", "no", "(I)I"⟩ ⟨"LeafFormulaModel", "no", "(I)I"⟩ ∈ gtbl := gt_of 44 (by decide +kernel) (by decide +kernel)
theorem pw45 : Cond.selects "LeafFormulaModel" ⟨"LeafFormulaModel", "fine", "(I)I"⟩ ⟨"LeafFormulaModel", "fine", "(I)I"⟩ ∈ gtbl := gt_of 45 (by decide +kernel) (by decide +kernel)
theorem pw54 : Cond.selects "LeafFormulaModel" ⟨"LeafFormulaModel", "readChanges", "()V"⟩ ⟨"LeafFormulaModel", "readChanges", "()V"⟩ ∈ gtbl := gt_of 54 (by decide +kernel) (by decide +kernel)
theorem pw59 : Cond.selects "LeafFormulaModel" ⟨"LeafFormulaModel", "faultOfGroup", "(IIZ)I"⟩ ⟨"LeafFormulaModel", "faultOfGroup", "(IIZ)I"⟩ ∈ gtbl := gt_of 59 (by decide +kernel) (by decide +kernel)
theorem pw60 : Cond.selects "LeafFormulaModel" ⟨"LeafFormulaModel", "isFewPut", "(II)Z"⟩ ⟨"LeafFormulaModel", "isFewPut", "(II)Z"⟩ ∈ gtbl := gt_of 60 (by decide +kernel) (by decide +kernel)
theorem pw61 : Cond.selects "LeafFormulaModel" ⟨"LeafFormulaModel", "isTwice", "(II)Z"⟩ ⟨"LeafFormulaModel", "isTwice", "(II)Z"⟩ ∈ gtbl := gt_of 61 (by decide +kernel) (by decide +kernel)
theorem pw64 : Cond.selects "LeafFormulaModel" ⟨"LeafFormulaModel", "gatheringOf", "(II)I"⟩ ⟨"LeafFormulaModel", "gatheringOf", "(II)I"⟩ ∈ gtbl := gt_of 64 (by decide +kernel) (by decide +kernel)
theorem pw66 : Cond.selects "LeafFormulaModel" ⟨"LeafFormulaModel", "total", "(I)I"⟩ ⟨"LeafFormulaModel", "total", "(I)I"⟩ ∈ gtbl := gt_of 66 (by decide +kernel) (by decide +kernel)
theorem pw67 : Cond.selects "LeafFormulaModel" ⟨"LeafFormulaModel", "layOut", "(I)V"⟩ ⟨"LeafFormulaModel", "layOut", "(I)V"⟩ ∈ gtbl := gt_of 67 (by decide +kernel) (by decide +kernel)
theorem pw77 : Cond.selects "LeafFormulaModel" ⟨"LeafFormulaModel", "write", "(I)V"⟩ ⟨"LeafFormulaModel", "write", "(I)V"⟩ ∈ gtbl := gt_of 77 (by decide +kernel) (by decide +kernel)
theorem pw78 : Cond.selects "LeafFormulaModel" ⟨"LeafFormulaModel", "writeSign", "(I)V"⟩ ⟨"LeafFormulaModel", "writeSign", "(I)V"⟩ ∈ gtbl := gt_of 78 (by decide +kernel) (by decide +kernel)
theorem pw79 : Cond.selects "LeafFormulaModel" ⟨"LeafFormulaModel", "writeWord", "(Ljava/lang/String;)V"⟩ ⟨"LeafFormulaModel", "writeWord", "(Ljava/lang/String;)V"⟩ ∈ gtbl := gt_of 79 (by decide +kernel) (by decide +kernel)
theorem pw80 : Cond.selects "LeafFormulaModel" ⟨"LeafFormulaModel", "writeNumber", "(I)V"⟩ ⟨"LeafFormulaModel", "writeNumber", "(I)V"⟩ ∈ gtbl := gt_of 80 (by decide +kernel) (by decide +kernel)
/-! X12_readGroup -/
theorem dX12_readGroup_0 : decode cX12_readGroup 0 = .ok (.aload_n 0, 1) := by decide +kernel
theorem dX12_readGroup_1 : decode cX12_readGroup 1 = .ok (.getfield 148, 3) := by decide +kernel
theorem dX12_readGroup_4 : decode cX12_readGroup 4 = .ok (.istore_n 1, 1) := by decide +kernel
theorem dX12_readGroup_5 : decode cX12_readGroup 5 = .ok (.aload_n 0, 1) := by decide +kernel
theorem dX12_readGroup_6 : decode cX12_readGroup 6 = .ok (.getfield 151, 3) := by decide +kernel
theorem dX12_readGroup_9 : decode cX12_readGroup 9 = .ok (.iload_n 1, 1) := by decide +kernel
theorem dX12_readGroup_10 : decode cX12_readGroup 10 = .ok (.aload_n 0, 1) := by decide +kernel
theorem dX12_readGroup_11 : decode cX12_readGroup 11 = .ok (.iconst 2, 1) := by decide +kernel
theorem dX12_readGroup_12 : decode cX12_readGroup 12 = .ok (.invokevirtual 132, 3) := by decide +kernel
theorem dX12_readGroup_15 : decode cX12_readGroup 15 = .ok (.iastore, 1) := by decide +kernel
theorem dX12_readGroup_16 : decode cX12_readGroup 16 = .ok (.aload_n 0, 1) := by decide +kernel
theorem dX12_readGroup_17 : decode cX12_readGroup 17 = .ok (.getfield 154, 3) := by decide +kernel
theorem dX12_readGroup_20 : decode cX12_readGroup 20 = .ok (.iload_n 1, 1) := by decide +kernel
theorem dX12_readGroup_21 : decode cX12_readGroup 21 = .ok (.aload_n 0, 1) := by decide +kernel
theorem dX12_readGroup_22 : decode cX12_readGroup 22 = .ok (.bipush 45, 2) := by decide +kernel
theorem dX12_readGroup_24 : decode cX12_readGroup 24 = .ok (.invokevirtual 126, 3) := by decide +kernel
theorem dX12_readGroup_27 : decode cX12_readGroup 27 = .ok (.bastore, 1) := by decide +kernel
theorem dX12_readGroup_28 : decode cX12_readGroup 28 = .ok (.aload_n 0, 1) := by decide +kernel
theorem dX12_readGroup_29 : decode cX12_readGroup 29 = .ok (.getfield 158, 3) := by decide +kernel
theorem dX12_readGroup_32 : decode cX12_readGroup 32 = .ok (.iload_n 1, 1) := by decide +kernel
theorem dX12_readGroup_33 : decode cX12_readGroup 33 = .ok (.aload_n 0, 1) := by decide +kernel
theorem dX12_readGroup_34 : decode cX12_readGroup 34 = .ok (.getfield 154, 3) := by decide +kernel
theorem dX12_readGroup_37 : decode cX12_readGroup 37 = .ok (.iload_n 1, 1) := by decide +kernel
theorem dX12_readGroup_38 : decode cX12_readGroup 38 = .ok (.baload, 1) := by decide +kernel
theorem dX12_readGroup_39 : decode cX12_readGroup 39 = .ok (.ifCond .eq 11, 3) := by decide +kernel
theorem dX12_readGroup_42 : decode cX12_readGroup 42 = .ok (.aload_n 0, 1) := by decide +kernel
theorem dX12_readGroup_43 : decode cX12_readGroup 43 = .ok (.iconst 2, 1) := by decide +kernel
theorem dX12_readGroup_44 : decode cX12_readGroup 44 = .ok (.invokevirtual 132, 3) := by decide +kernel
theorem dX12_readGroup_47 : decode cX12_readGroup 47 = .ok (.goto 9, 3) := by decide +kernel
theorem dX12_readGroup_50 : decode cX12_readGroup 50 = .ok (.aload_n 0, 1) := by decide +kernel
theorem dX12_readGroup_51 : decode cX12_readGroup 51 = .ok (.getfield 151, 3) := by decide +kernel
theorem dX12_readGroup_54 : decode cX12_readGroup 54 = .ok (.iload_n 1, 1) := by decide +kernel
theorem dX12_readGroup_55 : decode cX12_readGroup 55 = .ok (.iaload, 1) := by decide +kernel
theorem dX12_readGroup_56 : decode cX12_readGroup 56 = .ok (.iastore, 1) := by decide +kernel
theorem dX12_readGroup_57 : decode cX12_readGroup 57 = .ok (.aload_n 0, 1) := by decide +kernel
theorem dX12_readGroup_58 : decode cX12_readGroup 58 = .ok (.getfield 161, 3) := by decide +kernel
theorem dX12_readGroup_61 : decode cX12_readGroup 61 = .ok (.iload_n 1, 1) := by decide +kernel
theorem dX12_readGroup_62 : decode cX12_readGroup 62 = .ok (.aload_n 0, 1) := by decide +kernel
theorem dX12_readGroup_63 : decode cX12_readGroup 63 = .ok (.iconst 3, 1) := by decide +kernel
theorem dX12_readGroup_64 : decode cX12_readGroup 64 = .ok (.invokevirtual 132, 3) := by decide +kernel
theorem dX12_readGroup_67 : decode cX12_readGroup 67 = .ok (.iastore, 1) := by decide +kernel
theorem dX12_readGroup_68 : decode cX12_readGroup 68 = .ok (.aload_n 0, 1) := by decide +kernel
theorem dX12_readGroup_69 : decode cX12_readGroup 69 = .ok (.getfield 164, 3) := by decide +kernel
theorem dX12_readGroup_72 : decode cX12_readGroup 72 = .ok (.iload_n 1, 1) := by decide +kernel
theorem dX12_readGroup_73 : decode cX12_readGroup 73 = .ok (.aload_n 0, 1) := by decide +kernel
theorem dX12_readGroup_74 : decode cX12_readGroup 74 = .ok (.getfield 154, 3) := by decide +kernel
theorem dX12_readGroup_77 : decode cX12_readGroup 77 = .ok (.iload_n 1, 1) := by decide +kernel
theorem dX12_readGroup_78 : decode cX12_readGroup 78 = .ok (.baload, 1) := by decide +kernel
theorem dX12_readGroup_79 : decode cX12_readGroup 79 = .ok (.ifCond .eq 20, 3) := by decide +kernel
theorem dX12_readGroup_82 : decode cX12_readGroup 82 = .ok (.aload_n 0, 1) := by decide +kernel
theorem dX12_readGroup_83 : decode cX12_readGroup 83 = .ok (.bipush 44, 2) := by decide +kernel
theorem dX12_readGroup_85 : decode cX12_readGroup 85 = .ok (.invokevirtual 126, 3) := by decide +kernel
theorem dX12_readGroup_88 : decode cX12_readGroup 88 = .ok (.ifCond .eq 11, 3) := by decide +kernel
theorem dX12_readGroup_91 : decode cX12_readGroup 91 = .ok (.aload_n 0, 1) := by decide +kernel
theorem dX12_readGroup_92 : decode cX12_readGroup 92 = .ok (.iconst 3, 1) := by decide +kernel
theorem dX12_readGroup_93 : decode cX12_readGroup 93 = .ok (.invokevirtual 132, 3) := by decide +kernel
theorem dX12_readGroup_96 : decode cX12_readGroup 96 = .ok (.goto 9, 3) := by decide +kernel
theorem dX12_readGroup_99 : decode cX12_readGroup 99 = .ok (.aload_n 0, 1) := by decide +kernel
theorem dX12_readGroup_100 : decode cX12_readGroup 100 = .ok (.getfield 161, 3) := by decide +kernel
theorem dX12_readGroup_103 : decode cX12_readGroup 103 = .ok (.iload_n 1, 1) := by decide +kernel
theorem dX12_readGroup_104 : decode cX12_readGroup 104 = .ok (.iaload, 1) := by decide +kernel
theorem dX12_readGroup_105 : decode cX12_readGroup 105 = .ok (.iastore, 1) := by decide +kernel
theorem dX12_readGroup_106 : decode cX12_readGroup 106 = .ok (.aload_n 0, 1) := by decide +kernel
theorem dX12_readGroup_107 : decode cX12_readGroup 107 = .ok (.bipush 40, 2) := by decide +kernel
theorem dX12_readGroup_109 : decode cX12_readGroup 109 = .ok (.invokevirtual 126, 3) := by decide +kernel
theorem dX12_readGroup_112 : decode cX12_readGroup 112 = .ok (.ifCond .eq 13, 3) := by decide +kernel
theorem dX12_readGroup_115 : decode cX12_readGroup 115 = .ok (.aload_n 0, 1) := by decide +kernel
theorem dX12_readGroup_116 : decode cX12_readGroup 116 = .ok (.invokevirtual 167, 3) := by decide +kernel
theorem dX12_readGroup_119 : decode cX12_readGroup 119 = .ok (.aload_n 0, 1) := by decide +kernel
theorem dX12_readGroup_120 : decode cX12_readGroup 120 = .ok (.bipush 41, 2) := by decide +kernel
theorem dX12_readGroup_122 : decode cX12_readGroup 122 = .ok (.invokevirtual 141, 3) := by decide +kernel
theorem dX12_readGroup_125 : decode cX12_readGroup 125 = .ok (.aload_n 0, 1) := by decide +kernel
theorem dX12_readGroup_126 : decode cX12_readGroup 126 = .ok (.dup, 1) := by decide +kernel
theorem dX12_readGroup_127 : decode cX12_readGroup 127 = .ok (.getfield 148, 3) := by decide +kernel
theorem dX12_readGroup_130 : decode cX12_readGroup 130 = .ok (.iconst 1, 1) := by decide +kernel
theorem dX12_readGroup_131 : decode cX12_readGroup 131 = .ok (.iadd, 1) := by decide +kernel
theorem dX12_readGroup_132 : decode cX12_readGroup 132 = .ok (.putfield 148, 3) := by decide +kernel
theorem dX12_readGroup_135 : decode cX12_readGroup 135 = .ok (.aload_n 0, 1) := by decide +kernel
theorem dX12_readGroup_136 : decode cX12_readGroup 136 = .ok (.getfield 170, 3) := by decide +kernel
theorem dX12_readGroup_139 : decode cX12_readGroup 139 = .ok (.aload_n 0, 1) := by decide +kernel
theorem dX12_readGroup_140 : decode cX12_readGroup 140 = .ok (.getfield 148, 3) := by decide +kernel
theorem dX12_readGroup_143 : decode cX12_readGroup 143 = .ok (.aload_n 0, 1) := by decide +kernel
theorem dX12_readGroup_144 : decode cX12_readGroup 144 = .ok (.getfield 120, 3) := by decide +kernel
theorem dX12_readGroup_147 : decode cX12_readGroup 147 = .ok (.iastore, 1) := by decide +kernel
theorem dX12_readGroup_148 : decode cX12_readGroup 148 = .ok (.return_, 1) := by decide +kernel
def X12_readGroup_125  (this : Nat) : MM Unit :=
  mb (gI 13 (some this) 24) fun v1 =>
  mb (pI 13 (some this) 24 (v1 + (1 : Int32))) fun _ =>
  mb (gR 13 (some this) 31) fun v2 =>
  mb (gI 13 (some this) 24) fun v3 =>
  mb (gI 13 (some this) 25) fun v4 =>
  mb (sI v2 v3 v4) fun _ =>
  mr ()
def X12_readGroup_105  (this : Nat) (y0 : Int32) (y1 : Int32) (y2 : Option Nat) : MM Unit :=
  mb (sI y2 y1 y0) fun _ =>
  mb (wc 13 (some this) fun t => X12_goes t (40 : Int32)) fun v1 =>
  if v1 = 0 then ((X12_readGroup_125 this)) else (mb (wc 13 (some this) fun t => X12_readChanges t ) fun _ =>
  mb (wc 13 (some this) fun t => X12_must t (41 : Int32)) fun _ =>
  (X12_readGroup_125 this))
def X12_readGroup_99  (this : Nat) (x1 : Int32) (y0 : Int32) (y1 : Option Nat) : MM Unit :=
  mb (gR 13 (some this) 29) fun v1 =>
  mb (aI v1 x1) fun v2 =>
  (X12_readGroup_105 this v2 y0 y1)
def X12_readGroup_56  (this : Nat) (x1 : Int32) (y0 : Int32) (y1 : Int32) (y2 : Option Nat) : MM Unit :=
  mb (sI y2 y1 y0) fun _ =>
  mb (gR 13 (some this) 29) fun v1 =>
  mb (wc 13 (some this) fun t => X12_take t (3 : Int32)) fun v2 =>
  mb (sI v1 x1 v2) fun _ =>
  mb (gR 13 (some this) 30) fun v3 =>
  mb (gR 13 (some this) 28) fun v4 =>
  mb (aB v4 x1) fun v5 =>
  if v5 = 0 then ((X12_readGroup_99 this x1 x1 v3)) else (mb (wc 13 (some this) fun t => X12_goes t (44 : Int32)) fun v6 =>
  if v6 = 0 then ((X12_readGroup_99 this x1 x1 v3)) else (mb (wc 13 (some this) fun t => X12_take t (3 : Int32)) fun v7 =>
  (X12_readGroup_105 this v7 x1 v3)))
def X12_readGroup (this : Nat) : MM Unit :=
  mb (gI 13 (some this) 24) fun v1 =>
  mb (gR 13 (some this) 26) fun v2 =>
  mb (wc 13 (some this) fun t => X12_take t (2 : Int32)) fun v3 =>
  mb (sI v2 v1 v3) fun _ =>
  mb (gR 13 (some this) 28) fun v4 =>
  mb (wc 13 (some this) fun t => X12_goes t (45 : Int32)) fun v5 =>
  mb (sB v4 v1 v5) fun _ =>
  mb (gR 13 (some this) 27) fun v6 =>
  mb (gR 13 (some this) 28) fun v7 =>
  mb (aB v7 v1) fun v8 =>
  if v8 = 0 then (mb (gR 13 (some this) 26) fun v9 =>
  mb (aI v9 v1) fun v10 =>
  (X12_readGroup_56 this v1 v10 v1 v6)) else (mb (wc 13 (some this) fun t => X12_take t (2 : Int32)) fun v11 =>
  (X12_readGroup_56 this v1 v11 v1 v6))
set_option maxRecDepth 100000 in
set_option maxHeartbeats 4000000 in
theorem s_X12_readGroup_125 (G : GG)   (this : Nat) : Sn G yX12_readGroup cX12_readGroup 2 none 10 215 (fun _ : Unit => none) (X12_readGroup_125  this) 125 [some (va_rf (some this)), none] [] := by
  unfold X12_readGroup_125
  refine sn_aload_n (v := (some this)) (pc' := 126) dX12_readGroup_125 rfl rfl rfl ?_
  refine sn_dup (pc' := 127) dX12_readGroup_126 rfl (cat_rf _) ?_
  refine sn_gI (k := 24) (pc' := 130) ci_13 rfl (Or.inl tw1302) dX12_readGroup_127 rfl (fun v1 => ?_)
  refine sn_iconst (v := (1 : Int32)) (pc' := 131) dX12_readGroup_130 rfl (by decide) ?_
  refine sn_iadd (pc' := 132) dX12_readGroup_131 rfl ?_
  refine sn_pI (k := 24) (pc' := 135) ci_13 rfl (Or.inl tw1302) (Or.inl rfl) rfl dX12_readGroup_132 rfl (fun _ => ?_)
  refine sn_aload_n (v := (some this)) (pc' := 136) dX12_readGroup_135 rfl rfl rfl ?_
  refine sn_gR (k := 31) (pc' := 139) ci_13 rfl (Or.inl tw1309) dX12_readGroup_136 rfl (fun v2 => ?_)
  refine sn_aload_n (v := (some this)) (pc' := 140) dX12_readGroup_139 rfl rfl rfl ?_
  refine sn_gI (k := 24) (pc' := 143) ci_13 rfl (Or.inl tw1302) dX12_readGroup_140 rfl (fun v3 => ?_)
  refine sn_aload_n (v := (some this)) (pc' := 144) dX12_readGroup_143 rfl rfl rfl ?_
  refine sn_gI (k := 25) (pc' := 147) ci_13 rfl (Or.inl tw1303) dX12_readGroup_144 rfl (fun v4 => ?_)
  refine sn_sI (pc' := 148) dX12_readGroup_147 rfl (fun _ => ?_)
  exact sn_vret dX12_readGroup_148 rfl
set_option maxRecDepth 100000 in
set_option maxHeartbeats 4000000 in
theorem s_X12_readGroup_105 (G : GG)   (this : Nat) (y0 : Int32) (y1 : Int32) (y2 : Option Nat) : Sn G yX12_readGroup cX12_readGroup 2 none 10 215 (fun _ : Unit => none) (X12_readGroup_105  this y0 y1 y2) 105 [some (va_rf (some this)), none] [.int y0, .int y1, va_rf y2] := by
  unfold X12_readGroup_105
  refine sn_sI (pc' := 106) dX12_readGroup_105 rfl (fun _ => ?_)
  refine sn_aload_n (v := (some this)) (pc' := 107) dX12_readGroup_106 rfl rfl rfl ?_
  refine sn_bipush (v := (40 : Int32)) (pc' := 109) dX12_readGroup_107 rfl (by decide) ?_
  refine sn_cV (r := (some this)) (st := []) (As := [.int (40 : Int32)]) (st2 := (fun v => .int v :: [])) (pc' := 112) ci_13 (fun t => c_X12_goes G t (40 : Int32)) cw_X12_goes rfl rfl tw1480 pw52 tw1482 rfl rfl cat_nil rfl (fun _ => rfl) dX12_readGroup_109 rfl (fun v1 => ?_)
  refine sn_if_eq (pt := 125) (pf := 115) dX12_readGroup_112 rfl rfl ?_ ?_
  · exact sn_weak (le_s (le_n le_e)) (s_X12_readGroup_125 G this)
  · refine sn_aload_n (v := (some this)) (pc' := 116) dX12_readGroup_115 rfl rfl rfl ?_
    refine sn_cV (r := (some this)) (st := []) (As := []) (st2 := (fun _ => [])) (pc' := 119) ci_13 (fun t => c_X12_readChanges G t ) cw_X12_readChanges rfl rfl tw1488 pw54 tw1490 rfl rfl cat_nil rfl (fun _ => rfl) dX12_readGroup_116 rfl (fun _ => ?_)
    refine sn_aload_n (v := (some this)) (pc' := 120) dX12_readGroup_119 rfl rfl rfl ?_
    refine sn_bipush (v := (41 : Int32)) (pc' := 122) dX12_readGroup_120 rfl (by decide) ?_
    refine sn_cV (r := (some this)) (st := []) (As := [.int (41 : Int32)]) (st2 := (fun _ => [])) (pc' := 125) ci_13 (fun t => c_X12_must G t (41 : Int32)) cw_X12_must rfl rfl tw1496 pw56 tw1498 rfl rfl cat_nil rfl (fun _ => rfl) dX12_readGroup_122 rfl (fun _ => ?_)
    exact sn_weak (le_s (le_n le_e)) (s_X12_readGroup_125 G this)
set_option maxRecDepth 100000 in
set_option maxHeartbeats 4000000 in
theorem s_X12_readGroup_99 (G : GG)   (this : Nat) (x1 : Int32) (y0 : Int32) (y1 : Option Nat) : Sn G yX12_readGroup cX12_readGroup 2 none 10 215 (fun _ : Unit => none) (X12_readGroup_99  this x1 y0 y1) 99 [some (va_rf (some this)), some (.int x1)] [.int y0, va_rf y1] := by
  unfold X12_readGroup_99
  refine sn_aload_n (v := (some this)) (pc' := 100) dX12_readGroup_99 rfl rfl rfl ?_
  refine sn_gR (k := 29) (pc' := 103) ci_13 rfl (Or.inl tw1307) dX12_readGroup_100 rfl (fun v1 => ?_)
  refine sn_iload_n (v := x1) (pc' := 104) dX12_readGroup_103 rfl rfl rfl ?_
  refine sn_aI (pc' := 105) dX12_readGroup_104 rfl (fun v2 => ?_)
  exact sn_weak (le_s (le_n le_e)) (s_X12_readGroup_105 G this v2 y0 y1)
set_option maxRecDepth 100000 in
set_option maxHeartbeats 4000000 in
theorem s_X12_readGroup_56 (G : GG)   (this : Nat) (x1 : Int32) (y0 : Int32) (y1 : Int32) (y2 : Option Nat) : Sn G yX12_readGroup cX12_readGroup 2 none 10 215 (fun _ : Unit => none) (X12_readGroup_56  this x1 y0 y1 y2) 56 [some (va_rf (some this)), some (.int x1)] [.int y0, .int y1, va_rf y2] := by
  unfold X12_readGroup_56
  refine sn_sI (pc' := 57) dX12_readGroup_56 rfl (fun _ => ?_)
  refine sn_aload_n (v := (some this)) (pc' := 58) dX12_readGroup_57 rfl rfl rfl ?_
  refine sn_gR (k := 29) (pc' := 61) ci_13 rfl (Or.inl tw1307) dX12_readGroup_58 rfl (fun v1 => ?_)
  refine sn_iload_n (v := x1) (pc' := 62) dX12_readGroup_61 rfl rfl rfl ?_
  refine sn_aload_n (v := (some this)) (pc' := 63) dX12_readGroup_62 rfl rfl rfl ?_
  refine sn_iconst (v := (3 : Int32)) (pc' := 64) dX12_readGroup_63 rfl (by decide) ?_
  refine sn_cV (r := (some this)) (st := [.int x1, va_rf v1]) (As := [.int (3 : Int32)]) (st2 := (fun v => .int v :: [.int x1, va_rf v1])) (pc' := 67) ci_13 (fun t => c_X12_take G t (3 : Int32)) cw_X12_take rfl rfl tw1476 pw51 tw1478 rfl rfl (cat_i (cat_q cat_nil)) rfl (fun _ => rfl) dX12_readGroup_64 rfl (fun v2 => ?_)
  refine sn_sI (pc' := 68) dX12_readGroup_67 rfl (fun _ => ?_)
  refine sn_aload_n (v := (some this)) (pc' := 69) dX12_readGroup_68 rfl rfl rfl ?_
  refine sn_gR (k := 30) (pc' := 72) ci_13 rfl (Or.inl tw1308) dX12_readGroup_69 rfl (fun v3 => ?_)
  refine sn_iload_n (v := x1) (pc' := 73) dX12_readGroup_72 rfl rfl rfl ?_
  refine sn_aload_n (v := (some this)) (pc' := 74) dX12_readGroup_73 rfl rfl rfl ?_
  refine sn_gR (k := 28) (pc' := 77) ci_13 rfl (Or.inl tw1306) dX12_readGroup_74 rfl (fun v4 => ?_)
  refine sn_iload_n (v := x1) (pc' := 78) dX12_readGroup_77 rfl rfl rfl ?_
  refine sn_aB (pc' := 79) dX12_readGroup_78 rfl (fun v5 => ?_)
  refine sn_if_eq (pt := 99) (pf := 82) dX12_readGroup_79 rfl rfl ?_ ?_
  · exact sn_weak (le_s (le_s le_e)) (s_X12_readGroup_99 G this x1 x1 v3)
  · refine sn_aload_n (v := (some this)) (pc' := 83) dX12_readGroup_82 rfl rfl rfl ?_
    refine sn_bipush (v := (44 : Int32)) (pc' := 85) dX12_readGroup_83 rfl (by decide) ?_
    refine sn_cV (r := (some this)) (st := [.int x1, va_rf v3]) (As := [.int (44 : Int32)]) (st2 := (fun v => .int v :: [.int x1, va_rf v3])) (pc' := 88) ci_13 (fun t => c_X12_goes G t (44 : Int32)) cw_X12_goes rfl rfl tw1480 pw52 tw1482 rfl rfl (cat_i (cat_q cat_nil)) rfl (fun _ => rfl) dX12_readGroup_85 rfl (fun v6 => ?_)
    refine sn_if_eq (pt := 99) (pf := 91) dX12_readGroup_88 rfl rfl ?_ ?_
    · exact sn_weak (le_s (le_s le_e)) (s_X12_readGroup_99 G this x1 x1 v3)
    · refine sn_aload_n (v := (some this)) (pc' := 92) dX12_readGroup_91 rfl rfl rfl ?_
      refine sn_iconst (v := (3 : Int32)) (pc' := 93) dX12_readGroup_92 rfl (by decide) ?_
      refine sn_cV (r := (some this)) (st := [.int x1, va_rf v3]) (As := [.int (3 : Int32)]) (st2 := (fun v => .int v :: [.int x1, va_rf v3])) (pc' := 96) ci_13 (fun t => c_X12_take G t (3 : Int32)) cw_X12_take rfl rfl tw1476 pw51 tw1478 rfl rfl (cat_i (cat_q cat_nil)) rfl (fun _ => rfl) dX12_readGroup_93 rfl (fun v7 => ?_)
      refine sn_goto (pc' := 105) dX12_readGroup_96 rfl ?_
      exact sn_weak (le_s (le_n le_e)) (s_X12_readGroup_105 G this v7 x1 v3)
set_option maxRecDepth 100000 in
set_option maxHeartbeats 4000000 in
theorem s_X12_readGroup (G : GG) (this : Nat) : Sn G yX12_readGroup cX12_readGroup 2 none 10 215 (fun _ : Unit => none) (X12_readGroup this) 0 [some (va_rf (some this)), none] [] := by
  unfold X12_readGroup
  refine sn_aload_n (v := (some this)) (pc' := 1) dX12_readGroup_0 rfl rfl rfl ?_
  refine sn_gI (k := 24) (pc' := 4) ci_13 rfl (Or.inl tw1302) dX12_readGroup_1 rfl (fun v1 => ?_)
  refine sn_istore_n (v := v1) (L' := [some (va_rf (some this)), some (.int v1)]) (pc' := 5) dX12_readGroup_4 rfl rfl rfl rfl ?_
  refine sn_aload_n (v := (some this)) (pc' := 6) dX12_readGroup_5 rfl rfl rfl ?_
  refine sn_gR (k := 26) (pc' := 9) ci_13 rfl (Or.inl tw1304) dX12_readGroup_6 rfl (fun v2 => ?_)
  refine sn_iload_n (v := v1) (pc' := 10) dX12_readGroup_9 rfl rfl rfl ?_
  refine sn_aload_n (v := (some this)) (pc' := 11) dX12_readGroup_10 rfl rfl rfl ?_
  refine sn_iconst (v := (2 : Int32)) (pc' := 12) dX12_readGroup_11 rfl (by decide) ?_
  refine sn_cV (r := (some this)) (st := [.int v1, va_rf v2]) (As := [.int (2 : Int32)]) (st2 := (fun v => .int v :: [.int v1, va_rf v2])) (pc' := 15) ci_13 (fun t => c_X12_take G t (2 : Int32)) cw_X12_take rfl rfl tw1476 pw51 tw1478 rfl rfl (cat_i (cat_q cat_nil)) rfl (fun _ => rfl) dX12_readGroup_12 rfl (fun v3 => ?_)
  refine sn_sI (pc' := 16) dX12_readGroup_15 rfl (fun _ => ?_)
  refine sn_aload_n (v := (some this)) (pc' := 17) dX12_readGroup_16 rfl rfl rfl ?_
  refine sn_gR (k := 28) (pc' := 20) ci_13 rfl (Or.inl tw1306) dX12_readGroup_17 rfl (fun v4 => ?_)
  refine sn_iload_n (v := v1) (pc' := 21) dX12_readGroup_20 rfl rfl rfl ?_
  refine sn_aload_n (v := (some this)) (pc' := 22) dX12_readGroup_21 rfl rfl rfl ?_
  refine sn_bipush (v := (45 : Int32)) (pc' := 24) dX12_readGroup_22 rfl (by decide) ?_
  refine sn_cV (r := (some this)) (st := [.int v1, va_rf v4]) (As := [.int (45 : Int32)]) (st2 := (fun v => .int v :: [.int v1, va_rf v4])) (pc' := 27) ci_13 (fun t => c_X12_goes G t (45 : Int32)) cw_X12_goes rfl rfl tw1480 pw52 tw1482 rfl rfl (cat_i (cat_q cat_nil)) rfl (fun _ => rfl) dX12_readGroup_24 rfl (fun v5 => ?_)
  refine sn_sB (pc' := 28) dX12_readGroup_27 rfl (fun _ => ?_)
  refine sn_aload_n (v := (some this)) (pc' := 29) dX12_readGroup_28 rfl rfl rfl ?_
  refine sn_gR (k := 27) (pc' := 32) ci_13 rfl (Or.inl tw1305) dX12_readGroup_29 rfl (fun v6 => ?_)
  refine sn_iload_n (v := v1) (pc' := 33) dX12_readGroup_32 rfl rfl rfl ?_
  refine sn_aload_n (v := (some this)) (pc' := 34) dX12_readGroup_33 rfl rfl rfl ?_
  refine sn_gR (k := 28) (pc' := 37) ci_13 rfl (Or.inl tw1306) dX12_readGroup_34 rfl (fun v7 => ?_)
  refine sn_iload_n (v := v1) (pc' := 38) dX12_readGroup_37 rfl rfl rfl ?_
  refine sn_aB (pc' := 39) dX12_readGroup_38 rfl (fun v8 => ?_)
  refine sn_if_eq (pt := 50) (pf := 42) dX12_readGroup_39 rfl rfl ?_ ?_
  · refine sn_aload_n (v := (some this)) (pc' := 51) dX12_readGroup_50 rfl rfl rfl ?_
    refine sn_gR (k := 26) (pc' := 54) ci_13 rfl (Or.inl tw1304) dX12_readGroup_51 rfl (fun v9 => ?_)
    refine sn_iload_n (v := v1) (pc' := 55) dX12_readGroup_54 rfl rfl rfl ?_
    refine sn_aI (pc' := 56) dX12_readGroup_55 rfl (fun v10 => ?_)
    exact sn_weak (le_s (le_s le_e)) (s_X12_readGroup_56 G this v1 v10 v1 v6)
  · refine sn_aload_n (v := (some this)) (pc' := 43) dX12_readGroup_42 rfl rfl rfl ?_
    refine sn_iconst (v := (2 : Int32)) (pc' := 44) dX12_readGroup_43 rfl (by decide) ?_
    refine sn_cV (r := (some this)) (st := [.int v1, va_rf v6]) (As := [.int (2 : Int32)]) (st2 := (fun v => .int v :: [.int v1, va_rf v6])) (pc' := 47) ci_13 (fun t => c_X12_take G t (2 : Int32)) cw_X12_take rfl rfl tw1476 pw51 tw1478 rfl rfl (cat_i (cat_q cat_nil)) rfl (fun _ => rfl) dX12_readGroup_44 rfl (fun v11 => ?_)
    refine sn_goto (pc' := 56) dX12_readGroup_47 rfl ?_
    exact sn_weak (le_s (le_s le_e)) (s_X12_readGroup_56 G this v1 v11 v1 v6)
theorem c_X12_readGroup (G : GG) (this : Nat) : Cal G yX12_readGroup cX12_readGroup 2 none 10 215 (fun _ : Unit => none) (X12_readGroup this) [.ref this] :=
  Cal.of (by decide) (cat_t cat_nil) rfl (sn_weak (le_s (le_z le_e)) (s_X12_readGroup G this))
theorem cw_X12_readGroup : CW yX12_readGroup cX12_readGroup 2 none 0 := ⟨tw1475, tw15, by decide, by decide +kernel⟩
/-! X12_isSize -/
theorem dX12_isSize_0 : decode cX12_isSize 0 = .ok (.iload_n 0, 1) := by decide +kernel
theorem dX12_isSize_1 : decode cX12_isSize 1 = .ok (.iconst 1, 1) := by decide +kernel
theorem dX12_isSize_2 : decode cX12_isSize 2 = .ok (.if_icmp .eq 19, 3) := by decide +kernel
theorem dX12_isSize_5 : decode cX12_isSize 5 = .ok (.iload_n 0, 1) := by decide +kernel
theorem dX12_isSize_6 : decode cX12_isSize 6 = .ok (.iconst 2, 1) := by decide +kernel
theorem dX12_isSize_7 : decode cX12_isSize 7 = .ok (.irem, 1) := by decide +kernel
theorem dX12_isSize_8 : decode cX12_isSize 8 = .ok (.ifCond .ne 17, 3) := by decide +kernel
theorem dX12_isSize_11 : decode cX12_isSize 11 = .ok (.iload_n 0, 1) := by decide +kernel
theorem dX12_isSize_12 : decode cX12_isSize 12 = .ok (.iconst 2, 1) := by decide +kernel
theorem dX12_isSize_13 : decode cX12_isSize 13 = .ok (.bipush 12, 2) := by decide +kernel
theorem dX12_isSize_15 : decode cX12_isSize 15 = .ok (.invokestatic 10, 3) := by decide +kernel
theorem dX12_isSize_18 : decode cX12_isSize 18 = .ok (.ifCond .eq 7, 3) := by decide +kernel
theorem dX12_isSize_21 : decode cX12_isSize 21 = .ok (.iconst 1, 1) := by decide +kernel
theorem dX12_isSize_22 : decode cX12_isSize 22 = .ok (.goto 4, 3) := by decide +kernel
theorem dX12_isSize_25 : decode cX12_isSize 25 = .ok (.iconst 0, 1) := by decide +kernel
theorem dX12_isSize_26 : decode cX12_isSize 26 = .ok (.ireturn, 1) := by decide +kernel
def X12_isSize (a0 : Int32) : MM Int32 :=
  if a0 = (1 : Int32) then (mr (1 : Int32)) else (mb (rI a0 (2 : Int32)) fun v1 =>
  if v1 = 0 then (mb (X12_isIn a0 (2 : Int32) (12 : Int32)) fun v2 =>
  if v2 = 0 then (mr (0 : Int32)) else (mr (1 : Int32))) else (mr (0 : Int32)))
set_option maxRecDepth 100000 in
set_option maxHeartbeats 4000000 in
theorem s_X12_isSize (G : GG) (a0 : Int32) : Sn G yX12_isSize cX12_isSize 1 (some FieldType.boolean) 1 22 (fun v : Int32 => some (.int v)) (X12_isSize a0) 0 [some (.int a0)] [] := by
  unfold X12_isSize
  refine sn_iload_n (v := a0) (pc' := 1) dX12_isSize_0 rfl rfl rfl ?_
  refine sn_iconst (v := (1 : Int32)) (pc' := 2) dX12_isSize_1 rfl (by decide) ?_
  refine sn_ic_eq (pt := 21) (pf := 5) dX12_isSize_2 rfl rfl ?_ ?_
  · refine sn_iconst (v := (1 : Int32)) (pc' := 22) dX12_isSize_21 rfl (by decide) ?_
    refine sn_goto (pc' := 26) dX12_isSize_22 rfl ?_
    exact sn_iret dX12_isSize_26 rfl (by decide)
  · refine sn_iload_n (v := a0) (pc' := 6) dX12_isSize_5 rfl rfl rfl ?_
    refine sn_iconst (v := (2 : Int32)) (pc' := 7) dX12_isSize_6 rfl (by decide) ?_
    refine sn_rI (pc' := 8) dX12_isSize_7 rfl (fun v1 => ?_)
    refine sn_if_ne (pt := 25) (pf := 11) dX12_isSize_8 rfl rfl ?_ ?_
    · refine sn_iload_n (v := a0) (pc' := 12) dX12_isSize_11 rfl rfl rfl ?_
      refine sn_iconst (v := (2 : Int32)) (pc' := 13) dX12_isSize_12 rfl (by decide) ?_
      refine sn_bipush (v := (12 : Int32)) (pc' := 15) dX12_isSize_13 rfl (by decide) ?_
      refine sn_cS (st := []) (As := [.int a0, .int (2 : Int32), .int (12 : Int32)]) (st2 := (fun v => .int v :: [])) (pc' := 18) (c_X12_isIn G a0 (2 : Int32) (12 : Int32)) cw_X12_isIn rfl rfl tw1443 tw1444 rfl rfl cat_nil rfl (fun _ => rfl) dX12_isSize_15 rfl (fun v2 => ?_)
      refine sn_if_eq (pt := 25) (pf := 21) dX12_isSize_18 rfl rfl ?_ ?_
      · refine sn_iconst (v := (0 : Int32)) (pc' := 26) dX12_isSize_25 rfl (by decide) ?_
        exact sn_iret dX12_isSize_26 rfl (by decide)
      · refine sn_iconst (v := (1 : Int32)) (pc' := 22) dX12_isSize_21 rfl (by decide) ?_
        refine sn_goto (pc' := 26) dX12_isSize_22 rfl ?_
        exact sn_iret dX12_isSize_26 rfl (by decide)
    · refine sn_iconst (v := (0 : Int32)) (pc' := 26) dX12_isSize_25 rfl (by decide) ?_
      exact sn_iret dX12_isSize_26 rfl (by decide)
theorem c_X12_isSize (G : GG) (a0 : Int32) : Cal G yX12_isSize cX12_isSize 1 (some FieldType.boolean) 1 22 (fun v : Int32 => some (.int v)) (X12_isSize a0) [.int a0] :=
  Cal.of (by decide) (cat_i cat_nil) rfl (sn_weak (le_s le_e) (s_X12_isSize G a0))
theorem cw_X12_isSize : CW yX12_isSize cX12_isSize 1 (some FieldType.boolean) 1 := ⟨tw1514, tw15, by decide, by decide +kernel⟩
/-! X12_isTwice -/
theorem dX12_isTwice_0 : decode cX12_isTwice 0 = .ok (.iconst 0, 1) := by decide +kernel
theorem dX12_isTwice_1 : decode cX12_isTwice 1 = .ok (.istore_n 3, 1) := by decide +kernel
theorem dX12_isTwice_2 : decode cX12_isTwice 2 = .ok (.iload_n 1, 1) := by decide +kernel
theorem dX12_isTwice_3 : decode cX12_isTwice 3 = .ok (.istore 4, 2) := by decide +kernel
theorem dX12_isTwice_5 : decode cX12_isTwice 5 = .ok (.iload 4, 2) := by decide +kernel
theorem dX12_isTwice_7 : decode cX12_isTwice 7 = .ok (.iload_n 2, 1) := by decide +kernel
theorem dX12_isTwice_8 : decode cX12_isTwice 8 = .ok (.if_icmp .ge 106, 3) := by decide +kernel
theorem dX12_isTwice_11 : decode cX12_isTwice 11 = .ok (.iload_n 1, 1) := by decide +kernel
theorem dX12_isTwice_12 : decode cX12_isTwice 12 = .ok (.istore 5, 2) := by decide +kernel
theorem dX12_isTwice_14 : decode cX12_isTwice 14 = .ok (.iload 5, 2) := by decide +kernel
theorem dX12_isTwice_16 : decode cX12_isTwice 16 = .ok (.iload 4, 2) := by decide +kernel
theorem dX12_isTwice_18 : decode cX12_isTwice 18 = .ok (.if_icmp .ge 90, 3) := by decide +kernel
theorem dX12_isTwice_21 : decode cX12_isTwice 21 = .ok (.iload_n 3, 1) := by decide +kernel
theorem dX12_isTwice_22 : decode cX12_isTwice 22 = .ok (.ifCond .ne 74, 3) := by decide +kernel
theorem dX12_isTwice_25 : decode cX12_isTwice 25 = .ok (.aload_n 0, 1) := by decide +kernel
theorem dX12_isTwice_26 : decode cX12_isTwice 26 = .ok (.getfield 129, 3) := by decide +kernel
theorem dX12_isTwice_29 : decode cX12_isTwice 29 = .ok (.iload 4, 2) := by decide +kernel
theorem dX12_isTwice_31 : decode cX12_isTwice 31 = .ok (.iaload, 1) := by decide +kernel
theorem dX12_isTwice_32 : decode cX12_isTwice 32 = .ok (.aload_n 0, 1) := by decide +kernel
theorem dX12_isTwice_33 : decode cX12_isTwice 33 = .ok (.getfield 129, 3) := by decide +kernel
theorem dX12_isTwice_36 : decode cX12_isTwice 36 = .ok (.iload 5, 2) := by decide +kernel
theorem dX12_isTwice_38 : decode cX12_isTwice 38 = .ok (.iaload, 1) := by decide +kernel
theorem dX12_isTwice_39 : decode cX12_isTwice 39 = .ok (.if_icmp .ne 61, 3) := by decide +kernel
theorem dX12_isTwice_42 : decode cX12_isTwice 42 = .ok (.aload_n 0, 1) := by decide +kernel
theorem dX12_isTwice_43 : decode cX12_isTwice 43 = .ok (.getfield 135, 3) := by decide +kernel
theorem dX12_isTwice_46 : decode cX12_isTwice 46 = .ok (.iload 4, 2) := by decide +kernel
theorem dX12_isTwice_48 : decode cX12_isTwice 48 = .ok (.iaload, 1) := by decide +kernel
theorem dX12_isTwice_49 : decode cX12_isTwice 49 = .ok (.aload_n 0, 1) := by decide +kernel
theorem dX12_isTwice_50 : decode cX12_isTwice 50 = .ok (.getfield 135, 3) := by decide +kernel
theorem dX12_isTwice_53 : decode cX12_isTwice 53 = .ok (.iload 5, 2) := by decide +kernel
theorem dX12_isTwice_55 : decode cX12_isTwice 55 = .ok (.iaload, 1) := by decide +kernel
theorem dX12_isTwice_56 : decode cX12_isTwice 56 = .ok (.if_icmp .ne 44, 3) := by decide +kernel
theorem dX12_isTwice_59 : decode cX12_isTwice 59 = .ok (.aload_n 0, 1) := by decide +kernel
theorem dX12_isTwice_60 : decode cX12_isTwice 60 = .ok (.getfield 123, 3) := by decide +kernel
theorem dX12_isTwice_63 : decode cX12_isTwice 63 = .ok (.iload 4, 2) := by decide +kernel
theorem dX12_isTwice_65 : decode cX12_isTwice 65 = .ok (.iaload, 1) := by decide +kernel
theorem dX12_isTwice_66 : decode cX12_isTwice 66 = .ok (.bipush 43, 2) := by decide +kernel
theorem dX12_isTwice_68 : decode cX12_isTwice 68 = .ok (.if_icmp .ne 7, 3) := by decide +kernel
theorem dX12_isTwice_71 : decode cX12_isTwice 71 = .ok (.iconst 1, 1) := by decide +kernel
theorem dX12_isTwice_72 : decode cX12_isTwice 72 = .ok (.goto 4, 3) := by decide +kernel
theorem dX12_isTwice_75 : decode cX12_isTwice 75 = .ok (.iconst 0, 1) := by decide +kernel
theorem dX12_isTwice_76 : decode cX12_isTwice 76 = .ok (.aload_n 0, 1) := by decide +kernel
theorem dX12_isTwice_77 : decode cX12_isTwice 77 = .ok (.getfield 123, 3) := by decide +kernel
theorem dX12_isTwice_80 : decode cX12_isTwice 80 = .ok (.iload 5, 2) := by decide +kernel
theorem dX12_isTwice_82 : decode cX12_isTwice 82 = .ok (.iaload, 1) := by decide +kernel
theorem dX12_isTwice_83 : decode cX12_isTwice 83 = .ok (.bipush 43, 2) := by decide +kernel
theorem dX12_isTwice_85 : decode cX12_isTwice 85 = .ok (.if_icmp .ne 7, 3) := by decide +kernel
theorem dX12_isTwice_88 : decode cX12_isTwice 88 = .ok (.iconst 1, 1) := by decide +kernel
theorem dX12_isTwice_89 : decode cX12_isTwice 89 = .ok (.goto 4, 3) := by decide +kernel
theorem dX12_isTwice_92 : decode cX12_isTwice 92 = .ok (.iconst 0, 1) := by decide +kernel
theorem dX12_isTwice_93 : decode cX12_isTwice 93 = .ok (.if_icmp .ne 7, 3) := by decide +kernel
theorem dX12_isTwice_96 : decode cX12_isTwice 96 = .ok (.iconst 1, 1) := by decide +kernel
theorem dX12_isTwice_97 : decode cX12_isTwice 97 = .ok (.goto 4, 3) := by decide +kernel
theorem dX12_isTwice_100 : decode cX12_isTwice 100 = .ok (.iconst 0, 1) := by decide +kernel
theorem dX12_isTwice_101 : decode cX12_isTwice 101 = .ok (.istore_n 3, 1) := by decide +kernel
theorem dX12_isTwice_102 : decode cX12_isTwice 102 = .ok (.iinc 5 1, 3) := by decide +kernel
theorem dX12_isTwice_105 : decode cX12_isTwice 105 = .ok (.goto (-91), 3) := by decide +kernel
theorem dX12_isTwice_108 : decode cX12_isTwice 108 = .ok (.iinc 4 1, 3) := by decide +kernel
theorem dX12_isTwice_111 : decode cX12_isTwice 111 = .ok (.goto (-106), 3) := by decide +kernel
theorem dX12_isTwice_114 : decode cX12_isTwice 114 = .ok (.iload_n 3, 1) := by decide +kernel
theorem dX12_isTwice_115 : decode cX12_isTwice 115 = .ok (.ireturn, 1) := by decide +kernel
def X12_isTwice_101 (k5 : Nat → Int32 → Int32 → Int32 → Int32 → MM Int32) (k14 : Nat → Int32 → Int32 → Int32 → Int32 → Int32 → MM Int32) (this : Nat) (x1 : Int32) (x2 : Int32) (x4 : Int32) (x5 : Int32) (y0 : Int32) : MM Int32 :=
  (k14 this x1 x2 y0 x4 (x5 + (1 : Int32)))
def X12_isTwice_96 (k5 : Nat → Int32 → Int32 → Int32 → Int32 → MM Int32) (k14 : Nat → Int32 → Int32 → Int32 → Int32 → Int32 → MM Int32) (this : Nat) (x1 : Int32) (x2 : Int32) (x4 : Int32) (x5 : Int32) : MM Int32 :=
  (X12_isTwice_101 k5 k14 this x1 x2 x4 x5 (1 : Int32))
def X12_isTwice_100 (k5 : Nat → Int32 → Int32 → Int32 → Int32 → MM Int32) (k14 : Nat → Int32 → Int32 → Int32 → Int32 → Int32 → MM Int32) (this : Nat) (x1 : Int32) (x2 : Int32) (x4 : Int32) (x5 : Int32) : MM Int32 :=
  (X12_isTwice_101 k5 k14 this x1 x2 x4 x5 (0 : Int32))
def X12_isTwice_93 (k5 : Nat → Int32 → Int32 → Int32 → Int32 → MM Int32) (k14 : Nat → Int32 → Int32 → Int32 → Int32 → Int32 → MM Int32) (this : Nat) (x1 : Int32) (x2 : Int32) (x4 : Int32) (x5 : Int32) (y0 : Int32) (y1 : Int32) : MM Int32 :=
  if y1 = y0 then ((X12_isTwice_96 k5 k14 this x1 x2 x4 x5)) else ((X12_isTwice_100 k5 k14 this x1 x2 x4 x5))
def X12_isTwice_76 (k5 : Nat → Int32 → Int32 → Int32 → Int32 → MM Int32) (k14 : Nat → Int32 → Int32 → Int32 → Int32 → Int32 → MM Int32) (this : Nat) (x1 : Int32) (x2 : Int32) (x4 : Int32) (x5 : Int32) (y0 : Int32) : MM Int32 :=
  mb (gR 13 (some this) 32) fun v1 =>
  mb (aI v1 x5) fun v2 =>
  if v2 = (43 : Int32) then ((X12_isTwice_93 k5 k14 this x1 x2 x4 x5 (1 : Int32) y0)) else ((X12_isTwice_93 k5 k14 this x1 x2 x4 x5 (0 : Int32) y0))
def X12_isTwice_108 (k5 : Nat → Int32 → Int32 → Int32 → Int32 → MM Int32) (this : Nat) (x1 : Int32) (x2 : Int32) (x3 : Int32) (x4 : Int32) : MM Int32 :=
  (k5 this x1 x2 x3 (x4 + (1 : Int32)))
def X12_isTwice_14_st (k5 : Nat → Int32 → Int32 → Int32 → Int32 → MM Int32) (k14 : Nat → Int32 → Int32 → Int32 → Int32 → Int32 → MM Int32) (this : Nat) (x1 : Int32) (x2 : Int32) (x3 : Int32) (x4 : Int32) (x5 : Int32) : MM Int32 :=
  if x4 ≤ x5 then ((X12_isTwice_108 k5 this x1 x2 x3 x4)) else (if x3 = 0 then (mb (gR 13 (some this) 33) fun v1 =>
  mb (aI v1 x4) fun v2 =>
  mb (gR 13 (some this) 33) fun v3 =>
  mb (aI v3 x5) fun v4 =>
  if v2 = v4 then (mb (gR 13 (some this) 34) fun v5 =>
  mb (aI v5 x4) fun v6 =>
  mb (gR 13 (some this) 34) fun v7 =>
  mb (aI v7 x5) fun v8 =>
  if v6 = v8 then (mb (gR 13 (some this) 32) fun v9 =>
  mb (aI v9 x4) fun v10 =>
  if v10 = (43 : Int32) then ((X12_isTwice_76 k5 k14 this x1 x2 x4 x5 (1 : Int32))) else ((X12_isTwice_76 k5 k14 this x1 x2 x4 x5 (0 : Int32)))) else ((X12_isTwice_100 k5 k14 this x1 x2 x4 x5))) else ((X12_isTwice_100 k5 k14 this x1 x2 x4 x5))) else ((X12_isTwice_96 k5 k14 this x1 x2 x4 x5)))
def X12_isTwice_14 (k5 : Nat → Int32 → Int32 → Int32 → Int32 → MM Int32) : Nat → Nat → Int32 → Int32 → Int32 → Int32 → Int32 → MM Int32
  | 0 => fun _ _ _ _ _ _ => mf
  | n + 1 => fun this x1 x2 x3 x4 x5 => X12_isTwice_14_st k5 (X12_isTwice_14 k5 n) this x1 x2 x3 x4 x5
def X12_isTwice_5_st  (k5 : Nat → Int32 → Int32 → Int32 → Int32 → MM Int32) (this : Nat) (x1 : Int32) (x2 : Int32) (x3 : Int32) (x4 : Int32) : MM Int32 :=
  if x2 ≤ x4 then (mb (nzI x3) fun v1 =>
  mr v1) else ((X12_isTwice_14 k5 LFU this x1 x2 x3 x4 x1))
def X12_isTwice_5  : Nat → Nat → Int32 → Int32 → Int32 → Int32 → MM Int32
  | 0 => fun _ _ _ _ _ => mf
  | n + 1 => fun this x1 x2 x3 x4 => X12_isTwice_5_st  (X12_isTwice_5  n) this x1 x2 x3 x4
def X12_isTwice (this : Nat) (a1 : Int32) (a2 : Int32) : MM Int32 :=
  (X12_isTwice_5 LFU this a1 a2 (0 : Int32) a1)
set_option maxRecDepth 100000 in
set_option maxHeartbeats 4000000 in
theorem s_X12_isTwice_101 (G : GG) (k5 : Nat → Int32 → Int32 → Int32 → Int32 → MM Int32) (k14 : Nat → Int32 → Int32 → Int32 → Int32 → Int32 → MM Int32) (hk5 : ∀ (this : Nat) (x1 : Int32) (x2 : Int32) (x3 : Int32) (x4 : Int32), Sn G yX12_isTwice cX12_isTwice 6 (some FieldType.boolean) 0 0 (fun v : Int32 => some (.int v)) (k5 this x1 x2 x3 x4) 5 [some (va_rf (some this)), some (.int x1), some (.int x2), some (.int x3), some (.int x4), none] []) (hk14 : ∀ (this : Nat) (x1 : Int32) (x2 : Int32) (x3 : Int32) (x4 : Int32) (x5 : Int32), Sn G yX12_isTwice cX12_isTwice 6 (some FieldType.boolean) 0 0 (fun v : Int32 => some (.int v)) (k14 this x1 x2 x3 x4 x5) 14 [some (va_rf (some this)), some (.int x1), some (.int x2), some (.int x3), some (.int x4), some (.int x5)] []) (this : Nat) (x1 : Int32) (x2 : Int32) (x4 : Int32) (x5 : Int32) (y0 : Int32) : Sn G yX12_isTwice cX12_isTwice 6 (some FieldType.boolean) 0 0 (fun v : Int32 => some (.int v)) (X12_isTwice_101 k5 k14 this x1 x2 x4 x5 y0) 101 [some (va_rf (some this)), some (.int x1), some (.int x2), none, some (.int x4), some (.int x5)] [.int y0] := by
  unfold X12_isTwice_101
  refine sn_istore_n (v := y0) (L' := [some (va_rf (some this)), some (.int x1), some (.int x2), some (.int y0), some (.int x4), some (.int x5)]) (pc' := 102) dX12_isTwice_101 rfl rfl rfl rfl ?_
  refine sn_iinc (v := x5) (w := 1) (L' := [some (va_rf (some this)), some (.int x1), some (.int x2), some (.int y0), some (.int x4), some (.int (x5 + (1 : Int32)))]) (pc' := 105) dX12_isTwice_102 rfl rfl rfl (by decide) rfl ?_
  refine sn_goto (pc' := 14) dX12_isTwice_105 rfl ?_
  exact sn_weak (le_s (le_s (le_s (le_s (le_s (le_s le_e)))))) (hk14 this x1 x2 y0 x4 (x5 + (1 : Int32)))
set_option maxRecDepth 100000 in
set_option maxHeartbeats 4000000 in
theorem s_X12_isTwice_96 (G : GG) (k5 : Nat → Int32 → Int32 → Int32 → Int32 → MM Int32) (k14 : Nat → Int32 → Int32 → Int32 → Int32 → Int32 → MM Int32) (hk5 : ∀ (this : Nat) (x1 : Int32) (x2 : Int32) (x3 : Int32) (x4 : Int32), Sn G yX12_isTwice cX12_isTwice 6 (some FieldType.boolean) 0 0 (fun v : Int32 => some (.int v)) (k5 this x1 x2 x3 x4) 5 [some (va_rf (some this)), some (.int x1), some (.int x2), some (.int x3), some (.int x4), none] []) (hk14 : ∀ (this : Nat) (x1 : Int32) (x2 : Int32) (x3 : Int32) (x4 : Int32) (x5 : Int32), Sn G yX12_isTwice cX12_isTwice 6 (some FieldType.boolean) 0 0 (fun v : Int32 => some (.int v)) (k14 this x1 x2 x3 x4 x5) 14 [some (va_rf (some this)), some (.int x1), some (.int x2), some (.int x3), some (.int x4), some (.int x5)] []) (this : Nat) (x1 : Int32) (x2 : Int32) (x4 : Int32) (x5 : Int32) : Sn G yX12_isTwice cX12_isTwice 6 (some FieldType.boolean) 0 0 (fun v : Int32 => some (.int v)) (X12_isTwice_96 k5 k14 this x1 x2 x4 x5) 96 [some (va_rf (some this)), some (.int x1), some (.int x2), none, some (.int x4), some (.int x5)] [] := by
  unfold X12_isTwice_96
  refine sn_iconst (v := (1 : Int32)) (pc' := 97) dX12_isTwice_96 rfl (by decide) ?_
  refine sn_goto (pc' := 101) dX12_isTwice_97 rfl ?_
  exact sn_weak (le_s (le_s (le_s (le_n (le_s (le_s le_e)))))) (s_X12_isTwice_101 G k5 k14 hk5 hk14 this x1 x2 x4 x5 (1 : Int32))
set_option maxRecDepth 100000 in
set_option maxHeartbeats 4000000 in
theorem s_X12_isTwice_100 (G : GG) (k5 : Nat → Int32 → Int32 → Int32 → Int32 → MM Int32) (k14 : Nat → Int32 → Int32 → Int32 → Int32 → Int32 → MM Int32) (hk5 : ∀ (this : Nat) (x1 : Int32) (x2 : Int32) (x3 : Int32) (x4 : Int32), Sn G yX12_isTwice cX12_isTwice 6 (some FieldType.boolean) 0 0 (fun v : Int32 => some (.int v)) (k5 this x1 x2 x3 x4) 5 [some (va_rf (some this)), some (.int x1), some (.int x2), some (.int x3), some (.int x4), none] []) (hk14 : ∀ (this : Nat) (x1 : Int32) (x2 : Int32) (x3 : Int32) (x4 : Int32) (x5 : Int32), Sn G yX12_isTwice cX12_isTwice 6 (some FieldType.boolean) 0 0 (fun v : Int32 => some (.int v)) (k14 this x1 x2 x3 x4 x5) 14 [some (va_rf (some this)), some (.int x1), some (.int x2), some (.int x3), some (.int x4), some (.int x5)] []) (this : Nat) (x1 : Int32) (x2 : Int32) (x4 : Int32) (x5 : Int32) : Sn G yX12_isTwice cX12_isTwice 6 (some FieldType.boolean) 0 0 (fun v : Int32 => some (.int v)) (X12_isTwice_100 k5 k14 this x1 x2 x4 x5) 100 [some (va_rf (some this)), some (.int x1), some (.int x2), none, some (.int x4), some (.int x5)] [] := by
  unfold X12_isTwice_100
  refine sn_iconst (v := (0 : Int32)) (pc' := 101) dX12_isTwice_100 rfl (by decide) ?_
  exact sn_weak (le_s (le_s (le_s (le_n (le_s (le_s le_e)))))) (s_X12_isTwice_101 G k5 k14 hk5 hk14 this x1 x2 x4 x5 (0 : Int32))
set_option maxRecDepth 100000 in
set_option maxHeartbeats 4000000 in
theorem s_X12_isTwice_93 (G : GG) (k5 : Nat → Int32 → Int32 → Int32 → Int32 → MM Int32) (k14 : Nat → Int32 → Int32 → Int32 → Int32 → Int32 → MM Int32) (hk5 : ∀ (this : Nat) (x1 : Int32) (x2 : Int32) (x3 : Int32) (x4 : Int32), Sn G yX12_isTwice cX12_isTwice 6 (some FieldType.boolean) 0 0 (fun v : Int32 => some (.int v)) (k5 this x1 x2 x3 x4) 5 [some (va_rf (some this)), some (.int x1), some (.int x2), some (.int x3), some (.int x4), none] []) (hk14 : ∀ (this : Nat) (x1 : Int32) (x2 : Int32) (x3 : Int32) (x4 : Int32) (x5 : Int32), Sn G yX12_isTwice cX12_isTwice 6 (some FieldType.boolean) 0 0 (fun v : Int32 => some (.int v)) (k14 this x1 x2 x3 x4 x5) 14 [some (va_rf (some this)), some (.int x1), some (.int x2), some (.int x3), some (.int x4), some (.int x5)] []) (this : Nat) (x1 : Int32) (x2 : Int32) (x4 : Int32) (x5 : Int32) (y0 : Int32) (y1 : Int32) : Sn G yX12_isTwice cX12_isTwice 6 (some FieldType.boolean) 0 0 (fun v : Int32 => some (.int v)) (X12_isTwice_93 k5 k14 this x1 x2 x4 x5 y0 y1) 93 [some (va_rf (some this)), some (.int x1), some (.int x2), none, some (.int x4), some (.int x5)] [.int y0, .int y1] := by
  unfold X12_isTwice_93
  refine sn_ic_ne (pt := 100) (pf := 96) dX12_isTwice_93 rfl rfl ?_ ?_
  · exact sn_weak (le_s (le_s (le_s (le_n (le_s (le_s le_e)))))) (s_X12_isTwice_96 G k5 k14 hk5 hk14 this x1 x2 x4 x5)
  · exact sn_weak (le_s (le_s (le_s (le_n (le_s (le_s le_e)))))) (s_X12_isTwice_100 G k5 k14 hk5 hk14 this x1 x2 x4 x5)
set_option maxRecDepth 100000 in
set_option maxHeartbeats 4000000 in
theorem s_X12_isTwice_76 (G : GG) (k5 : Nat → Int32 → Int32 → Int32 → Int32 → MM Int32) (k14 : Nat → Int32 → Int32 → Int32 → Int32 → Int32 → MM Int32) (hk5 : ∀ (this : Nat) (x1 : Int32) (x2 : Int32) (x3 : Int32) (x4 : Int32), Sn G yX12_isTwice cX12_isTwice 6 (some FieldType.boolean) 0 0 (fun v : Int32 => some (.int v)) (k5 this x1 x2 x3 x4) 5 [some (va_rf (some this)), some (.int x1), some (.int x2), some (.int x3), some (.int x4), none] []) (hk14 : ∀ (this : Nat) (x1 : Int32) (x2 : Int32) (x3 : Int32) (x4 : Int32) (x5 : Int32), Sn G yX12_isTwice cX12_isTwice 6 (some FieldType.boolean) 0 0 (fun v : Int32 => some (.int v)) (k14 this x1 x2 x3 x4 x5) 14 [some (va_rf (some this)), some (.int x1), some (.int x2), some (.int x3), some (.int x4), some (.int x5)] []) (this : Nat) (x1 : Int32) (x2 : Int32) (x4 : Int32) (x5 : Int32) (y0 : Int32) : Sn G yX12_isTwice cX12_isTwice 6 (some FieldType.boolean) 0 0 (fun v : Int32 => some (.int v)) (X12_isTwice_76 k5 k14 this x1 x2 x4 x5 y0) 76 [some (va_rf (some this)), some (.int x1), some (.int x2), none, some (.int x4), some (.int x5)] [.int y0] := by
  unfold X12_isTwice_76
  refine sn_aload_n (v := (some this)) (pc' := 77) dX12_isTwice_76 rfl rfl rfl ?_
  refine sn_gR (k := 32) (pc' := 80) ci_13 rfl (Or.inl tw1310) dX12_isTwice_77 rfl (fun v1 => ?_)
  refine sn_iload (v := x5) (pc' := 82) dX12_isTwice_80 rfl rfl ?_
  refine sn_aI (pc' := 83) dX12_isTwice_82 rfl (fun v2 => ?_)
  refine sn_bipush (v := (43 : Int32)) (pc' := 85) dX12_isTwice_83 rfl (by decide) ?_
  refine sn_ic_ne (pt := 92) (pf := 88) dX12_isTwice_85 rfl rfl ?_ ?_
  · refine sn_iconst (v := (1 : Int32)) (pc' := 89) dX12_isTwice_88 rfl (by decide) ?_
    refine sn_goto (pc' := 93) dX12_isTwice_89 rfl ?_
    exact sn_weak (le_s (le_s (le_s (le_n (le_s (le_s le_e)))))) (s_X12_isTwice_93 G k5 k14 hk5 hk14 this x1 x2 x4 x5 (1 : Int32) y0)
  · refine sn_iconst (v := (0 : Int32)) (pc' := 93) dX12_isTwice_92 rfl (by decide) ?_
    exact sn_weak (le_s (le_s (le_s (le_n (le_s (le_s le_e)))))) (s_X12_isTwice_93 G k5 k14 hk5 hk14 this x1 x2 x4 x5 (0 : Int32) y0)
set_option maxRecDepth 100000 in
set_option maxHeartbeats 4000000 in
theorem s_X12_isTwice_108 (G : GG) (k5 : Nat → Int32 → Int32 → Int32 → Int32 → MM Int32) (hk5 : ∀ (this : Nat) (x1 : Int32) (x2 : Int32) (x3 : Int32) (x4 : Int32), Sn G yX12_isTwice cX12_isTwice 6 (some FieldType.boolean) 0 0 (fun v : Int32 => some (.int v)) (k5 this x1 x2 x3 x4) 5 [some (va_rf (some this)), some (.int x1), some (.int x2), some (.int x3), some (.int x4), none] []) (this : Nat) (x1 : Int32) (x2 : Int32) (x3 : Int32) (x4 : Int32) : Sn G yX12_isTwice cX12_isTwice 6 (some FieldType.boolean) 0 0 (fun v : Int32 => some (.int v)) (X12_isTwice_108 k5 this x1 x2 x3 x4) 108 [some (va_rf (some this)), some (.int x1), some (.int x2), some (.int x3), some (.int x4), none] [] := by
  unfold X12_isTwice_108
  refine sn_iinc (v := x4) (w := 1) (L' := [some (va_rf (some this)), some (.int x1), some (.int x2), some (.int x3), some (.int (x4 + (1 : Int32))), none]) (pc' := 111) dX12_isTwice_108 rfl rfl rfl (by decide) rfl ?_
  refine sn_goto (pc' := 5) dX12_isTwice_111 rfl ?_
  exact sn_weak (le_s (le_s (le_s (le_s (le_s (le_n le_e)))))) (hk5 this x1 x2 x3 (x4 + (1 : Int32)))
set_option maxRecDepth 100000 in
set_option maxHeartbeats 4000000 in
theorem s_X12_isTwice_14_st (G : GG) (k5 : Nat → Int32 → Int32 → Int32 → Int32 → MM Int32) (hk5 : ∀ (this : Nat) (x1 : Int32) (x2 : Int32) (x3 : Int32) (x4 : Int32), Sn G yX12_isTwice cX12_isTwice 6 (some FieldType.boolean) 0 0 (fun v : Int32 => some (.int v)) (k5 this x1 x2 x3 x4) 5 [some (va_rf (some this)), some (.int x1), some (.int x2), some (.int x3), some (.int x4), none] []) (k14 : Nat → Int32 → Int32 → Int32 → Int32 → Int32 → MM Int32) (hk14 : ∀ (this : Nat) (x1 : Int32) (x2 : Int32) (x3 : Int32) (x4 : Int32) (x5 : Int32), Sn G yX12_isTwice cX12_isTwice 6 (some FieldType.boolean) 0 0 (fun v : Int32 => some (.int v)) (k14 this x1 x2 x3 x4 x5) 14 [some (va_rf (some this)), some (.int x1), some (.int x2), some (.int x3), some (.int x4), some (.int x5)] []) (this : Nat) (x1 : Int32) (x2 : Int32) (x3 : Int32) (x4 : Int32) (x5 : Int32) : Sn G yX12_isTwice cX12_isTwice 6 (some FieldType.boolean) 0 0 (fun v : Int32 => some (.int v)) (X12_isTwice_14_st k5 k14 this x1 x2 x3 x4 x5) 14 [some (va_rf (some this)), some (.int x1), some (.int x2), some (.int x3), some (.int x4), some (.int x5)] [] := by
  unfold X12_isTwice_14_st
  refine sn_iload (v := x5) (pc' := 16) dX12_isTwice_14 rfl rfl ?_
  refine sn_iload (v := x4) (pc' := 18) dX12_isTwice_16 rfl rfl ?_
  refine sn_ic_ge (pt := 108) (pf := 21) dX12_isTwice_18 rfl rfl ?_ ?_
  · exact sn_weak (le_s (le_s (le_s (le_s (le_s (le_n le_e)))))) (s_X12_isTwice_108 G k5 hk5 this x1 x2 x3 x4)
  · refine sn_iload_n (v := x3) (pc' := 22) dX12_isTwice_21 rfl rfl rfl ?_
    refine sn_if_ne (pt := 96) (pf := 25) dX12_isTwice_22 rfl rfl ?_ ?_
    · refine sn_aload_n (v := (some this)) (pc' := 26) dX12_isTwice_25 rfl rfl rfl ?_
      refine sn_gR (k := 33) (pc' := 29) ci_13 rfl (Or.inl tw1311) dX12_isTwice_26 rfl (fun v1 => ?_)
      refine sn_iload (v := x4) (pc' := 31) dX12_isTwice_29 rfl rfl ?_
      refine sn_aI (pc' := 32) dX12_isTwice_31 rfl (fun v2 => ?_)
      refine sn_aload_n (v := (some this)) (pc' := 33) dX12_isTwice_32 rfl rfl rfl ?_
      refine sn_gR (k := 33) (pc' := 36) ci_13 rfl (Or.inl tw1311) dX12_isTwice_33 rfl (fun v3 => ?_)
      refine sn_iload (v := x5) (pc' := 38) dX12_isTwice_36 rfl rfl ?_
      refine sn_aI (pc' := 39) dX12_isTwice_38 rfl (fun v4 => ?_)
      refine sn_ic_ne (pt := 100) (pf := 42) dX12_isTwice_39 rfl rfl ?_ ?_
      · refine sn_aload_n (v := (some this)) (pc' := 43) dX12_isTwice_42 rfl rfl rfl ?_
        refine sn_gR (k := 34) (pc' := 46) ci_13 rfl (Or.inl tw1312) dX12_isTwice_43 rfl (fun v5 => ?_)
        refine sn_iload (v := x4) (pc' := 48) dX12_isTwice_46 rfl rfl ?_
        refine sn_aI (pc' := 49) dX12_isTwice_48 rfl (fun v6 => ?_)
        refine sn_aload_n (v := (some this)) (pc' := 50) dX12_isTwice_49 rfl rfl rfl ?_
        refine sn_gR (k := 34) (pc' := 53) ci_13 rfl (Or.inl tw1312) dX12_isTwice_50 rfl (fun v7 => ?_)
        refine sn_iload (v := x5) (pc' := 55) dX12_isTwice_53 rfl rfl ?_
        refine sn_aI (pc' := 56) dX12_isTwice_55 rfl (fun v8 => ?_)
        refine sn_ic_ne (pt := 100) (pf := 59) dX12_isTwice_56 rfl rfl ?_ ?_
        · refine sn_aload_n (v := (some this)) (pc' := 60) dX12_isTwice_59 rfl rfl rfl ?_
          refine sn_gR (k := 32) (pc' := 63) ci_13 rfl (Or.inl tw1310) dX12_isTwice_60 rfl (fun v9 => ?_)
          refine sn_iload (v := x4) (pc' := 65) dX12_isTwice_63 rfl rfl ?_
          refine sn_aI (pc' := 66) dX12_isTwice_65 rfl (fun v10 => ?_)
          refine sn_bipush (v := (43 : Int32)) (pc' := 68) dX12_isTwice_66 rfl (by decide) ?_
          refine sn_ic_ne (pt := 75) (pf := 71) dX12_isTwice_68 rfl rfl ?_ ?_
          · refine sn_iconst (v := (1 : Int32)) (pc' := 72) dX12_isTwice_71 rfl (by decide) ?_
            refine sn_goto (pc' := 76) dX12_isTwice_72 rfl ?_
            exact sn_weak (le_s (le_s (le_s (le_n (le_s (le_s le_e)))))) (s_X12_isTwice_76 G k5 k14 hk5 hk14 this x1 x2 x4 x5 (1 : Int32))
          · refine sn_iconst (v := (0 : Int32)) (pc' := 76) dX12_isTwice_75 rfl (by decide) ?_
            exact sn_weak (le_s (le_s (le_s (le_n (le_s (le_s le_e)))))) (s_X12_isTwice_76 G k5 k14 hk5 hk14 this x1 x2 x4 x5 (0 : Int32))
        · exact sn_weak (le_s (le_s (le_s (le_n (le_s (le_s le_e)))))) (s_X12_isTwice_100 G k5 k14 hk5 hk14 this x1 x2 x4 x5)
      · exact sn_weak (le_s (le_s (le_s (le_n (le_s (le_s le_e)))))) (s_X12_isTwice_100 G k5 k14 hk5 hk14 this x1 x2 x4 x5)
    · exact sn_weak (le_s (le_s (le_s (le_n (le_s (le_s le_e)))))) (s_X12_isTwice_96 G k5 k14 hk5 hk14 this x1 x2 x4 x5)
set_option maxRecDepth 100000 in
set_option maxHeartbeats 4000000 in
theorem s_X12_isTwice_14 (G : GG) (k5 : Nat → Int32 → Int32 → Int32 → Int32 → MM Int32) (hk5 : ∀ (this : Nat) (x1 : Int32) (x2 : Int32) (x3 : Int32) (x4 : Int32), Sn G yX12_isTwice cX12_isTwice 6 (some FieldType.boolean) 0 0 (fun v : Int32 => some (.int v)) (k5 this x1 x2 x3 x4) 5 [some (va_rf (some this)), some (.int x1), some (.int x2), some (.int x3), some (.int x4), none] []) : ∀ (n : Nat) (this : Nat) (x1 : Int32) (x2 : Int32) (x3 : Int32) (x4 : Int32) (x5 : Int32), Sn G yX12_isTwice cX12_isTwice 6 (some FieldType.boolean) 0 0 (fun v : Int32 => some (.int v)) (X12_isTwice_14 k5 n this x1 x2 x3 x4 x5) 14 [some (va_rf (some this)), some (.int x1), some (.int x2), some (.int x3), some (.int x4), some (.int x5)] [] := by
  intro n
  induction n with
  | zero => intro this x1 x2 x3 x4 x5; exact sn_mf
  | succ n ih => intro this x1 x2 x3 x4 x5; exact s_X12_isTwice_14_st G k5 hk5 (X12_isTwice_14 k5 n) ih this x1 x2 x3 x4 x5
set_option maxRecDepth 100000 in
set_option maxHeartbeats 4000000 in
theorem s_X12_isTwice_5_st (G : GG)   (k5 : Nat → Int32 → Int32 → Int32 → Int32 → MM Int32) (hk5 : ∀ (this : Nat) (x1 : Int32) (x2 : Int32) (x3 : Int32) (x4 : Int32), Sn G yX12_isTwice cX12_isTwice 6 (some FieldType.boolean) 0 0 (fun v : Int32 => some (.int v)) (k5 this x1 x2 x3 x4) 5 [some (va_rf (some this)), some (.int x1), some (.int x2), some (.int x3), some (.int x4), none] []) (this : Nat) (x1 : Int32) (x2 : Int32) (x3 : Int32) (x4 : Int32) : Sn G yX12_isTwice cX12_isTwice 6 (some FieldType.boolean) 0 0 (fun v : Int32 => some (.int v)) (X12_isTwice_5_st  k5 this x1 x2 x3 x4) 5 [some (va_rf (some this)), some (.int x1), some (.int x2), some (.int x3), some (.int x4), none] [] := by
  unfold X12_isTwice_5_st
  refine sn_iload (v := x4) (pc' := 7) dX12_isTwice_5 rfl rfl ?_
  refine sn_iload_n (v := x2) (pc' := 8) dX12_isTwice_7 rfl rfl rfl ?_
  refine sn_ic_ge (pt := 114) (pf := 11) dX12_isTwice_8 rfl rfl ?_ ?_
  · refine sn_iload_n (v := x3) (pc' := 115) dX12_isTwice_114 rfl rfl rfl ?_
    refine sn_nz01 (fun v1 hz => ?_)
    exact sn_iret dX12_isTwice_115 rfl (nar_b hz)
  · refine sn_iload_n (v := x1) (pc' := 12) dX12_isTwice_11 rfl rfl rfl ?_
    refine sn_istore (v := x1) (L' := [some (va_rf (some this)), some (.int x1), some (.int x2), some (.int x3), some (.int x4), some (.int x1)]) (pc' := 14) dX12_isTwice_12 rfl rfl rfl ?_
    exact sn_weak (le_s (le_s (le_s (le_s (le_s (le_s le_e)))))) (s_X12_isTwice_14 G k5 hk5 LFU this x1 x2 x3 x4 x1)
set_option maxRecDepth 100000 in
set_option maxHeartbeats 4000000 in
theorem s_X12_isTwice_5 (G : GG)   : ∀ (n : Nat) (this : Nat) (x1 : Int32) (x2 : Int32) (x3 : Int32) (x4 : Int32), Sn G yX12_isTwice cX12_isTwice 6 (some FieldType.boolean) 0 0 (fun v : Int32 => some (.int v)) (X12_isTwice_5  n this x1 x2 x3 x4) 5 [some (va_rf (some this)), some (.int x1), some (.int x2), some (.int x3), some (.int x4), none] [] := by
  intro n
  induction n with
  | zero => intro this x1 x2 x3 x4; exact sn_mf
  | succ n ih => intro this x1 x2 x3 x4; exact s_X12_isTwice_5_st G   (X12_isTwice_5  n) ih this x1 x2 x3 x4
set_option maxRecDepth 100000 in
set_option maxHeartbeats 4000000 in
theorem s_X12_isTwice (G : GG) (this : Nat) (a1 : Int32) (a2 : Int32) : Sn G yX12_isTwice cX12_isTwice 6 (some FieldType.boolean) 0 0 (fun v : Int32 => some (.int v)) (X12_isTwice this a1 a2) 0 [some (va_rf (some this)), some (.int a1), some (.int a2), none, none, none] [] := by
  unfold X12_isTwice
  refine sn_iconst (v := (0 : Int32)) (pc' := 1) dX12_isTwice_0 rfl (by decide) ?_
  refine sn_istore_n (v := (0 : Int32)) (L' := [some (va_rf (some this)), some (.int a1), some (.int a2), some (.int (0 : Int32)), none, none]) (pc' := 2) dX12_isTwice_1 rfl rfl rfl rfl ?_
  refine sn_iload_n (v := a1) (pc' := 3) dX12_isTwice_2 rfl rfl rfl ?_
  refine sn_istore (v := a1) (L' := [some (va_rf (some this)), some (.int a1), some (.int a2), some (.int (0 : Int32)), some (.int a1), none]) (pc' := 5) dX12_isTwice_3 rfl rfl rfl ?_
  exact sn_weak (le_s (le_s (le_s (le_s (le_s (le_n le_e)))))) (s_X12_isTwice_5 G LFU this a1 a2 (0 : Int32) a1)
theorem c_X12_isTwice (G : GG) (this : Nat) (a1 : Int32) (a2 : Int32) : Cal G yX12_isTwice cX12_isTwice 6 (some FieldType.boolean) 0 0 (fun v : Int32 => some (.int v)) (X12_isTwice this a1 a2) [.ref this, .int a1, .int a2] :=
  Cal.of (by decide) (cat_t (cat_i (cat_i cat_nil))) rfl (sn_weak (le_s (le_s (le_s (le_z (le_z (le_z le_e)))))) (s_X12_isTwice G this a1 a2))
theorem cw_X12_isTwice : CW yX12_isTwice cX12_isTwice 6 (some FieldType.boolean) 2 := ⟨tw1522, tw15, by decide, by decide +kernel⟩
/-! X12_isFewPut -/
theorem dX12_isFewPut_0 : decode cX12_isFewPut 0 = .ok (.iconst 1, 1) := by decide +kernel
theorem dX12_isFewPut_1 : decode cX12_isFewPut 1 = .ok (.istore_n 3, 1) := by decide +kernel
theorem dX12_isFewPut_2 : decode cX12_isFewPut 2 = .ok (.iload_n 1, 1) := by decide +kernel
theorem dX12_isFewPut_3 : decode cX12_isFewPut 3 = .ok (.istore 4, 2) := by decide +kernel
theorem dX12_isFewPut_5 : decode cX12_isFewPut 5 = .ok (.iload 4, 2) := by decide +kernel
theorem dX12_isFewPut_7 : decode cX12_isFewPut 7 = .ok (.iload_n 2, 1) := by decide +kernel
theorem dX12_isFewPut_8 : decode cX12_isFewPut 8 = .ok (.if_icmp .ge 46, 3) := by decide +kernel
theorem dX12_isFewPut_11 : decode cX12_isFewPut 11 = .ok (.iload_n 3, 1) := by decide +kernel
theorem dX12_isFewPut_12 : decode cX12_isFewPut 12 = .ok (.ifCond .eq 34, 3) := by decide +kernel
theorem dX12_isFewPut_15 : decode cX12_isFewPut 15 = .ok (.aload_n 0, 1) := by decide +kernel
theorem dX12_isFewPut_16 : decode cX12_isFewPut 16 = .ok (.getfield 123, 3) := by decide +kernel
theorem dX12_isFewPut_19 : decode cX12_isFewPut 19 = .ok (.iload 4, 2) := by decide +kernel
theorem dX12_isFewPut_21 : decode cX12_isFewPut 21 = .ok (.iaload, 1) := by decide +kernel
theorem dX12_isFewPut_22 : decode cX12_isFewPut 22 = .ok (.bipush 43, 2) := by decide +kernel
theorem dX12_isFewPut_24 : decode cX12_isFewPut 24 = .ok (.if_icmp .ne 18, 3) := by decide +kernel
theorem dX12_isFewPut_27 : decode cX12_isFewPut 27 = .ok (.aload_n 0, 1) := by decide +kernel
theorem dX12_isFewPut_28 : decode cX12_isFewPut 28 = .ok (.getfield 138, 3) := by decide +kernel
theorem dX12_isFewPut_31 : decode cX12_isFewPut 31 = .ok (.iload 4, 2) := by decide +kernel
theorem dX12_isFewPut_33 : decode cX12_isFewPut 33 = .ok (.iaload, 1) := by decide +kernel
theorem dX12_isFewPut_34 : decode cX12_isFewPut 34 = .ok (.iconst 1, 1) := by decide +kernel
theorem dX12_isFewPut_35 : decode cX12_isFewPut 35 = .ok (.iconst 4, 1) := by decide +kernel
theorem dX12_isFewPut_36 : decode cX12_isFewPut 36 = .ok (.invokestatic 10, 3) := by decide +kernel
theorem dX12_isFewPut_39 : decode cX12_isFewPut 39 = .ok (.ifCond .eq 7, 3) := by decide +kernel
theorem dX12_isFewPut_42 : decode cX12_isFewPut 42 = .ok (.iconst 1, 1) := by decide +kernel
theorem dX12_isFewPut_43 : decode cX12_isFewPut 43 = .ok (.goto 4, 3) := by decide +kernel
theorem dX12_isFewPut_46 : decode cX12_isFewPut 46 = .ok (.iconst 0, 1) := by decide +kernel
theorem dX12_isFewPut_47 : decode cX12_isFewPut 47 = .ok (.istore_n 3, 1) := by decide +kernel
theorem dX12_isFewPut_48 : decode cX12_isFewPut 48 = .ok (.iinc 4 1, 3) := by decide +kernel
theorem dX12_isFewPut_51 : decode cX12_isFewPut 51 = .ok (.goto (-46), 3) := by decide +kernel
theorem dX12_isFewPut_54 : decode cX12_isFewPut 54 = .ok (.iload_n 3, 1) := by decide +kernel
theorem dX12_isFewPut_55 : decode cX12_isFewPut 55 = .ok (.ireturn, 1) := by decide +kernel
def X12_isFewPut_47 (k5 : Nat → Int32 → Int32 → Int32 → MM Int32) (this : Nat) (x2 : Int32) (x4 : Int32) (y0 : Int32) : MM Int32 :=
  (k5 this x2 y0 (x4 + (1 : Int32)))
def X12_isFewPut_42 (k5 : Nat → Int32 → Int32 → Int32 → MM Int32) (this : Nat) (x2 : Int32) (x4 : Int32) : MM Int32 :=
  (X12_isFewPut_47 k5 this x2 x4 (1 : Int32))
def X12_isFewPut_46 (k5 : Nat → Int32 → Int32 → Int32 → MM Int32) (this : Nat) (x2 : Int32) (x4 : Int32) : MM Int32 :=
  (X12_isFewPut_47 k5 this x2 x4 (0 : Int32))
def X12_isFewPut_5_st  (k5 : Nat → Int32 → Int32 → Int32 → MM Int32) (this : Nat) (x2 : Int32) (x3 : Int32) (x4 : Int32) : MM Int32 :=
  if x2 ≤ x4 then (mb (nzI x3) fun v1 =>
  mr v1) else (if x3 = 0 then ((X12_isFewPut_46 k5 this x2 x4)) else (mb (gR 13 (some this) 32) fun v2 =>
  mb (aI v2 x4) fun v3 =>
  if v3 = (43 : Int32) then (mb (gR 13 (some this) 35) fun v4 =>
  mb (aI v4 x4) fun v5 =>
  mb (X12_isIn v5 (1 : Int32) (4 : Int32)) fun v6 =>
  if v6 = 0 then ((X12_isFewPut_46 k5 this x2 x4)) else ((X12_isFewPut_42 k5 this x2 x4))) else ((X12_isFewPut_42 k5 this x2 x4))))
def X12_isFewPut_5  : Nat → Nat → Int32 → Int32 → Int32 → MM Int32
  | 0 => fun _ _ _ _ => mf
  | n + 1 => fun this x2 x3 x4 => X12_isFewPut_5_st  (X12_isFewPut_5  n) this x2 x3 x4
def X12_isFewPut (this : Nat) (a1 : Int32) (a2 : Int32) : MM Int32 :=
  (X12_isFewPut_5 LFU this a2 (1 : Int32) a1)
set_option maxRecDepth 100000 in
set_option maxHeartbeats 4000000 in
theorem s_X12_isFewPut_47 (G : GG) (k5 : Nat → Int32 → Int32 → Int32 → MM Int32) (hk5 : ∀ (this : Nat) (x2 : Int32) (x3 : Int32) (x4 : Int32), Sn G yX12_isFewPut cX12_isFewPut 5 (some FieldType.boolean) 1 22 (fun v : Int32 => some (.int v)) (k5 this x2 x3 x4) 5 [some (va_rf (some this)), none, some (.int x2), some (.int x3), some (.int x4)] []) (this : Nat) (x2 : Int32) (x4 : Int32) (y0 : Int32) : Sn G yX12_isFewPut cX12_isFewPut 5 (some FieldType.boolean) 1 22 (fun v : Int32 => some (.int v)) (X12_isFewPut_47 k5 this x2 x4 y0) 47 [some (va_rf (some this)), none, some (.int x2), none, some (.int x4)] [.int y0] := by
  unfold X12_isFewPut_47
  refine sn_istore_n (v := y0) (L' := [some (va_rf (some this)), none, some (.int x2), some (.int y0), some (.int x4)]) (pc' := 48) dX12_isFewPut_47 rfl rfl rfl rfl ?_
  refine sn_iinc (v := x4) (w := 1) (L' := [some (va_rf (some this)), none, some (.int x2), some (.int y0), some (.int (x4 + (1 : Int32)))]) (pc' := 51) dX12_isFewPut_48 rfl rfl rfl (by decide) rfl ?_
  refine sn_goto (pc' := 5) dX12_isFewPut_51 rfl ?_
  exact sn_weak (le_s (le_n (le_s (le_s (le_s le_e))))) (hk5 this x2 y0 (x4 + (1 : Int32)))
set_option maxRecDepth 100000 in
set_option maxHeartbeats 4000000 in
theorem s_X12_isFewPut_42 (G : GG) (k5 : Nat → Int32 → Int32 → Int32 → MM Int32) (hk5 : ∀ (this : Nat) (x2 : Int32) (x3 : Int32) (x4 : Int32), Sn G yX12_isFewPut cX12_isFewPut 5 (some FieldType.boolean) 1 22 (fun v : Int32 => some (.int v)) (k5 this x2 x3 x4) 5 [some (va_rf (some this)), none, some (.int x2), some (.int x3), some (.int x4)] []) (this : Nat) (x2 : Int32) (x4 : Int32) : Sn G yX12_isFewPut cX12_isFewPut 5 (some FieldType.boolean) 1 22 (fun v : Int32 => some (.int v)) (X12_isFewPut_42 k5 this x2 x4) 42 [some (va_rf (some this)), none, some (.int x2), none, some (.int x4)] [] := by
  unfold X12_isFewPut_42
  refine sn_iconst (v := (1 : Int32)) (pc' := 43) dX12_isFewPut_42 rfl (by decide) ?_
  refine sn_goto (pc' := 47) dX12_isFewPut_43 rfl ?_
  exact sn_weak (le_s (le_n (le_s (le_n (le_s le_e))))) (s_X12_isFewPut_47 G k5 hk5 this x2 x4 (1 : Int32))
set_option maxRecDepth 100000 in
set_option maxHeartbeats 4000000 in
theorem s_X12_isFewPut_46 (G : GG) (k5 : Nat → Int32 → Int32 → Int32 → MM Int32) (hk5 : ∀ (this : Nat) (x2 : Int32) (x3 : Int32) (x4 : Int32), Sn G yX12_isFewPut cX12_isFewPut 5 (some FieldType.boolean) 1 22 (fun v : Int32 => some (.int v)) (k5 this x2 x3 x4) 5 [some (va_rf (some this)), none, some (.int x2), some (.int x3), some (.int x4)] []) (this : Nat) (x2 : Int32) (x4 : Int32) : Sn G yX12_isFewPut cX12_isFewPut 5 (some FieldType.boolean) 1 22 (fun v : Int32 => some (.int v)) (X12_isFewPut_46 k5 this x2 x4) 46 [some (va_rf (some this)), none, some (.int x2), none, some (.int x4)] [] := by
  unfold X12_isFewPut_46
  refine sn_iconst (v := (0 : Int32)) (pc' := 47) dX12_isFewPut_46 rfl (by decide) ?_
  exact sn_weak (le_s (le_n (le_s (le_n (le_s le_e))))) (s_X12_isFewPut_47 G k5 hk5 this x2 x4 (0 : Int32))
set_option maxRecDepth 100000 in
set_option maxHeartbeats 4000000 in
theorem s_X12_isFewPut_5_st (G : GG)   (k5 : Nat → Int32 → Int32 → Int32 → MM Int32) (hk5 : ∀ (this : Nat) (x2 : Int32) (x3 : Int32) (x4 : Int32), Sn G yX12_isFewPut cX12_isFewPut 5 (some FieldType.boolean) 1 22 (fun v : Int32 => some (.int v)) (k5 this x2 x3 x4) 5 [some (va_rf (some this)), none, some (.int x2), some (.int x3), some (.int x4)] []) (this : Nat) (x2 : Int32) (x3 : Int32) (x4 : Int32) : Sn G yX12_isFewPut cX12_isFewPut 5 (some FieldType.boolean) 1 22 (fun v : Int32 => some (.int v)) (X12_isFewPut_5_st  k5 this x2 x3 x4) 5 [some (va_rf (some this)), none, some (.int x2), some (.int x3), some (.int x4)] [] := by
  unfold X12_isFewPut_5_st
  refine sn_iload (v := x4) (pc' := 7) dX12_isFewPut_5 rfl rfl ?_
  refine sn_iload_n (v := x2) (pc' := 8) dX12_isFewPut_7 rfl rfl rfl ?_
  refine sn_ic_ge (pt := 54) (pf := 11) dX12_isFewPut_8 rfl rfl ?_ ?_
  · refine sn_iload_n (v := x3) (pc' := 55) dX12_isFewPut_54 rfl rfl rfl ?_
    refine sn_nz01 (fun v1 hz => ?_)
    exact sn_iret dX12_isFewPut_55 rfl (nar_b hz)
  · refine sn_iload_n (v := x3) (pc' := 12) dX12_isFewPut_11 rfl rfl rfl ?_
    refine sn_if_eq (pt := 46) (pf := 15) dX12_isFewPut_12 rfl rfl ?_ ?_
    · exact sn_weak (le_s (le_n (le_s (le_n (le_s le_e))))) (s_X12_isFewPut_46 G k5 hk5 this x2 x4)
    · refine sn_aload_n (v := (some this)) (pc' := 16) dX12_isFewPut_15 rfl rfl rfl ?_
      refine sn_gR (k := 32) (pc' := 19) ci_13 rfl (Or.inl tw1310) dX12_isFewPut_16 rfl (fun v2 => ?_)
      refine sn_iload (v := x4) (pc' := 21) dX12_isFewPut_19 rfl rfl ?_
      refine sn_aI (pc' := 22) dX12_isFewPut_21 rfl (fun v3 => ?_)
      refine sn_bipush (v := (43 : Int32)) (pc' := 24) dX12_isFewPut_22 rfl (by decide) ?_
      refine sn_ic_ne (pt := 42) (pf := 27) dX12_isFewPut_24 rfl rfl ?_ ?_
      · refine sn_aload_n (v := (some this)) (pc' := 28) dX12_isFewPut_27 rfl rfl rfl ?_
        refine sn_gR (k := 35) (pc' := 31) ci_13 rfl (Or.inl tw1313) dX12_isFewPut_28 rfl (fun v4 => ?_)
        refine sn_iload (v := x4) (pc' := 33) dX12_isFewPut_31 rfl rfl ?_
        refine sn_aI (pc' := 34) dX12_isFewPut_33 rfl (fun v5 => ?_)
        refine sn_iconst (v := (1 : Int32)) (pc' := 35) dX12_isFewPut_34 rfl (by decide) ?_
        refine sn_iconst (v := (4 : Int32)) (pc' := 36) dX12_isFewPut_35 rfl (by decide) ?_
        refine sn_cS (st := []) (As := [.int v5, .int (1 : Int32), .int (4 : Int32)]) (st2 := (fun v => .int v :: [])) (pc' := 39) (c_X12_isIn G v5 (1 : Int32) (4 : Int32)) cw_X12_isIn rfl rfl tw1443 tw1444 rfl rfl cat_nil rfl (fun _ => rfl) dX12_isFewPut_36 rfl (fun v6 => ?_)
        refine sn_if_eq (pt := 46) (pf := 42) dX12_isFewPut_39 rfl rfl ?_ ?_
        · exact sn_weak (le_s (le_n (le_s (le_n (le_s le_e))))) (s_X12_isFewPut_46 G k5 hk5 this x2 x4)
        · exact sn_weak (le_s (le_n (le_s (le_n (le_s le_e))))) (s_X12_isFewPut_42 G k5 hk5 this x2 x4)
      · exact sn_weak (le_s (le_n (le_s (le_n (le_s le_e))))) (s_X12_isFewPut_42 G k5 hk5 this x2 x4)
set_option maxRecDepth 100000 in
set_option maxHeartbeats 4000000 in
theorem s_X12_isFewPut_5 (G : GG)   : ∀ (n : Nat) (this : Nat) (x2 : Int32) (x3 : Int32) (x4 : Int32), Sn G yX12_isFewPut cX12_isFewPut 5 (some FieldType.boolean) 1 22 (fun v : Int32 => some (.int v)) (X12_isFewPut_5  n this x2 x3 x4) 5 [some (va_rf (some this)), none, some (.int x2), some (.int x3), some (.int x4)] [] := by
  intro n
  induction n with
  | zero => intro this x2 x3 x4; exact sn_mf
  | succ n ih => intro this x2 x3 x4; exact s_X12_isFewPut_5_st G   (X12_isFewPut_5  n) ih this x2 x3 x4
set_option maxRecDepth 100000 in
set_option maxHeartbeats 4000000 in
theorem s_X12_isFewPut (G : GG) (this : Nat) (a1 : Int32) (a2 : Int32) : Sn G yX12_isFewPut cX12_isFewPut 5 (some FieldType.boolean) 1 22 (fun v : Int32 => some (.int v)) (X12_isFewPut this a1 a2) 0 [some (va_rf (some this)), some (.int a1), some (.int a2), none, none] [] := by
  unfold X12_isFewPut
  refine sn_iconst (v := (1 : Int32)) (pc' := 1) dX12_isFewPut_0 rfl (by decide) ?_
  refine sn_istore_n (v := (1 : Int32)) (L' := [some (va_rf (some this)), some (.int a1), some (.int a2), some (.int (1 : Int32)), none]) (pc' := 2) dX12_isFewPut_1 rfl rfl rfl rfl ?_
  refine sn_iload_n (v := a1) (pc' := 3) dX12_isFewPut_2 rfl rfl rfl ?_
  refine sn_istore (v := a1) (L' := [some (va_rf (some this)), some (.int a1), some (.int a2), some (.int (1 : Int32)), some (.int a1)]) (pc' := 5) dX12_isFewPut_3 rfl rfl rfl ?_
  exact sn_weak (le_s (le_n (le_s (le_s (le_s le_e))))) (s_X12_isFewPut_5 G LFU this a2 (1 : Int32) a1)
theorem c_X12_isFewPut (G : GG) (this : Nat) (a1 : Int32) (a2 : Int32) : Cal G yX12_isFewPut cX12_isFewPut 5 (some FieldType.boolean) 1 22 (fun v : Int32 => some (.int v)) (X12_isFewPut this a1 a2) [.ref this, .int a1, .int a2] :=
  Cal.of (by decide) (cat_t (cat_i (cat_i cat_nil))) rfl (sn_weak (le_s (le_s (le_s (le_z (le_z le_e))))) (s_X12_isFewPut G this a1 a2))
theorem cw_X12_isFewPut : CW yX12_isFewPut cX12_isFewPut 5 (some FieldType.boolean) 2 := ⟨tw1518, tw15, by decide, by decide +kernel⟩
/-! X12_faultOfGroup -/
theorem dX12_faultOfGroup_0 : decode cX12_faultOfGroup 0 = .ok (.aload_n 0, 1) := by decide +kernel
theorem dX12_faultOfGroup_1 : decode cX12_faultOfGroup 1 = .ok (.getfield 151, 3) := by decide +kernel
theorem dX12_faultOfGroup_4 : decode cX12_faultOfGroup 4 = .ok (.iload_n 1, 1) := by decide +kernel
theorem dX12_faultOfGroup_5 : decode cX12_faultOfGroup 5 = .ok (.iaload, 1) := by decide +kernel
theorem dX12_faultOfGroup_6 : decode cX12_faultOfGroup 6 = .ok (.istore 4, 2) := by decide +kernel
theorem dX12_faultOfGroup_8 : decode cX12_faultOfGroup 8 = .ok (.aload_n 0, 1) := by decide +kernel
theorem dX12_faultOfGroup_9 : decode cX12_faultOfGroup 9 = .ok (.getfield 158, 3) := by decide +kernel
theorem dX12_faultOfGroup_12 : decode cX12_faultOfGroup 12 = .ok (.iload_n 1, 1) := by decide +kernel
theorem dX12_faultOfGroup_13 : decode cX12_faultOfGroup 13 = .ok (.iaload, 1) := by decide +kernel
theorem dX12_faultOfGroup_14 : decode cX12_faultOfGroup 14 = .ok (.istore 5, 2) := by decide +kernel
theorem dX12_faultOfGroup_16 : decode cX12_faultOfGroup 16 = .ok (.aload_n 0, 1) := by decide +kernel
theorem dX12_faultOfGroup_17 : decode cX12_faultOfGroup 17 = .ok (.getfield 154, 3) := by decide +kernel
theorem dX12_faultOfGroup_20 : decode cX12_faultOfGroup 20 = .ok (.iload_n 1, 1) := by decide +kernel
theorem dX12_faultOfGroup_21 : decode cX12_faultOfGroup 21 = .ok (.baload, 1) := by decide +kernel
theorem dX12_faultOfGroup_22 : decode cX12_faultOfGroup 22 = .ok (.ifCond .eq 36, 3) := by decide +kernel
theorem dX12_faultOfGroup_25 : decode cX12_faultOfGroup 25 = .ok (.iload 4, 2) := by decide +kernel
theorem dX12_faultOfGroup_27 : decode cX12_faultOfGroup 27 = .ok (.ifCond .eq 29, 3) := by decide +kernel
theorem dX12_faultOfGroup_30 : decode cX12_faultOfGroup 30 = .ok (.iload 4, 2) := by decide +kernel
theorem dX12_faultOfGroup_32 : decode cX12_faultOfGroup 32 = .ok (.bipush 70, 2) := by decide +kernel
theorem dX12_faultOfGroup_34 : decode cX12_faultOfGroup 34 = .ok (.if_icmp .eq 22, 3) := by decide +kernel
theorem dX12_faultOfGroup_37 : decode cX12_faultOfGroup 37 = .ok (.iload 5, 2) := by decide +kernel
theorem dX12_faultOfGroup_39 : decode cX12_faultOfGroup 39 = .ok (.ifCond .eq 17, 3) := by decide +kernel
theorem dX12_faultOfGroup_42 : decode cX12_faultOfGroup 42 = .ok (.iload 5, 2) := by decide +kernel
theorem dX12_faultOfGroup_44 : decode cX12_faultOfGroup 44 = .ok (.bipush 70, 2) := by decide +kernel
theorem dX12_faultOfGroup_46 : decode cX12_faultOfGroup 46 = .ok (.if_icmp .eq 10, 3) := by decide +kernel
theorem dX12_faultOfGroup_49 : decode cX12_faultOfGroup 49 = .ok (.iload 5, 2) := by decide +kernel
theorem dX12_faultOfGroup_51 : decode cX12_faultOfGroup 51 = .ok (.iload 4, 2) := by decide +kernel
theorem dX12_faultOfGroup_53 : decode cX12_faultOfGroup 53 = .ok (.if_icmp .gt 5, 3) := by decide +kernel
theorem dX12_faultOfGroup_56 : decode cX12_faultOfGroup 56 = .ok (.iconst 1, 1) := by decide +kernel
theorem dX12_faultOfGroup_57 : decode cX12_faultOfGroup 57 = .ok (.ireturn, 1) := by decide +kernel
theorem dX12_faultOfGroup_58 : decode cX12_faultOfGroup 58 = .ok (.iload 4, 2) := by decide +kernel
theorem dX12_faultOfGroup_60 : decode cX12_faultOfGroup 60 = .ok (.bipush 70, 2) := by decide +kernel
theorem dX12_faultOfGroup_62 : decode cX12_faultOfGroup 62 = .ok (.if_icmp .ne 10, 3) := by decide +kernel
theorem dX12_faultOfGroup_65 : decode cX12_faultOfGroup 65 = .ok (.iload_n 3, 1) := by decide +kernel
theorem dX12_faultOfGroup_66 : decode cX12_faultOfGroup 66 = .ok (.ifCond .eq 14, 3) := by decide +kernel
theorem dX12_faultOfGroup_69 : decode cX12_faultOfGroup 69 = .ok (.goto 9, 3) := by decide +kernel
theorem dX12_faultOfGroup_72 : decode cX12_faultOfGroup 72 = .ok (.iload 4, 2) := by decide +kernel
theorem dX12_faultOfGroup_74 : decode cX12_faultOfGroup 74 = .ok (.iload_n 2, 1) := by decide +kernel
theorem dX12_faultOfGroup_75 : decode cX12_faultOfGroup 75 = .ok (.if_icmp .gt 5, 3) := by decide +kernel
theorem dX12_faultOfGroup_78 : decode cX12_faultOfGroup 78 = .ok (.iconst 2, 1) := by decide +kernel
theorem dX12_faultOfGroup_79 : decode cX12_faultOfGroup 79 = .ok (.ireturn, 1) := by decide +kernel
theorem dX12_faultOfGroup_80 : decode cX12_faultOfGroup 80 = .ok (.aload_n 0, 1) := by decide +kernel
theorem dX12_faultOfGroup_81 : decode cX12_faultOfGroup 81 = .ok (.getfield 161, 3) := by decide +kernel
theorem dX12_faultOfGroup_84 : decode cX12_faultOfGroup 84 = .ok (.iload_n 1, 1) := by decide +kernel
theorem dX12_faultOfGroup_85 : decode cX12_faultOfGroup 85 = .ok (.iaload, 1) := by decide +kernel
theorem dX12_faultOfGroup_86 : decode cX12_faultOfGroup 86 = .ok (.invokestatic 173, 3) := by decide +kernel
theorem dX12_faultOfGroup_89 : decode cX12_faultOfGroup 89 = .ok (.ifCond .eq 15, 3) := by decide +kernel
theorem dX12_faultOfGroup_92 : decode cX12_faultOfGroup 92 = .ok (.aload_n 0, 1) := by decide +kernel
theorem dX12_faultOfGroup_93 : decode cX12_faultOfGroup 93 = .ok (.getfield 164, 3) := by decide +kernel
theorem dX12_faultOfGroup_96 : decode cX12_faultOfGroup 96 = .ok (.iload_n 1, 1) := by decide +kernel
theorem dX12_faultOfGroup_97 : decode cX12_faultOfGroup 97 = .ok (.iaload, 1) := by decide +kernel
theorem dX12_faultOfGroup_98 : decode cX12_faultOfGroup 98 = .ok (.invokestatic 173, 3) := by decide +kernel
theorem dX12_faultOfGroup_101 : decode cX12_faultOfGroup 101 = .ok (.ifCond .ne 5, 3) := by decide +kernel
theorem dX12_faultOfGroup_104 : decode cX12_faultOfGroup 104 = .ok (.iconst 3, 1) := by decide +kernel
theorem dX12_faultOfGroup_105 : decode cX12_faultOfGroup 105 = .ok (.ireturn, 1) := by decide +kernel
theorem dX12_faultOfGroup_106 : decode cX12_faultOfGroup 106 = .ok (.aload_n 0, 1) := by decide +kernel
theorem dX12_faultOfGroup_107 : decode cX12_faultOfGroup 107 = .ok (.getfield 170, 3) := by decide +kernel
theorem dX12_faultOfGroup_110 : decode cX12_faultOfGroup 110 = .ok (.iload_n 1, 1) := by decide +kernel
theorem dX12_faultOfGroup_111 : decode cX12_faultOfGroup 111 = .ok (.iaload, 1) := by decide +kernel
theorem dX12_faultOfGroup_112 : decode cX12_faultOfGroup 112 = .ok (.istore 6, 2) := by decide +kernel
theorem dX12_faultOfGroup_114 : decode cX12_faultOfGroup 114 = .ok (.iload 6, 2) := by decide +kernel
theorem dX12_faultOfGroup_116 : decode cX12_faultOfGroup 116 = .ok (.aload_n 0, 1) := by decide +kernel
theorem dX12_faultOfGroup_117 : decode cX12_faultOfGroup 117 = .ok (.getfield 170, 3) := by decide +kernel
theorem dX12_faultOfGroup_120 : decode cX12_faultOfGroup 120 = .ok (.iload_n 1, 1) := by decide +kernel
theorem dX12_faultOfGroup_121 : decode cX12_faultOfGroup 121 = .ok (.iconst 1, 1) := by decide +kernel
theorem dX12_faultOfGroup_122 : decode cX12_faultOfGroup 122 = .ok (.iadd, 1) := by decide +kernel
theorem dX12_faultOfGroup_123 : decode cX12_faultOfGroup 123 = .ok (.iaload, 1) := by decide +kernel
theorem dX12_faultOfGroup_124 : decode cX12_faultOfGroup 124 = .ok (.if_icmp .ge 71, 3) := by decide +kernel
theorem dX12_faultOfGroup_127 : decode cX12_faultOfGroup 127 = .ok (.aload_n 0, 1) := by decide +kernel
theorem dX12_faultOfGroup_128 : decode cX12_faultOfGroup 128 = .ok (.getfield 129, 3) := by decide +kernel
theorem dX12_faultOfGroup_131 : decode cX12_faultOfGroup 131 = .ok (.iload 6, 2) := by decide +kernel
theorem dX12_faultOfGroup_133 : decode cX12_faultOfGroup 133 = .ok (.iaload, 1) := by decide +kernel
theorem dX12_faultOfGroup_134 : decode cX12_faultOfGroup 134 = .ok (.istore 7, 2) := by decide +kernel
theorem dX12_faultOfGroup_136 : decode cX12_faultOfGroup 136 = .ok (.iload 7, 2) := by decide +kernel
theorem dX12_faultOfGroup_138 : decode cX12_faultOfGroup 138 = .ok (.iload 4, 2) := by decide +kernel
theorem dX12_faultOfGroup_140 : decode cX12_faultOfGroup 140 = .ok (.iload 5, 2) := by decide +kernel
theorem dX12_faultOfGroup_142 : decode cX12_faultOfGroup 142 = .ok (.invokestatic 10, 3) := by decide +kernel
theorem dX12_faultOfGroup_145 : decode cX12_faultOfGroup 145 = .ok (.ifCond .eq 42, 3) := by decide +kernel
theorem dX12_faultOfGroup_148 : decode cX12_faultOfGroup 148 = .ok (.aload_n 0, 1) := by decide +kernel
theorem dX12_faultOfGroup_149 : decode cX12_faultOfGroup 149 = .ok (.getfield 135, 3) := by decide +kernel
theorem dX12_faultOfGroup_152 : decode cX12_faultOfGroup 152 = .ok (.iload 6, 2) := by decide +kernel
theorem dX12_faultOfGroup_154 : decode cX12_faultOfGroup 154 = .ok (.iaload, 1) := by decide +kernel
theorem dX12_faultOfGroup_155 : decode cX12_faultOfGroup 155 = .ok (.iconst 1, 1) := by decide +kernel
theorem dX12_faultOfGroup_156 : decode cX12_faultOfGroup 156 = .ok (.iload 7, 2) := by decide +kernel
theorem dX12_faultOfGroup_158 : decode cX12_faultOfGroup 158 = .ok (.iload 4, 2) := by decide +kernel
theorem dX12_faultOfGroup_160 : decode cX12_faultOfGroup 160 = .ok (.isub, 1) := by decide +kernel
theorem dX12_faultOfGroup_161 : decode cX12_faultOfGroup 161 = .ok (.iconst 2, 1) := by decide +kernel
theorem dX12_faultOfGroup_162 : decode cX12_faultOfGroup 162 = .ok (.irem, 1) := by decide +kernel
theorem dX12_faultOfGroup_163 : decode cX12_faultOfGroup 163 = .ok (.ifCond .ne 12, 3) := by decide +kernel
theorem dX12_faultOfGroup_166 : decode cX12_faultOfGroup 166 = .ok (.aload_n 0, 1) := by decide +kernel
theorem dX12_faultOfGroup_167 : decode cX12_faultOfGroup 167 = .ok (.getfield 161, 3) := by decide +kernel
theorem dX12_faultOfGroup_170 : decode cX12_faultOfGroup 170 = .ok (.iload_n 1, 1) := by decide +kernel
theorem dX12_faultOfGroup_171 : decode cX12_faultOfGroup 171 = .ok (.iaload, 1) := by decide +kernel
theorem dX12_faultOfGroup_172 : decode cX12_faultOfGroup 172 = .ok (.goto 9, 3) := by decide +kernel
theorem dX12_faultOfGroup_175 : decode cX12_faultOfGroup 175 = .ok (.aload_n 0, 1) := by decide +kernel
theorem dX12_faultOfGroup_176 : decode cX12_faultOfGroup 176 = .ok (.getfield 164, 3) := by decide +kernel
theorem dX12_faultOfGroup_179 : decode cX12_faultOfGroup 179 = .ok (.iload_n 1, 1) := by decide +kernel
theorem dX12_faultOfGroup_180 : decode cX12_faultOfGroup 180 = .ok (.iaload, 1) := by decide +kernel
theorem dX12_faultOfGroup_181 : decode cX12_faultOfGroup 181 = .ok (.invokestatic 10, 3) := by decide +kernel
theorem dX12_faultOfGroup_184 : decode cX12_faultOfGroup 184 = .ok (.ifCond .ne 5, 3) := by decide +kernel
theorem dX12_faultOfGroup_187 : decode cX12_faultOfGroup 187 = .ok (.iconst 4, 1) := by decide +kernel
theorem dX12_faultOfGroup_188 : decode cX12_faultOfGroup 188 = .ok (.ireturn, 1) := by decide +kernel
theorem dX12_faultOfGroup_189 : decode cX12_faultOfGroup 189 = .ok (.iinc 6 1, 3) := by decide +kernel
theorem dX12_faultOfGroup_192 : decode cX12_faultOfGroup 192 = .ok (.goto (-78), 3) := by decide +kernel
theorem dX12_faultOfGroup_195 : decode cX12_faultOfGroup 195 = .ok (.aload_n 0, 1) := by decide +kernel
theorem dX12_faultOfGroup_196 : decode cX12_faultOfGroup 196 = .ok (.aload_n 0, 1) := by decide +kernel
theorem dX12_faultOfGroup_197 : decode cX12_faultOfGroup 197 = .ok (.getfield 170, 3) := by decide +kernel
theorem dX12_faultOfGroup_200 : decode cX12_faultOfGroup 200 = .ok (.iload_n 1, 1) := by decide +kernel
theorem dX12_faultOfGroup_201 : decode cX12_faultOfGroup 201 = .ok (.iaload, 1) := by decide +kernel
theorem dX12_faultOfGroup_202 : decode cX12_faultOfGroup 202 = .ok (.aload_n 0, 1) := by decide +kernel
theorem dX12_faultOfGroup_203 : decode cX12_faultOfGroup 203 = .ok (.getfield 170, 3) := by decide +kernel
theorem dX12_faultOfGroup_206 : decode cX12_faultOfGroup 206 = .ok (.iload_n 1, 1) := by decide +kernel
theorem dX12_faultOfGroup_207 : decode cX12_faultOfGroup 207 = .ok (.iconst 1, 1) := by decide +kernel
theorem dX12_faultOfGroup_208 : decode cX12_faultOfGroup 208 = .ok (.iadd, 1) := by decide +kernel
theorem dX12_faultOfGroup_209 : decode cX12_faultOfGroup 209 = .ok (.iaload, 1) := by decide +kernel
theorem dX12_faultOfGroup_210 : decode cX12_faultOfGroup 210 = .ok (.invokevirtual 176, 3) := by decide +kernel
theorem dX12_faultOfGroup_213 : decode cX12_faultOfGroup 213 = .ok (.ifCond .ne 5, 3) := by decide +kernel
theorem dX12_faultOfGroup_216 : decode cX12_faultOfGroup 216 = .ok (.iconst 5, 1) := by decide +kernel
theorem dX12_faultOfGroup_217 : decode cX12_faultOfGroup 217 = .ok (.ireturn, 1) := by decide +kernel
theorem dX12_faultOfGroup_218 : decode cX12_faultOfGroup 218 = .ok (.aload_n 0, 1) := by decide +kernel
theorem dX12_faultOfGroup_219 : decode cX12_faultOfGroup 219 = .ok (.aload_n 0, 1) := by decide +kernel
theorem dX12_faultOfGroup_220 : decode cX12_faultOfGroup 220 = .ok (.getfield 170, 3) := by decide +kernel
theorem dX12_faultOfGroup_223 : decode cX12_faultOfGroup 223 = .ok (.iload_n 1, 1) := by decide +kernel
theorem dX12_faultOfGroup_224 : decode cX12_faultOfGroup 224 = .ok (.iaload, 1) := by decide +kernel
theorem dX12_faultOfGroup_225 : decode cX12_faultOfGroup 225 = .ok (.aload_n 0, 1) := by decide +kernel
theorem dX12_faultOfGroup_226 : decode cX12_faultOfGroup 226 = .ok (.getfield 170, 3) := by decide +kernel
theorem dX12_faultOfGroup_229 : decode cX12_faultOfGroup 229 = .ok (.iload_n 1, 1) := by decide +kernel
theorem dX12_faultOfGroup_230 : decode cX12_faultOfGroup 230 = .ok (.iconst 1, 1) := by decide +kernel
theorem dX12_faultOfGroup_231 : decode cX12_faultOfGroup 231 = .ok (.iadd, 1) := by decide +kernel
theorem dX12_faultOfGroup_232 : decode cX12_faultOfGroup 232 = .ok (.iaload, 1) := by decide +kernel
theorem dX12_faultOfGroup_233 : decode cX12_faultOfGroup 233 = .ok (.invokevirtual 179, 3) := by decide +kernel
theorem dX12_faultOfGroup_236 : decode cX12_faultOfGroup 236 = .ok (.ifCond .eq 8, 3) := by decide +kernel
theorem dX12_faultOfGroup_239 : decode cX12_faultOfGroup 239 = .ok (.bipush 6, 2) := by decide +kernel
theorem dX12_faultOfGroup_241 : decode cX12_faultOfGroup 241 = .ok (.goto 4, 3) := by decide +kernel
theorem dX12_faultOfGroup_244 : decode cX12_faultOfGroup 244 = .ok (.iconst 0, 1) := by decide +kernel
theorem dX12_faultOfGroup_245 : decode cX12_faultOfGroup 245 = .ok (.ireturn, 1) := by decide +kernel
def X12_faultOfGroup_181 (k114 : Nat → Int32 → Int32 → Int32 → Int32 → MM Int32) (this : Nat) (x1 : Int32) (x4 : Int32) (x5 : Int32) (x6 : Int32) (y0 : Int32) (y1 : Int32) (y2 : Int32) : MM Int32 :=
  mb (X12_isIn y2 y1 y0) fun v1 =>
  if v1 = 0 then (mr (4 : Int32)) else ((k114 this x1 x4 x5 (x6 + (1 : Int32))))
def X12_faultOfGroup_195  (this : Nat) (x1 : Int32) : MM Int32 :=
  mb (gR 13 (some this) 31) fun v1 =>
  mb (aI v1 x1) fun v2 =>
  mb (gR 13 (some this) 31) fun v3 =>
  mb (aI v3 (x1 + (1 : Int32))) fun v4 =>
  mb (wc 13 (some this) fun t => X12_isFewPut t v2 v4) fun v5 =>
  if v5 = 0 then (mr (5 : Int32)) else (mb (gR 13 (some this) 31) fun v6 =>
  mb (aI v6 x1) fun v7 =>
  mb (gR 13 (some this) 31) fun v8 =>
  mb (aI v8 (x1 + (1 : Int32))) fun v9 =>
  mb (wc 13 (some this) fun t => X12_isTwice t v7 v9) fun v10 =>
  if v10 = 0 then (mr (0 : Int32)) else (mr (6 : Int32)))
def X12_faultOfGroup_114_st  (k114 : Nat → Int32 → Int32 → Int32 → Int32 → MM Int32) (this : Nat) (x1 : Int32) (x4 : Int32) (x5 : Int32) (x6 : Int32) : MM Int32 :=
  mb (gR 13 (some this) 31) fun v1 =>
  mb (aI v1 (x1 + (1 : Int32))) fun v2 =>
  if v2 ≤ x6 then ((X12_faultOfGroup_195 this x1)) else (mb (gR 13 (some this) 33) fun v3 =>
  mb (aI v3 x6) fun v4 =>
  mb (X12_isIn v4 x4 x5) fun v5 =>
  if v5 = 0 then (mr (4 : Int32)) else (mb (gR 13 (some this) 34) fun v6 =>
  mb (aI v6 x6) fun v7 =>
  mb (rI (v4 - x4) (2 : Int32)) fun v8 =>
  if v8 = 0 then (mb (gR 13 (some this) 29) fun v9 =>
  mb (aI v9 x1) fun v10 =>
  (X12_faultOfGroup_181 k114 this x1 x4 x5 x6 v10 (1 : Int32) v7)) else (mb (gR 13 (some this) 30) fun v11 =>
  mb (aI v11 x1) fun v12 =>
  (X12_faultOfGroup_181 k114 this x1 x4 x5 x6 v12 (1 : Int32) v7))))
def X12_faultOfGroup_114  : Nat → Nat → Int32 → Int32 → Int32 → Int32 → MM Int32
  | 0 => fun _ _ _ _ _ => mf
  | n + 1 => fun this x1 x4 x5 x6 => X12_faultOfGroup_114_st  (X12_faultOfGroup_114  n) this x1 x4 x5 x6
def X12_faultOfGroup_80  (this : Nat) (x1 : Int32) (x4 : Int32) (x5 : Int32) : MM Int32 :=
  mb (gR 13 (some this) 29) fun v1 =>
  mb (aI v1 x1) fun v2 =>
  mb (X12_isSize v2) fun v3 =>
  if v3 = 0 then (mr (3 : Int32)) else (mb (gR 13 (some this) 30) fun v4 =>
  mb (aI v4 x1) fun v5 =>
  mb (X12_isSize v5) fun v6 =>
  if v6 = 0 then (mr (3 : Int32)) else (mb (gR 13 (some this) 31) fun v7 =>
  mb (aI v7 x1) fun v8 =>
  (X12_faultOfGroup_114 LFU this x1 x4 x5 v8)))
def X12_faultOfGroup_58  (this : Nat) (x1 : Int32) (x2 : Int32) (x3 : Int32) (x4 : Int32) (x5 : Int32) : MM Int32 :=
  if x4 = (70 : Int32) then (if x3 = 0 then ((X12_faultOfGroup_80 this x1 x4 x5)) else (mr (2 : Int32))) else (if x2 < x4 then ((X12_faultOfGroup_80 this x1 x4 x5)) else (mr (2 : Int32)))
def X12_faultOfGroup (this : Nat) (a1 : Int32) (a2 : Int32) (a3 : Int32) : MM Int32 :=
  mb (gR 13 (some this) 26) fun v1 =>
  mb (aI v1 a1) fun v2 =>
  mb (gR 13 (some this) 27) fun v3 =>
  mb (aI v3 a1) fun v4 =>
  mb (gR 13 (some this) 28) fun v5 =>
  mb (aB v5 a1) fun v6 =>
  if v6 = 0 then ((X12_faultOfGroup_58 this a1 a2 a3 v2 v4)) else (if v2 = 0 then (mr (1 : Int32)) else (if v2 = (70 : Int32) then (mr (1 : Int32)) else (if v4 = 0 then (mr (1 : Int32)) else (if v4 = (70 : Int32) then (mr (1 : Int32)) else (if v2 < v4 then ((X12_faultOfGroup_58 this a1 a2 a3 v2 v4)) else (mr (1 : Int32)))))))
set_option maxRecDepth 100000 in
set_option maxHeartbeats 4000000 in
theorem s_X12_faultOfGroup_181 (G : GG) (k114 : Nat → Int32 → Int32 → Int32 → Int32 → MM Int32) (hk114 : ∀ (this : Nat) (x1 : Int32) (x4 : Int32) (x5 : Int32) (x6 : Int32), Sn G yX12_faultOfGroup cX12_faultOfGroup 8 (some FieldType.int) 2 46 (fun v : Int32 => some (.int v)) (k114 this x1 x4 x5 x6) 114 [some (va_rf (some this)), some (.int x1), none, none, some (.int x4), some (.int x5), some (.int x6), none] []) (this : Nat) (x1 : Int32) (x4 : Int32) (x5 : Int32) (x6 : Int32) (y0 : Int32) (y1 : Int32) (y2 : Int32) : Sn G yX12_faultOfGroup cX12_faultOfGroup 8 (some FieldType.int) 2 46 (fun v : Int32 => some (.int v)) (X12_faultOfGroup_181 k114 this x1 x4 x5 x6 y0 y1 y2) 181 [some (va_rf (some this)), some (.int x1), none, none, some (.int x4), some (.int x5), some (.int x6), none] [.int y0, .int y1, .int y2] := by
  unfold X12_faultOfGroup_181
  refine sn_cS (st := []) (As := [.int y2, .int y1, .int y0]) (st2 := (fun v => .int v :: [])) (pc' := 184) (c_X12_isIn G y2 y1 y0) cw_X12_isIn rfl rfl tw1443 tw1444 rfl rfl cat_nil rfl (fun _ => rfl) dX12_faultOfGroup_181 rfl (fun v1 => ?_)
  refine sn_if_ne (pt := 189) (pf := 187) dX12_faultOfGroup_184 rfl rfl ?_ ?_
  · refine sn_iconst (v := (4 : Int32)) (pc' := 188) dX12_faultOfGroup_187 rfl (by decide) ?_
    exact sn_iret dX12_faultOfGroup_188 rfl rfl
  · refine sn_iinc (v := x6) (w := 1) (L' := [some (va_rf (some this)), some (.int x1), none, none, some (.int x4), some (.int x5), some (.int (x6 + (1 : Int32))), none]) (pc' := 192) dX12_faultOfGroup_189 rfl rfl rfl (by decide) rfl ?_
    refine sn_goto (pc' := 114) dX12_faultOfGroup_192 rfl ?_
    exact sn_weak (le_s (le_s (le_n (le_n (le_s (le_s (le_s (le_n le_e)))))))) (hk114 this x1 x4 x5 (x6 + (1 : Int32)))
set_option maxRecDepth 100000 in
set_option maxHeartbeats 4000000 in
theorem s_X12_faultOfGroup_195 (G : GG)   (this : Nat) (x1 : Int32) : Sn G yX12_faultOfGroup cX12_faultOfGroup 8 (some FieldType.int) 2 46 (fun v : Int32 => some (.int v)) (X12_faultOfGroup_195  this x1) 195 [some (va_rf (some this)), some (.int x1), none, none, none, none, none, none] [] := by
  unfold X12_faultOfGroup_195
  refine sn_aload_n (v := (some this)) (pc' := 196) dX12_faultOfGroup_195 rfl rfl rfl ?_
  refine sn_aload_n (v := (some this)) (pc' := 197) dX12_faultOfGroup_196 rfl rfl rfl ?_
  refine sn_gR (k := 31) (pc' := 200) ci_13 rfl (Or.inl tw1309) dX12_faultOfGroup_197 rfl (fun v1 => ?_)
  refine sn_iload_n (v := x1) (pc' := 201) dX12_faultOfGroup_200 rfl rfl rfl ?_
  refine sn_aI (pc' := 202) dX12_faultOfGroup_201 rfl (fun v2 => ?_)
  refine sn_aload_n (v := (some this)) (pc' := 203) dX12_faultOfGroup_202 rfl rfl rfl ?_
  refine sn_gR (k := 31) (pc' := 206) ci_13 rfl (Or.inl tw1309) dX12_faultOfGroup_203 rfl (fun v3 => ?_)
  refine sn_iload_n (v := x1) (pc' := 207) dX12_faultOfGroup_206 rfl rfl rfl ?_
  refine sn_iconst (v := (1 : Int32)) (pc' := 208) dX12_faultOfGroup_207 rfl (by decide) ?_
  refine sn_iadd (pc' := 209) dX12_faultOfGroup_208 rfl ?_
  refine sn_aI (pc' := 210) dX12_faultOfGroup_209 rfl (fun v4 => ?_)
  refine sn_cV (r := (some this)) (st := []) (As := [.int v2, .int v4]) (st2 := (fun v => .int v :: [])) (pc' := 213) ci_13 (fun t => c_X12_isFewPut G t v2 v4) cw_X12_isFewPut rfl rfl tw1515 pw60 tw1517 rfl rfl cat_nil rfl (fun _ => rfl) dX12_faultOfGroup_210 rfl (fun v5 => ?_)
  refine sn_if_ne (pt := 218) (pf := 216) dX12_faultOfGroup_213 rfl rfl ?_ ?_
  · refine sn_iconst (v := (5 : Int32)) (pc' := 217) dX12_faultOfGroup_216 rfl (by decide) ?_
    exact sn_iret dX12_faultOfGroup_217 rfl rfl
  · refine sn_aload_n (v := (some this)) (pc' := 219) dX12_faultOfGroup_218 rfl rfl rfl ?_
    refine sn_aload_n (v := (some this)) (pc' := 220) dX12_faultOfGroup_219 rfl rfl rfl ?_
    refine sn_gR (k := 31) (pc' := 223) ci_13 rfl (Or.inl tw1309) dX12_faultOfGroup_220 rfl (fun v6 => ?_)
    refine sn_iload_n (v := x1) (pc' := 224) dX12_faultOfGroup_223 rfl rfl rfl ?_
    refine sn_aI (pc' := 225) dX12_faultOfGroup_224 rfl (fun v7 => ?_)
    refine sn_aload_n (v := (some this)) (pc' := 226) dX12_faultOfGroup_225 rfl rfl rfl ?_
    refine sn_gR (k := 31) (pc' := 229) ci_13 rfl (Or.inl tw1309) dX12_faultOfGroup_226 rfl (fun v8 => ?_)
    refine sn_iload_n (v := x1) (pc' := 230) dX12_faultOfGroup_229 rfl rfl rfl ?_
    refine sn_iconst (v := (1 : Int32)) (pc' := 231) dX12_faultOfGroup_230 rfl (by decide) ?_
    refine sn_iadd (pc' := 232) dX12_faultOfGroup_231 rfl ?_
    refine sn_aI (pc' := 233) dX12_faultOfGroup_232 rfl (fun v9 => ?_)
    refine sn_cV (r := (some this)) (st := []) (As := [.int v7, .int v9]) (st2 := (fun v => .int v :: [])) (pc' := 236) ci_13 (fun t => c_X12_isTwice G t v7 v9) cw_X12_isTwice rfl rfl tw1519 pw61 tw1521 rfl rfl cat_nil rfl (fun _ => rfl) dX12_faultOfGroup_233 rfl (fun v10 => ?_)
    refine sn_if_eq (pt := 244) (pf := 239) dX12_faultOfGroup_236 rfl rfl ?_ ?_
    · refine sn_iconst (v := (0 : Int32)) (pc' := 245) dX12_faultOfGroup_244 rfl (by decide) ?_
      exact sn_iret dX12_faultOfGroup_245 rfl rfl
    · refine sn_bipush (v := (6 : Int32)) (pc' := 241) dX12_faultOfGroup_239 rfl (by decide) ?_
      refine sn_goto (pc' := 245) dX12_faultOfGroup_241 rfl ?_
      exact sn_iret dX12_faultOfGroup_245 rfl rfl
set_option maxRecDepth 100000 in
set_option maxHeartbeats 4000000 in
theorem s_X12_faultOfGroup_114_st (G : GG)   (k114 : Nat → Int32 → Int32 → Int32 → Int32 → MM Int32) (hk114 : ∀ (this : Nat) (x1 : Int32) (x4 : Int32) (x5 : Int32) (x6 : Int32), Sn G yX12_faultOfGroup cX12_faultOfGroup 8 (some FieldType.int) 2 46 (fun v : Int32 => some (.int v)) (k114 this x1 x4 x5 x6) 114 [some (va_rf (some this)), some (.int x1), none, none, some (.int x4), some (.int x5), some (.int x6), none] []) (this : Nat) (x1 : Int32) (x4 : Int32) (x5 : Int32) (x6 : Int32) : Sn G yX12_faultOfGroup cX12_faultOfGroup 8 (some FieldType.int) 2 46 (fun v : Int32 => some (.int v)) (X12_faultOfGroup_114_st  k114 this x1 x4 x5 x6) 114 [some (va_rf (some this)), some (.int x1), none, none, some (.int x4), some (.int x5), some (.int x6), none] [] := by
  unfold X12_faultOfGroup_114_st
  refine sn_iload (v := x6) (pc' := 116) dX12_faultOfGroup_114 rfl rfl ?_
  refine sn_aload_n (v := (some this)) (pc' := 117) dX12_faultOfGroup_116 rfl rfl rfl ?_
  refine sn_gR (k := 31) (pc' := 120) ci_13 rfl (Or.inl tw1309) dX12_faultOfGroup_117 rfl (fun v1 => ?_)
  refine sn_iload_n (v := x1) (pc' := 121) dX12_faultOfGroup_120 rfl rfl rfl ?_
  refine sn_iconst (v := (1 : Int32)) (pc' := 122) dX12_faultOfGroup_121 rfl (by decide) ?_
  refine sn_iadd (pc' := 123) dX12_faultOfGroup_122 rfl ?_
  refine sn_aI (pc' := 124) dX12_faultOfGroup_123 rfl (fun v2 => ?_)
  refine sn_ic_ge (pt := 195) (pf := 127) dX12_faultOfGroup_124 rfl rfl ?_ ?_
  · exact sn_weak (le_s (le_s (le_n (le_n (le_n (le_n (le_n (le_n le_e)))))))) (s_X12_faultOfGroup_195 G this x1)
  · refine sn_aload_n (v := (some this)) (pc' := 128) dX12_faultOfGroup_127 rfl rfl rfl ?_
    refine sn_gR (k := 33) (pc' := 131) ci_13 rfl (Or.inl tw1311) dX12_faultOfGroup_128 rfl (fun v3 => ?_)
    refine sn_iload (v := x6) (pc' := 133) dX12_faultOfGroup_131 rfl rfl ?_
    refine sn_aI (pc' := 134) dX12_faultOfGroup_133 rfl (fun v4 => ?_)
    refine sn_istore (v := v4) (L' := [some (va_rf (some this)), some (.int x1), none, none, some (.int x4), some (.int x5), some (.int x6), some (.int v4)]) (pc' := 136) dX12_faultOfGroup_134 rfl rfl rfl ?_
    refine sn_iload (v := v4) (pc' := 138) dX12_faultOfGroup_136 rfl rfl ?_
    refine sn_iload (v := x4) (pc' := 140) dX12_faultOfGroup_138 rfl rfl ?_
    refine sn_iload (v := x5) (pc' := 142) dX12_faultOfGroup_140 rfl rfl ?_
    refine sn_cS (st := []) (As := [.int v4, .int x4, .int x5]) (st2 := (fun v => .int v :: [])) (pc' := 145) (c_X12_isIn G v4 x4 x5) cw_X12_isIn rfl rfl tw1443 tw1444 rfl rfl cat_nil rfl (fun _ => rfl) dX12_faultOfGroup_142 rfl (fun v5 => ?_)
    refine sn_if_eq (pt := 187) (pf := 148) dX12_faultOfGroup_145 rfl rfl ?_ ?_
    · refine sn_iconst (v := (4 : Int32)) (pc' := 188) dX12_faultOfGroup_187 rfl (by decide) ?_
      exact sn_iret dX12_faultOfGroup_188 rfl rfl
    · refine sn_aload_n (v := (some this)) (pc' := 149) dX12_faultOfGroup_148 rfl rfl rfl ?_
      refine sn_gR (k := 34) (pc' := 152) ci_13 rfl (Or.inl tw1312) dX12_faultOfGroup_149 rfl (fun v6 => ?_)
      refine sn_iload (v := x6) (pc' := 154) dX12_faultOfGroup_152 rfl rfl ?_
      refine sn_aI (pc' := 155) dX12_faultOfGroup_154 rfl (fun v7 => ?_)
      refine sn_iconst (v := (1 : Int32)) (pc' := 156) dX12_faultOfGroup_155 rfl (by decide) ?_
      refine sn_iload (v := v4) (pc' := 158) dX12_faultOfGroup_156 rfl rfl ?_
      refine sn_iload (v := x4) (pc' := 160) dX12_faultOfGroup_158 rfl rfl ?_
      refine sn_isub (pc' := 161) dX12_faultOfGroup_160 rfl ?_
      refine sn_iconst (v := (2 : Int32)) (pc' := 162) dX12_faultOfGroup_161 rfl (by decide) ?_
      refine sn_rI (pc' := 163) dX12_faultOfGroup_162 rfl (fun v8 => ?_)
      refine sn_if_ne (pt := 175) (pf := 166) dX12_faultOfGroup_163 rfl rfl ?_ ?_
      · refine sn_aload_n (v := (some this)) (pc' := 167) dX12_faultOfGroup_166 rfl rfl rfl ?_
        refine sn_gR (k := 29) (pc' := 170) ci_13 rfl (Or.inl tw1307) dX12_faultOfGroup_167 rfl (fun v9 => ?_)
        refine sn_iload_n (v := x1) (pc' := 171) dX12_faultOfGroup_170 rfl rfl rfl ?_
        refine sn_aI (pc' := 172) dX12_faultOfGroup_171 rfl (fun v10 => ?_)
        refine sn_goto (pc' := 181) dX12_faultOfGroup_172 rfl ?_
        exact sn_weak (le_s (le_s (le_n (le_n (le_s (le_s (le_s (le_n le_e)))))))) (s_X12_faultOfGroup_181 G k114 hk114 this x1 x4 x5 x6 v10 (1 : Int32) v7)
      · refine sn_aload_n (v := (some this)) (pc' := 176) dX12_faultOfGroup_175 rfl rfl rfl ?_
        refine sn_gR (k := 30) (pc' := 179) ci_13 rfl (Or.inl tw1308) dX12_faultOfGroup_176 rfl (fun v11 => ?_)
        refine sn_iload_n (v := x1) (pc' := 180) dX12_faultOfGroup_179 rfl rfl rfl ?_
        refine sn_aI (pc' := 181) dX12_faultOfGroup_180 rfl (fun v12 => ?_)
        exact sn_weak (le_s (le_s (le_n (le_n (le_s (le_s (le_s (le_n le_e)))))))) (s_X12_faultOfGroup_181 G k114 hk114 this x1 x4 x5 x6 v12 (1 : Int32) v7)
set_option maxRecDepth 100000 in
set_option maxHeartbeats 4000000 in
theorem s_X12_faultOfGroup_114 (G : GG)   : ∀ (n : Nat) (this : Nat) (x1 : Int32) (x4 : Int32) (x5 : Int32) (x6 : Int32), Sn G yX12_faultOfGroup cX12_faultOfGroup 8 (some FieldType.int) 2 46 (fun v : Int32 => some (.int v)) (X12_faultOfGroup_114  n this x1 x4 x5 x6) 114 [some (va_rf (some this)), some (.int x1), none, none, some (.int x4), some (.int x5), some (.int x6), none] [] := by
  intro n
  induction n with
  | zero => intro this x1 x4 x5 x6; exact sn_mf
  | succ n ih => intro this x1 x4 x5 x6; exact s_X12_faultOfGroup_114_st G   (X12_faultOfGroup_114  n) ih this x1 x4 x5 x6
set_option maxRecDepth 100000 in
set_option maxHeartbeats 4000000 in
theorem s_X12_faultOfGroup_80 (G : GG)   (this : Nat) (x1 : Int32) (x4 : Int32) (x5 : Int32) : Sn G yX12_faultOfGroup cX12_faultOfGroup 8 (some FieldType.int) 2 46 (fun v : Int32 => some (.int v)) (X12_faultOfGroup_80  this x1 x4 x5) 80 [some (va_rf (some this)), some (.int x1), none, none, some (.int x4), some (.int x5), none, none] [] := by
  unfold X12_faultOfGroup_80
  refine sn_aload_n (v := (some this)) (pc' := 81) dX12_faultOfGroup_80 rfl rfl rfl ?_
  refine sn_gR (k := 29) (pc' := 84) ci_13 rfl (Or.inl tw1307) dX12_faultOfGroup_81 rfl (fun v1 => ?_)
  refine sn_iload_n (v := x1) (pc' := 85) dX12_faultOfGroup_84 rfl rfl rfl ?_
  refine sn_aI (pc' := 86) dX12_faultOfGroup_85 rfl (fun v2 => ?_)
  refine sn_cS (st := []) (As := [.int v2]) (st2 := (fun v => .int v :: [])) (pc' := 89) (c_X12_isSize G v2) cw_X12_isSize rfl rfl tw1512 tw1513 rfl rfl cat_nil rfl (fun _ => rfl) dX12_faultOfGroup_86 rfl (fun v3 => ?_)
  refine sn_if_eq (pt := 104) (pf := 92) dX12_faultOfGroup_89 rfl rfl ?_ ?_
  · refine sn_iconst (v := (3 : Int32)) (pc' := 105) dX12_faultOfGroup_104 rfl (by decide) ?_
    exact sn_iret dX12_faultOfGroup_105 rfl rfl
  · refine sn_aload_n (v := (some this)) (pc' := 93) dX12_faultOfGroup_92 rfl rfl rfl ?_
    refine sn_gR (k := 30) (pc' := 96) ci_13 rfl (Or.inl tw1308) dX12_faultOfGroup_93 rfl (fun v4 => ?_)
    refine sn_iload_n (v := x1) (pc' := 97) dX12_faultOfGroup_96 rfl rfl rfl ?_
    refine sn_aI (pc' := 98) dX12_faultOfGroup_97 rfl (fun v5 => ?_)
    refine sn_cS (st := []) (As := [.int v5]) (st2 := (fun v => .int v :: [])) (pc' := 101) (c_X12_isSize G v5) cw_X12_isSize rfl rfl tw1512 tw1513 rfl rfl cat_nil rfl (fun _ => rfl) dX12_faultOfGroup_98 rfl (fun v6 => ?_)
    refine sn_if_ne (pt := 106) (pf := 104) dX12_faultOfGroup_101 rfl rfl ?_ ?_
    · refine sn_iconst (v := (3 : Int32)) (pc' := 105) dX12_faultOfGroup_104 rfl (by decide) ?_
      exact sn_iret dX12_faultOfGroup_105 rfl rfl
    · refine sn_aload_n (v := (some this)) (pc' := 107) dX12_faultOfGroup_106 rfl rfl rfl ?_
      refine sn_gR (k := 31) (pc' := 110) ci_13 rfl (Or.inl tw1309) dX12_faultOfGroup_107 rfl (fun v7 => ?_)
      refine sn_iload_n (v := x1) (pc' := 111) dX12_faultOfGroup_110 rfl rfl rfl ?_
      refine sn_aI (pc' := 112) dX12_faultOfGroup_111 rfl (fun v8 => ?_)
      refine sn_istore (v := v8) (L' := [some (va_rf (some this)), some (.int x1), none, none, some (.int x4), some (.int x5), some (.int v8), none]) (pc' := 114) dX12_faultOfGroup_112 rfl rfl rfl ?_
      exact sn_weak (le_s (le_s (le_n (le_n (le_s (le_s (le_s (le_n le_e)))))))) (s_X12_faultOfGroup_114 G LFU this x1 x4 x5 v8)
set_option maxRecDepth 100000 in
set_option maxHeartbeats 4000000 in
theorem s_X12_faultOfGroup_58 (G : GG)   (this : Nat) (x1 : Int32) (x2 : Int32) (x3 : Int32) (x4 : Int32) (x5 : Int32) : Sn G yX12_faultOfGroup cX12_faultOfGroup 8 (some FieldType.int) 2 46 (fun v : Int32 => some (.int v)) (X12_faultOfGroup_58  this x1 x2 x3 x4 x5) 58 [some (va_rf (some this)), some (.int x1), some (.int x2), some (.int x3), some (.int x4), some (.int x5), none, none] [] := by
  unfold X12_faultOfGroup_58
  refine sn_iload (v := x4) (pc' := 60) dX12_faultOfGroup_58 rfl rfl ?_
  refine sn_bipush (v := (70 : Int32)) (pc' := 62) dX12_faultOfGroup_60 rfl (by decide) ?_
  refine sn_ic_ne (pt := 72) (pf := 65) dX12_faultOfGroup_62 rfl rfl ?_ ?_
  · refine sn_iload_n (v := x3) (pc' := 66) dX12_faultOfGroup_65 rfl rfl rfl ?_
    refine sn_if_eq (pt := 80) (pf := 69) dX12_faultOfGroup_66 rfl rfl ?_ ?_
    · exact sn_weak (le_s (le_s (le_n (le_n (le_s (le_s (le_n (le_n le_e)))))))) (s_X12_faultOfGroup_80 G this x1 x4 x5)
    · refine sn_goto (pc' := 78) dX12_faultOfGroup_69 rfl ?_
      refine sn_iconst (v := (2 : Int32)) (pc' := 79) dX12_faultOfGroup_78 rfl (by decide) ?_
      exact sn_iret dX12_faultOfGroup_79 rfl rfl
  · refine sn_iload (v := x4) (pc' := 74) dX12_faultOfGroup_72 rfl rfl ?_
    refine sn_iload_n (v := x2) (pc' := 75) dX12_faultOfGroup_74 rfl rfl rfl ?_
    refine sn_ic_gt (pt := 80) (pf := 78) dX12_faultOfGroup_75 rfl rfl ?_ ?_
    · exact sn_weak (le_s (le_s (le_n (le_n (le_s (le_s (le_n (le_n le_e)))))))) (s_X12_faultOfGroup_80 G this x1 x4 x5)
    · refine sn_iconst (v := (2 : Int32)) (pc' := 79) dX12_faultOfGroup_78 rfl (by decide) ?_
      exact sn_iret dX12_faultOfGroup_79 rfl rfl
set_option maxRecDepth 100000 in
set_option maxHeartbeats 4000000 in
theorem s_X12_faultOfGroup (G : GG) (this : Nat) (a1 : Int32) (a2 : Int32) (a3 : Int32) : Sn G yX12_faultOfGroup cX12_faultOfGroup 8 (some FieldType.int) 2 46 (fun v : Int32 => some (.int v)) (X12_faultOfGroup this a1 a2 a3) 0 [some (va_rf (some this)), some (.int a1), some (.int a2), some (.int a3), none, none, none, none] [] := by
  unfold X12_faultOfGroup
  refine sn_aload_n (v := (some this)) (pc' := 1) dX12_faultOfGroup_0 rfl rfl rfl ?_
  refine sn_gR (k := 26) (pc' := 4) ci_13 rfl (Or.inl tw1304) dX12_faultOfGroup_1 rfl (fun v1 => ?_)
  refine sn_iload_n (v := a1) (pc' := 5) dX12_faultOfGroup_4 rfl rfl rfl ?_
  refine sn_aI (pc' := 6) dX12_faultOfGroup_5 rfl (fun v2 => ?_)
  refine sn_istore (v := v2) (L' := [some (va_rf (some this)), some (.int a1), some (.int a2), some (.int a3), some (.int v2), none, none, none]) (pc' := 8) dX12_faultOfGroup_6 rfl rfl rfl ?_
  refine sn_aload_n (v := (some this)) (pc' := 9) dX12_faultOfGroup_8 rfl rfl rfl ?_
  refine sn_gR (k := 27) (pc' := 12) ci_13 rfl (Or.inl tw1305) dX12_faultOfGroup_9 rfl (fun v3 => ?_)
  refine sn_iload_n (v := a1) (pc' := 13) dX12_faultOfGroup_12 rfl rfl rfl ?_
  refine sn_aI (pc' := 14) dX12_faultOfGroup_13 rfl (fun v4 => ?_)
  refine sn_istore (v := v4) (L' := [some (va_rf (some this)), some (.int a1), some (.int a2), some (.int a3), some (.int v2), some (.int v4), none, none]) (pc' := 16) dX12_faultOfGroup_14 rfl rfl rfl ?_
  refine sn_aload_n (v := (some this)) (pc' := 17) dX12_faultOfGroup_16 rfl rfl rfl ?_
  refine sn_gR (k := 28) (pc' := 20) ci_13 rfl (Or.inl tw1306) dX12_faultOfGroup_17 rfl (fun v5 => ?_)
  refine sn_iload_n (v := a1) (pc' := 21) dX12_faultOfGroup_20 rfl rfl rfl ?_
  refine sn_aB (pc' := 22) dX12_faultOfGroup_21 rfl (fun v6 => ?_)
  refine sn_if_eq (pt := 58) (pf := 25) dX12_faultOfGroup_22 rfl rfl ?_ ?_
  · exact sn_weak (le_s (le_s (le_s (le_s (le_s (le_s (le_n (le_n le_e)))))))) (s_X12_faultOfGroup_58 G this a1 a2 a3 v2 v4)
  · refine sn_iload (v := v2) (pc' := 27) dX12_faultOfGroup_25 rfl rfl ?_
    refine sn_if_eq (pt := 56) (pf := 30) dX12_faultOfGroup_27 rfl rfl ?_ ?_
    · refine sn_iconst (v := (1 : Int32)) (pc' := 57) dX12_faultOfGroup_56 rfl (by decide) ?_
      exact sn_iret dX12_faultOfGroup_57 rfl rfl
    · refine sn_iload (v := v2) (pc' := 32) dX12_faultOfGroup_30 rfl rfl ?_
      refine sn_bipush (v := (70 : Int32)) (pc' := 34) dX12_faultOfGroup_32 rfl (by decide) ?_
      refine sn_ic_eq (pt := 56) (pf := 37) dX12_faultOfGroup_34 rfl rfl ?_ ?_
      · refine sn_iconst (v := (1 : Int32)) (pc' := 57) dX12_faultOfGroup_56 rfl (by decide) ?_
        exact sn_iret dX12_faultOfGroup_57 rfl rfl
      · refine sn_iload (v := v4) (pc' := 39) dX12_faultOfGroup_37 rfl rfl ?_
        refine sn_if_eq (pt := 56) (pf := 42) dX12_faultOfGroup_39 rfl rfl ?_ ?_
        · refine sn_iconst (v := (1 : Int32)) (pc' := 57) dX12_faultOfGroup_56 rfl (by decide) ?_
          exact sn_iret dX12_faultOfGroup_57 rfl rfl
        · refine sn_iload (v := v4) (pc' := 44) dX12_faultOfGroup_42 rfl rfl ?_
          refine sn_bipush (v := (70 : Int32)) (pc' := 46) dX12_faultOfGroup_44 rfl (by decide) ?_
          refine sn_ic_eq (pt := 56) (pf := 49) dX12_faultOfGroup_46 rfl rfl ?_ ?_
          · refine sn_iconst (v := (1 : Int32)) (pc' := 57) dX12_faultOfGroup_56 rfl (by decide) ?_
            exact sn_iret dX12_faultOfGroup_57 rfl rfl
          · refine sn_iload (v := v4) (pc' := 51) dX12_faultOfGroup_49 rfl rfl ?_
            refine sn_iload (v := v2) (pc' := 53) dX12_faultOfGroup_51 rfl rfl ?_
            refine sn_ic_gt (pt := 58) (pf := 56) dX12_faultOfGroup_53 rfl rfl ?_ ?_
            · exact sn_weak (le_s (le_s (le_s (le_s (le_s (le_s (le_n (le_n le_e)))))))) (s_X12_faultOfGroup_58 G this a1 a2 a3 v2 v4)
            · refine sn_iconst (v := (1 : Int32)) (pc' := 57) dX12_faultOfGroup_56 rfl (by decide) ?_
              exact sn_iret dX12_faultOfGroup_57 rfl rfl
theorem c_X12_faultOfGroup (G : GG) (this : Nat) (a1 : Int32) (a2 : Int32) (a3 : Int32) : Cal G yX12_faultOfGroup cX12_faultOfGroup 8 (some FieldType.int) 2 46 (fun v : Int32 => some (.int v)) (X12_faultOfGroup this a1 a2 a3) [.ref this, .int a1, .int a2, .int a3] :=
  Cal.of (by decide) (cat_t (cat_i (cat_i (cat_i cat_nil)))) rfl (sn_weak (le_s (le_s (le_s (le_s (le_z (le_z (le_z (le_z le_e)))))))) (s_X12_faultOfGroup G this a1 a2 a3))
theorem cw_X12_faultOfGroup : CW yX12_faultOfGroup cX12_faultOfGroup 8 (some FieldType.int) 3 := ⟨tw1511, tw15, by decide, by decide +kernel⟩
/-! X12_faultOfAll -/
theorem dX12_faultOfAll_0 : decode cX12_faultOfAll 0 = .ok (.iconst (-1), 1) := by decide +kernel
theorem dX12_faultOfAll_1 : decode cX12_faultOfAll 1 = .ok (.istore_n 1, 1) := by decide +kernel
theorem dX12_faultOfAll_2 : decode cX12_faultOfAll 2 = .ok (.iconst 0, 1) := by decide +kernel
theorem dX12_faultOfAll_3 : decode cX12_faultOfAll 3 = .ok (.istore_n 2, 1) := by decide +kernel
theorem dX12_faultOfAll_4 : decode cX12_faultOfAll 4 = .ok (.iconst 0, 1) := by decide +kernel
theorem dX12_faultOfAll_5 : decode cX12_faultOfAll 5 = .ok (.istore_n 3, 1) := by decide +kernel
theorem dX12_faultOfAll_6 : decode cX12_faultOfAll 6 = .ok (.iload_n 3, 1) := by decide +kernel
theorem dX12_faultOfAll_7 : decode cX12_faultOfAll 7 = .ok (.aload_n 0, 1) := by decide +kernel
theorem dX12_faultOfAll_8 : decode cX12_faultOfAll 8 = .ok (.getfield 148, 3) := by decide +kernel
theorem dX12_faultOfAll_11 : decode cX12_faultOfAll 11 = .ok (.if_icmp .ge 49, 3) := by decide +kernel
theorem dX12_faultOfAll_14 : decode cX12_faultOfAll 14 = .ok (.aload_n 0, 1) := by decide +kernel
theorem dX12_faultOfAll_15 : decode cX12_faultOfAll 15 = .ok (.iload_n 3, 1) := by decide +kernel
theorem dX12_faultOfAll_16 : decode cX12_faultOfAll 16 = .ok (.iload_n 1, 1) := by decide +kernel
theorem dX12_faultOfAll_17 : decode cX12_faultOfAll 17 = .ok (.iload_n 2, 1) := by decide +kernel
theorem dX12_faultOfAll_18 : decode cX12_faultOfAll 18 = .ok (.invokevirtual 182, 3) := by decide +kernel
theorem dX12_faultOfAll_21 : decode cX12_faultOfAll 21 = .ok (.istore 4, 2) := by decide +kernel
theorem dX12_faultOfAll_23 : decode cX12_faultOfAll 23 = .ok (.iload 4, 2) := by decide +kernel
theorem dX12_faultOfAll_25 : decode cX12_faultOfAll 25 = .ok (.ifCond .le 6, 3) := by decide +kernel
theorem dX12_faultOfAll_28 : decode cX12_faultOfAll 28 = .ok (.iload 4, 2) := by decide +kernel
theorem dX12_faultOfAll_30 : decode cX12_faultOfAll 30 = .ok (.ireturn, 1) := by decide +kernel
theorem dX12_faultOfAll_31 : decode cX12_faultOfAll 31 = .ok (.aload_n 0, 1) := by decide +kernel
theorem dX12_faultOfAll_32 : decode cX12_faultOfAll 32 = .ok (.getfield 151, 3) := by decide +kernel
theorem dX12_faultOfAll_35 : decode cX12_faultOfAll 35 = .ok (.iload_n 3, 1) := by decide +kernel
theorem dX12_faultOfAll_36 : decode cX12_faultOfAll 36 = .ok (.iaload, 1) := by decide +kernel
theorem dX12_faultOfAll_37 : decode cX12_faultOfAll 37 = .ok (.bipush 70, 2) := by decide +kernel
theorem dX12_faultOfAll_39 : decode cX12_faultOfAll 39 = .ok (.if_icmp .ne 8, 3) := by decide +kernel
theorem dX12_faultOfAll_42 : decode cX12_faultOfAll 42 = .ok (.iconst 1, 1) := by decide +kernel
theorem dX12_faultOfAll_43 : decode cX12_faultOfAll 43 = .ok (.istore_n 2, 1) := by decide +kernel
theorem dX12_faultOfAll_44 : decode cX12_faultOfAll 44 = .ok (.goto 10, 3) := by decide +kernel
theorem dX12_faultOfAll_47 : decode cX12_faultOfAll 47 = .ok (.aload_n 0, 1) := by decide +kernel
theorem dX12_faultOfAll_48 : decode cX12_faultOfAll 48 = .ok (.getfield 158, 3) := by decide +kernel
theorem dX12_faultOfAll_51 : decode cX12_faultOfAll 51 = .ok (.iload_n 3, 1) := by decide +kernel
theorem dX12_faultOfAll_52 : decode cX12_faultOfAll 52 = .ok (.iaload, 1) := by decide +kernel
theorem dX12_faultOfAll_53 : decode cX12_faultOfAll 53 = .ok (.istore_n 1, 1) := by decide +kernel
theorem dX12_faultOfAll_54 : decode cX12_faultOfAll 54 = .ok (.iinc 3 1, 3) := by decide +kernel
theorem dX12_faultOfAll_57 : decode cX12_faultOfAll 57 = .ok (.goto (-51), 3) := by decide +kernel
theorem dX12_faultOfAll_60 : decode cX12_faultOfAll 60 = .ok (.iconst 0, 1) := by decide +kernel
theorem dX12_faultOfAll_61 : decode cX12_faultOfAll 61 = .ok (.ireturn, 1) := by decide +kernel
def X12_faultOfAll_54 (k6 : Nat → Int32 → Int32 → Int32 → MM Int32) (this : Nat) (x1 : Int32) (x2 : Int32) (x3 : Int32) : MM Int32 :=
  (k6 this x1 x2 (x3 + (1 : Int32)))
def X12_faultOfAll_6_st  (k6 : Nat → Int32 → Int32 → Int32 → MM Int32) (this : Nat) (x1 : Int32) (x2 : Int32) (x3 : Int32) : MM Int32 :=
  mb (gI 13 (some this) 24) fun v1 =>
  if v1 ≤ x3 then (mr (0 : Int32)) else (mb (wc 13 (some this) fun t => X12_faultOfGroup t x3 x1 x2) fun v2 =>
  if v2 ≤ 0 then (mb (gR 13 (some this) 26) fun v3 =>
  mb (aI v3 x3) fun v4 =>
  if v4 = (70 : Int32) then ((X12_faultOfAll_54 k6 this x1 (1 : Int32) x3)) else (mb (gR 13 (some this) 27) fun v5 =>
  mb (aI v5 x3) fun v6 =>
  (X12_faultOfAll_54 k6 this v6 x2 x3))) else (mr v2))
def X12_faultOfAll_6  : Nat → Nat → Int32 → Int32 → Int32 → MM Int32
  | 0 => fun _ _ _ _ => mf
  | n + 1 => fun this x1 x2 x3 => X12_faultOfAll_6_st  (X12_faultOfAll_6  n) this x1 x2 x3
def X12_faultOfAll (this : Nat) : MM Int32 :=
  (X12_faultOfAll_6 LFU this (-1 : Int32) (0 : Int32) (0 : Int32))
set_option maxRecDepth 100000 in
set_option maxHeartbeats 4000000 in
theorem s_X12_faultOfAll_54 (G : GG) (k6 : Nat → Int32 → Int32 → Int32 → MM Int32) (hk6 : ∀ (this : Nat) (x1 : Int32) (x2 : Int32) (x3 : Int32), Sn G yX12_faultOfAll cX12_faultOfAll 5 (some FieldType.int) 3 73 (fun v : Int32 => some (.int v)) (k6 this x1 x2 x3) 6 [some (va_rf (some this)), some (.int x1), some (.int x2), some (.int x3), none] []) (this : Nat) (x1 : Int32) (x2 : Int32) (x3 : Int32) : Sn G yX12_faultOfAll cX12_faultOfAll 5 (some FieldType.int) 3 73 (fun v : Int32 => some (.int v)) (X12_faultOfAll_54 k6 this x1 x2 x3) 54 [some (va_rf (some this)), some (.int x1), some (.int x2), some (.int x3), none] [] := by
  unfold X12_faultOfAll_54
  refine sn_iinc (v := x3) (w := 1) (L' := [some (va_rf (some this)), some (.int x1), some (.int x2), some (.int (x3 + (1 : Int32))), none]) (pc' := 57) dX12_faultOfAll_54 rfl rfl rfl (by decide) rfl ?_
  refine sn_goto (pc' := 6) dX12_faultOfAll_57 rfl ?_
  exact sn_weak (le_s (le_s (le_s (le_s (le_n le_e))))) (hk6 this x1 x2 (x3 + (1 : Int32)))
set_option maxRecDepth 100000 in
set_option maxHeartbeats 4000000 in
theorem s_X12_faultOfAll_6_st (G : GG)   (k6 : Nat → Int32 → Int32 → Int32 → MM Int32) (hk6 : ∀ (this : Nat) (x1 : Int32) (x2 : Int32) (x3 : Int32), Sn G yX12_faultOfAll cX12_faultOfAll 5 (some FieldType.int) 3 73 (fun v : Int32 => some (.int v)) (k6 this x1 x2 x3) 6 [some (va_rf (some this)), some (.int x1), some (.int x2), some (.int x3), none] []) (this : Nat) (x1 : Int32) (x2 : Int32) (x3 : Int32) : Sn G yX12_faultOfAll cX12_faultOfAll 5 (some FieldType.int) 3 73 (fun v : Int32 => some (.int v)) (X12_faultOfAll_6_st  k6 this x1 x2 x3) 6 [some (va_rf (some this)), some (.int x1), some (.int x2), some (.int x3), none] [] := by
  unfold X12_faultOfAll_6_st
  refine sn_iload_n (v := x3) (pc' := 7) dX12_faultOfAll_6 rfl rfl rfl ?_
  refine sn_aload_n (v := (some this)) (pc' := 8) dX12_faultOfAll_7 rfl rfl rfl ?_
  refine sn_gI (k := 24) (pc' := 11) ci_13 rfl (Or.inl tw1302) dX12_faultOfAll_8 rfl (fun v1 => ?_)
  refine sn_ic_ge (pt := 60) (pf := 14) dX12_faultOfAll_11 rfl rfl ?_ ?_
  · refine sn_iconst (v := (0 : Int32)) (pc' := 61) dX12_faultOfAll_60 rfl (by decide) ?_
    exact sn_iret dX12_faultOfAll_61 rfl rfl
  · refine sn_aload_n (v := (some this)) (pc' := 15) dX12_faultOfAll_14 rfl rfl rfl ?_
    refine sn_iload_n (v := x3) (pc' := 16) dX12_faultOfAll_15 rfl rfl rfl ?_
    refine sn_iload_n (v := x1) (pc' := 17) dX12_faultOfAll_16 rfl rfl rfl ?_
    refine sn_iload_n (v := x2) (pc' := 18) dX12_faultOfAll_17 rfl rfl rfl ?_
    refine sn_cV (r := (some this)) (st := []) (As := [.int x3, .int x1, .int x2]) (st2 := (fun v => .int v :: [])) (pc' := 21) ci_13 (fun t => c_X12_faultOfGroup G t x3 x1 x2) cw_X12_faultOfGroup rfl rfl tw1508 pw59 tw1510 rfl rfl cat_nil rfl (fun _ => rfl) dX12_faultOfAll_18 rfl (fun v2 => ?_)
    refine sn_istore (v := v2) (L' := [some (va_rf (some this)), some (.int x1), some (.int x2), some (.int x3), some (.int v2)]) (pc' := 23) dX12_faultOfAll_21 rfl rfl rfl ?_
    refine sn_iload (v := v2) (pc' := 25) dX12_faultOfAll_23 rfl rfl ?_
    refine sn_if_le (pt := 31) (pf := 28) dX12_faultOfAll_25 rfl rfl ?_ ?_
    · refine sn_aload_n (v := (some this)) (pc' := 32) dX12_faultOfAll_31 rfl rfl rfl ?_
      refine sn_gR (k := 26) (pc' := 35) ci_13 rfl (Or.inl tw1304) dX12_faultOfAll_32 rfl (fun v3 => ?_)
      refine sn_iload_n (v := x3) (pc' := 36) dX12_faultOfAll_35 rfl rfl rfl ?_
      refine sn_aI (pc' := 37) dX12_faultOfAll_36 rfl (fun v4 => ?_)
      refine sn_bipush (v := (70 : Int32)) (pc' := 39) dX12_faultOfAll_37 rfl (by decide) ?_
      refine sn_ic_ne (pt := 47) (pf := 42) dX12_faultOfAll_39 rfl rfl ?_ ?_
      · refine sn_iconst (v := (1 : Int32)) (pc' := 43) dX12_faultOfAll_42 rfl (by decide) ?_
        refine sn_istore_n (v := (1 : Int32)) (L' := [some (va_rf (some this)), some (.int x1), some (.int (1 : Int32)), some (.int x3), some (.int v2)]) (pc' := 44) dX12_faultOfAll_43 rfl rfl rfl rfl ?_
        refine sn_goto (pc' := 54) dX12_faultOfAll_44 rfl ?_
        exact sn_weak (le_s (le_s (le_s (le_s (le_n le_e))))) (s_X12_faultOfAll_54 G k6 hk6 this x1 (1 : Int32) x3)
      · refine sn_aload_n (v := (some this)) (pc' := 48) dX12_faultOfAll_47 rfl rfl rfl ?_
        refine sn_gR (k := 27) (pc' := 51) ci_13 rfl (Or.inl tw1305) dX12_faultOfAll_48 rfl (fun v5 => ?_)
        refine sn_iload_n (v := x3) (pc' := 52) dX12_faultOfAll_51 rfl rfl rfl ?_
        refine sn_aI (pc' := 53) dX12_faultOfAll_52 rfl (fun v6 => ?_)
        refine sn_istore_n (v := v6) (L' := [some (va_rf (some this)), some (.int v6), some (.int x2), some (.int x3), some (.int v2)]) (pc' := 54) dX12_faultOfAll_53 rfl rfl rfl rfl ?_
        exact sn_weak (le_s (le_s (le_s (le_s (le_n le_e))))) (s_X12_faultOfAll_54 G k6 hk6 this v6 x2 x3)
    · refine sn_iload (v := v2) (pc' := 30) dX12_faultOfAll_28 rfl rfl ?_
      exact sn_iret dX12_faultOfAll_30 rfl rfl
set_option maxRecDepth 100000 in
set_option maxHeartbeats 4000000 in
theorem s_X12_faultOfAll_6 (G : GG)   : ∀ (n : Nat) (this : Nat) (x1 : Int32) (x2 : Int32) (x3 : Int32), Sn G yX12_faultOfAll cX12_faultOfAll 5 (some FieldType.int) 3 73 (fun v : Int32 => some (.int v)) (X12_faultOfAll_6  n this x1 x2 x3) 6 [some (va_rf (some this)), some (.int x1), some (.int x2), some (.int x3), none] [] := by
  intro n
  induction n with
  | zero => intro this x1 x2 x3; exact sn_mf
  | succ n ih => intro this x1 x2 x3; exact s_X12_faultOfAll_6_st G   (X12_faultOfAll_6  n) ih this x1 x2 x3
set_option maxRecDepth 100000 in
set_option maxHeartbeats 4000000 in
theorem s_X12_faultOfAll (G : GG) (this : Nat) : Sn G yX12_faultOfAll cX12_faultOfAll 5 (some FieldType.int) 3 73 (fun v : Int32 => some (.int v)) (X12_faultOfAll this) 0 [some (va_rf (some this)), none, none, none, none] [] := by
  unfold X12_faultOfAll
  refine sn_iconst (v := (-1 : Int32)) (pc' := 1) dX12_faultOfAll_0 rfl (by decide) ?_
  refine sn_istore_n (v := (-1 : Int32)) (L' := [some (va_rf (some this)), some (.int (-1 : Int32)), none, none, none]) (pc' := 2) dX12_faultOfAll_1 rfl rfl rfl rfl ?_
  refine sn_iconst (v := (0 : Int32)) (pc' := 3) dX12_faultOfAll_2 rfl (by decide) ?_
  refine sn_istore_n (v := (0 : Int32)) (L' := [some (va_rf (some this)), some (.int (-1 : Int32)), some (.int (0 : Int32)), none, none]) (pc' := 4) dX12_faultOfAll_3 rfl rfl rfl rfl ?_
  refine sn_iconst (v := (0 : Int32)) (pc' := 5) dX12_faultOfAll_4 rfl (by decide) ?_
  refine sn_istore_n (v := (0 : Int32)) (L' := [some (va_rf (some this)), some (.int (-1 : Int32)), some (.int (0 : Int32)), some (.int (0 : Int32)), none]) (pc' := 6) dX12_faultOfAll_5 rfl rfl rfl rfl ?_
  exact sn_weak (le_s (le_s (le_s (le_s (le_n le_e))))) (s_X12_faultOfAll_6 G LFU this (-1 : Int32) (0 : Int32) (0 : Int32))
theorem c_X12_faultOfAll (G : GG) (this : Nat) : Cal G yX12_faultOfAll cX12_faultOfAll 5 (some FieldType.int) 3 73 (fun v : Int32 => some (.int v)) (X12_faultOfAll this) [.ref this] :=
  Cal.of (by decide) (cat_t cat_nil) rfl (sn_weak (le_s (le_z (le_z (le_z (le_z le_e))))) (s_X12_faultOfAll G this))
theorem cw_X12_faultOfAll : CW yX12_faultOfAll cX12_faultOfAll 5 (some FieldType.int) 0 := ⟨tw1507, tw15, by decide, by decide +kernel⟩
/-! X12_apply -/
theorem dX12_apply_0 : decode cX12_apply 0 = .ok (.iload_n 1, 1) := by decide +kernel
theorem dX12_apply_1 : decode cX12_apply 1 = .ok (.aload_n 0, 1) := by decide +kernel
theorem dX12_apply_2 : decode cX12_apply 2 = .ok (.iload_n 1, 1) := by decide +kernel
theorem dX12_apply_3 : decode cX12_apply 3 = .ok (.aload_n 0, 1) := by decide +kernel
theorem dX12_apply_4 : decode cX12_apply 4 = .ok (.getfield 129, 3) := by decide +kernel
theorem dX12_apply_7 : decode cX12_apply 7 = .ok (.iload_n 2, 1) := by decide +kernel
theorem dX12_apply_8 : decode cX12_apply 8 = .ok (.iaload, 1) := by decide +kernel
theorem dX12_apply_9 : decode cX12_apply 9 = .ok (.invokevirtual 186, 3) := by decide +kernel
theorem dX12_apply_12 : decode cX12_apply 12 = .ok (.aload_n 0, 1) := by decide +kernel
theorem dX12_apply_13 : decode cX12_apply 13 = .ok (.getfield 135, 3) := by decide +kernel
theorem dX12_apply_16 : decode cX12_apply 16 = .ok (.iload_n 2, 1) := by decide +kernel
theorem dX12_apply_17 : decode cX12_apply 17 = .ok (.iaload, 1) := by decide +kernel
theorem dX12_apply_18 : decode cX12_apply 18 = .ok (.invokestatic 27, 3) := by decide +kernel
theorem dX12_apply_21 : decode cX12_apply 21 = .ok (.istore_n 3, 1) := by decide +kernel
theorem dX12_apply_22 : decode cX12_apply 22 = .ok (.aload_n 0, 1) := by decide +kernel
theorem dX12_apply_23 : decode cX12_apply 23 = .ok (.getfield 123, 3) := by decide +kernel
theorem dX12_apply_26 : decode cX12_apply 26 = .ok (.iload_n 2, 1) := by decide +kernel
theorem dX12_apply_27 : decode cX12_apply 27 = .ok (.iaload, 1) := by decide +kernel
theorem dX12_apply_28 : decode cX12_apply 28 = .ok (.bipush 43, 2) := by decide +kernel
theorem dX12_apply_30 : decode cX12_apply 30 = .ok (.if_icmp .ne 18, 3) := by decide +kernel
theorem dX12_apply_33 : decode cX12_apply 33 = .ok (.aload_n 0, 1) := by decide +kernel
theorem dX12_apply_34 : decode cX12_apply 34 = .ok (.getfield 34, 3) := by decide +kernel
theorem dX12_apply_37 : decode cX12_apply 37 = .ok (.iload_n 3, 1) := by decide +kernel
theorem dX12_apply_38 : decode cX12_apply 38 = .ok (.aload_n 0, 1) := by decide +kernel
theorem dX12_apply_39 : decode cX12_apply 39 = .ok (.getfield 138, 3) := by decide +kernel
theorem dX12_apply_42 : decode cX12_apply 42 = .ok (.iload_n 2, 1) := by decide +kernel
theorem dX12_apply_43 : decode cX12_apply 43 = .ok (.iaload, 1) := by decide +kernel
theorem dX12_apply_44 : decode cX12_apply 44 = .ok (.iastore, 1) := by decide +kernel
theorem dX12_apply_45 : decode cX12_apply 45 = .ok (.goto 25, 3) := by decide +kernel
theorem dX12_apply_48 : decode cX12_apply 48 = .ok (.aload_n 0, 1) := by decide +kernel
theorem dX12_apply_49 : decode cX12_apply 49 = .ok (.getfield 31, 3) := by decide +kernel
theorem dX12_apply_52 : decode cX12_apply 52 = .ok (.iload_n 3, 1) := by decide +kernel
theorem dX12_apply_53 : decode cX12_apply 53 = .ok (.aload_n 0, 1) := by decide +kernel
theorem dX12_apply_54 : decode cX12_apply 54 = .ok (.getfield 123, 3) := by decide +kernel
theorem dX12_apply_57 : decode cX12_apply 57 = .ok (.iload_n 2, 1) := by decide +kernel
theorem dX12_apply_58 : decode cX12_apply 58 = .ok (.iaload, 1) := by decide +kernel
theorem dX12_apply_59 : decode cX12_apply 59 = .ok (.bipush 45, 2) := by decide +kernel
theorem dX12_apply_61 : decode cX12_apply 61 = .ok (.if_icmp .ne 7, 3) := by decide +kernel
theorem dX12_apply_64 : decode cX12_apply 64 = .ok (.iconst 1, 1) := by decide +kernel
theorem dX12_apply_65 : decode cX12_apply 65 = .ok (.goto 4, 3) := by decide +kernel
theorem dX12_apply_68 : decode cX12_apply 68 = .ok (.iconst 2, 1) := by decide +kernel
theorem dX12_apply_69 : decode cX12_apply 69 = .ok (.iastore, 1) := by decide +kernel
theorem dX12_apply_70 : decode cX12_apply 70 = .ok (.return_, 1) := by decide +kernel
def X12_apply (this : Nat) (a1 : Int32) (a2 : Int32) : MM Unit :=
  mb (gR 13 (some this) 33) fun v1 =>
  mb (aI v1 a2) fun v2 =>
  mb (wc 13 (some this) fun t => X12_gatheringOf t a1 v2) fun v3 =>
  mb (gR 13 (some this) 34) fun v4 =>
  mb (aI v4 a2) fun v5 =>
  mb (X12_spot a1 v3 v5) fun v6 =>
  mb (gR 13 (some this) 32) fun v7 =>
  mb (aI v7 a2) fun v8 =>
  if v8 = (43 : Int32) then (mb (gR 13 (some this) 10) fun v9 =>
  mb (gR 13 (some this) 35) fun v10 =>
  mb (aI v10 a2) fun v11 =>
  mb (sI v9 v6 v11) fun _ =>
  mr ()) else (mb (gR 13 (some this) 9) fun v12 =>
  mb (gR 13 (some this) 32) fun v13 =>
  mb (aI v13 a2) fun v14 =>
  if v14 = (45 : Int32) then (mb (sI v12 v6 (1 : Int32)) fun _ =>
  mr ()) else (mb (sI v12 v6 (2 : Int32)) fun _ =>
  mr ()))
set_option maxRecDepth 100000 in
set_option maxHeartbeats 4000000 in
theorem s_X12_apply (G : GG) (this : Nat) (a1 : Int32) (a2 : Int32) : Sn G yX12_apply cX12_apply 4 none 1 23 (fun _ : Unit => none) (X12_apply this a1 a2) 0 [some (va_rf (some this)), some (.int a1), some (.int a2), none] [] := by
  unfold X12_apply
  refine sn_iload_n (v := a1) (pc' := 1) dX12_apply_0 rfl rfl rfl ?_
  refine sn_aload_n (v := (some this)) (pc' := 2) dX12_apply_1 rfl rfl rfl ?_
  refine sn_iload_n (v := a1) (pc' := 3) dX12_apply_2 rfl rfl rfl ?_
  refine sn_aload_n (v := (some this)) (pc' := 4) dX12_apply_3 rfl rfl rfl ?_
  refine sn_gR (k := 33) (pc' := 7) ci_13 rfl (Or.inl tw1311) dX12_apply_4 rfl (fun v1 => ?_)
  refine sn_iload_n (v := a2) (pc' := 8) dX12_apply_7 rfl rfl rfl ?_
  refine sn_aI (pc' := 9) dX12_apply_8 rfl (fun v2 => ?_)
  refine sn_cV (r := (some this)) (st := [.int a1]) (As := [.int a1, .int v2]) (st2 := (fun v => .int v :: [.int a1])) (pc' := 12) ci_13 (fun t => c_X12_gatheringOf G t a1 v2) cw_X12_gatheringOf rfl rfl tw1534 pw64 tw1536 rfl rfl (cat_i cat_nil) rfl (fun _ => rfl) dX12_apply_9 rfl (fun v3 => ?_)
  refine sn_aload_n (v := (some this)) (pc' := 13) dX12_apply_12 rfl rfl rfl ?_
  refine sn_gR (k := 34) (pc' := 16) ci_13 rfl (Or.inl tw1312) dX12_apply_13 rfl (fun v4 => ?_)
  refine sn_iload_n (v := a2) (pc' := 17) dX12_apply_16 rfl rfl rfl ?_
  refine sn_aI (pc' := 18) dX12_apply_17 rfl (fun v5 => ?_)
  refine sn_cS (st := []) (As := [.int a1, .int v3, .int v5]) (st2 := (fun v => .int v :: [])) (pc' := 21) (c_X12_spot G a1 v3 v5) cw_X12_spot rfl rfl tw1527 tw1528 rfl rfl cat_nil rfl (fun _ => rfl) dX12_apply_18 rfl (fun v6 => ?_)
  refine sn_istore_n (v := v6) (L' := [some (va_rf (some this)), some (.int a1), some (.int a2), some (.int v6)]) (pc' := 22) dX12_apply_21 rfl rfl rfl rfl ?_
  refine sn_aload_n (v := (some this)) (pc' := 23) dX12_apply_22 rfl rfl rfl ?_
  refine sn_gR (k := 32) (pc' := 26) ci_13 rfl (Or.inl tw1310) dX12_apply_23 rfl (fun v7 => ?_)
  refine sn_iload_n (v := a2) (pc' := 27) dX12_apply_26 rfl rfl rfl ?_
  refine sn_aI (pc' := 28) dX12_apply_27 rfl (fun v8 => ?_)
  refine sn_bipush (v := (43 : Int32)) (pc' := 30) dX12_apply_28 rfl (by decide) ?_
  refine sn_ic_ne (pt := 48) (pf := 33) dX12_apply_30 rfl rfl ?_ ?_
  · refine sn_aload_n (v := (some this)) (pc' := 34) dX12_apply_33 rfl rfl rfl ?_
    refine sn_gR (k := 10) (pc' := 37) ci_13 rfl (Or.inl tw1288) dX12_apply_34 rfl (fun v9 => ?_)
    refine sn_iload_n (v := v6) (pc' := 38) dX12_apply_37 rfl rfl rfl ?_
    refine sn_aload_n (v := (some this)) (pc' := 39) dX12_apply_38 rfl rfl rfl ?_
    refine sn_gR (k := 35) (pc' := 42) ci_13 rfl (Or.inl tw1313) dX12_apply_39 rfl (fun v10 => ?_)
    refine sn_iload_n (v := a2) (pc' := 43) dX12_apply_42 rfl rfl rfl ?_
    refine sn_aI (pc' := 44) dX12_apply_43 rfl (fun v11 => ?_)
    refine sn_sI (pc' := 45) dX12_apply_44 rfl (fun _ => ?_)
    refine sn_goto (pc' := 70) dX12_apply_45 rfl ?_
    exact sn_vret dX12_apply_70 rfl
  · refine sn_aload_n (v := (some this)) (pc' := 49) dX12_apply_48 rfl rfl rfl ?_
    refine sn_gR (k := 9) (pc' := 52) ci_13 rfl (Or.inl tw1287) dX12_apply_49 rfl (fun v12 => ?_)
    refine sn_iload_n (v := v6) (pc' := 53) dX12_apply_52 rfl rfl rfl ?_
    refine sn_aload_n (v := (some this)) (pc' := 54) dX12_apply_53 rfl rfl rfl ?_
    refine sn_gR (k := 32) (pc' := 57) ci_13 rfl (Or.inl tw1310) dX12_apply_54 rfl (fun v13 => ?_)
    refine sn_iload_n (v := a2) (pc' := 58) dX12_apply_57 rfl rfl rfl ?_
    refine sn_aI (pc' := 59) dX12_apply_58 rfl (fun v14 => ?_)
    refine sn_bipush (v := (45 : Int32)) (pc' := 61) dX12_apply_59 rfl (by decide) ?_
    refine sn_ic_ne (pt := 68) (pf := 64) dX12_apply_61 rfl rfl ?_ ?_
    · refine sn_iconst (v := (1 : Int32)) (pc' := 65) dX12_apply_64 rfl (by decide) ?_
      refine sn_goto (pc' := 69) dX12_apply_65 rfl ?_
      refine sn_sI (pc' := 70) dX12_apply_69 rfl (fun _ => ?_)
      exact sn_vret dX12_apply_70 rfl
    · refine sn_iconst (v := (2 : Int32)) (pc' := 69) dX12_apply_68 rfl (by decide) ?_
      refine sn_sI (pc' := 70) dX12_apply_69 rfl (fun _ => ?_)
      exact sn_vret dX12_apply_70 rfl
theorem c_X12_apply (G : GG) (this : Nat) (a1 : Int32) (a2 : Int32) : Cal G yX12_apply cX12_apply 4 none 1 23 (fun _ : Unit => none) (X12_apply this a1 a2) [.ref this, .int a1, .int a2] :=
  Cal.of (by decide) (cat_t (cat_i (cat_i cat_nil))) rfl (sn_weak (le_s (le_s (le_s (le_z le_e)))) (s_X12_apply G this a1 a2))
theorem cw_X12_apply : CW yX12_apply cX12_apply 4 none 2 := ⟨tw1533, tw15, by decide, by decide +kernel⟩
/-! X12_isMade -/
theorem dX12_isMade_0 : decode cX12_isMade 0 = .ok (.aload_n 0, 1) := by decide +kernel
theorem dX12_isMade_1 : decode cX12_isMade 1 = .ok (.iload_n 1, 1) := by decide +kernel
theorem dX12_isMade_2 : decode cX12_isMade 2 = .ok (.invokevirtual 190, 3) := by decide +kernel
theorem dX12_isMade_5 : decode cX12_isMade 5 = .ok (.sipush 400, 3) := by decide +kernel
theorem dX12_isMade_8 : decode cX12_isMade 8 = .ok (.if_icmp .le 10, 3) := by decide +kernel
theorem dX12_isMade_11 : decode cX12_isMade 11 = .ok (.aload_n 0, 1) := by decide +kernel
theorem dX12_isMade_12 : decode cX12_isMade 12 = .ok (.bipush 9, 2) := by decide +kernel
theorem dX12_isMade_14 : decode cX12_isMade 14 = .ok (.invokevirtual 193, 3) := by decide +kernel
theorem dX12_isMade_17 : decode cX12_isMade 17 = .ok (.ireturn, 1) := by decide +kernel
theorem dX12_isMade_18 : decode cX12_isMade 18 = .ok (.aload_n 0, 1) := by decide +kernel
theorem dX12_isMade_19 : decode cX12_isMade 19 = .ok (.iload_n 1, 1) := by decide +kernel
theorem dX12_isMade_20 : decode cX12_isMade 20 = .ok (.invokevirtual 196, 3) := by decide +kernel
theorem dX12_isMade_23 : decode cX12_isMade 23 = .ok (.aload_n 0, 1) := by decide +kernel
theorem dX12_isMade_24 : decode cX12_isMade 24 = .ok (.dup, 1) := by decide +kernel
theorem dX12_isMade_25 : decode cX12_isMade 25 = .ok (.getfield 7, 3) := by decide +kernel
theorem dX12_isMade_28 : decode cX12_isMade 28 = .ok (.iconst 1, 1) := by decide +kernel
theorem dX12_isMade_29 : decode cX12_isMade 29 = .ok (.iadd, 1) := by decide +kernel
theorem dX12_isMade_30 : decode cX12_isMade 30 = .ok (.putfield 7, 3) := by decide +kernel
theorem dX12_isMade_33 : decode cX12_isMade 33 = .ok (.aload_n 0, 1) := by decide +kernel
theorem dX12_isMade_34 : decode cX12_isMade 34 = .ok (.iload_n 1, 1) := by decide +kernel
theorem dX12_isMade_35 : decode cX12_isMade 35 = .ok (.invokevirtual 199, 3) := by decide +kernel
theorem dX12_isMade_38 : decode cX12_isMade 38 = .ok (.ireturn, 1) := by decide +kernel
def X12_isMade (this : Nat) (a1 : Int32) : MM Int32 :=
  mb (wc 13 (some this) fun t => X12_total t a1) fun v1 =>
  if v1 ≤ (400 : Int32) then (mb (wc 13 (some this) fun t => X12_layOut t a1) fun _ =>
  mb (gI 13 (some this) 5) fun v2 =>
  mb (pI 13 (some this) 5 (v2 + (1 : Int32))) fun _ =>
  mb (wc 13 (some this) fun t => X12_fine t a1) fun v3 =>
  mr v3) else (mb (wc 13 (some this) fun t => X12_no t (9 : Int32)) fun v4 =>
  mr v4)
set_option maxRecDepth 100000 in
set_option maxHeartbeats 4000000 in
theorem s_X12_isMade (G : GG) (this : Nat) (a1 : Int32) : Sn G yX12_isMade cX12_isMade 2 (some FieldType.int) 2 48 (fun v : Int32 => some (.int v)) (X12_isMade this a1) 0 [some (va_rf (some this)), some (.int a1)] [] := by
  unfold X12_isMade
  refine sn_aload_n (v := (some this)) (pc' := 1) dX12_isMade_0 rfl rfl rfl ?_
  refine sn_iload_n (v := a1) (pc' := 2) dX12_isMade_1 rfl rfl rfl ?_
  refine sn_cV (r := (some this)) (st := []) (As := [.int a1]) (st2 := (fun v => .int v :: [])) (pc' := 5) ci_13 (fun t => c_X12_total G t a1) cw_X12_total rfl rfl tw1542 pw66 tw1544 rfl rfl cat_nil rfl (fun _ => rfl) dX12_isMade_2 rfl (fun v1 => ?_)
  refine sn_sipush (v := (400 : Int32)) (pc' := 8) dX12_isMade_5 rfl (by decide) ?_
  refine sn_ic_le (pt := 18) (pf := 11) dX12_isMade_8 rfl rfl ?_ ?_
  · refine sn_aload_n (v := (some this)) (pc' := 19) dX12_isMade_18 rfl rfl rfl ?_
    refine sn_iload_n (v := a1) (pc' := 20) dX12_isMade_19 rfl rfl rfl ?_
    refine sn_cV (r := (some this)) (st := []) (As := [.int a1]) (st2 := (fun _ => [])) (pc' := 23) ci_13 (fun t => c_X12_layOut G t a1) cw_X12_layOut rfl rfl tw1546 pw67 tw1548 rfl rfl cat_nil rfl (fun _ => rfl) dX12_isMade_20 rfl (fun _ => ?_)
    refine sn_aload_n (v := (some this)) (pc' := 24) dX12_isMade_23 rfl rfl rfl ?_
    refine sn_dup (pc' := 25) dX12_isMade_24 rfl (cat_rf _) ?_
    refine sn_gI (k := 5) (pc' := 28) ci_13 rfl (Or.inl tw1283) dX12_isMade_25 rfl (fun v2 => ?_)
    refine sn_iconst (v := (1 : Int32)) (pc' := 29) dX12_isMade_28 rfl (by decide) ?_
    refine sn_iadd (pc' := 30) dX12_isMade_29 rfl ?_
    refine sn_pI (k := 5) (pc' := 33) ci_13 rfl (Or.inl tw1283) (Or.inl rfl) rfl dX12_isMade_30 rfl (fun _ => ?_)
    refine sn_aload_n (v := (some this)) (pc' := 34) dX12_isMade_33 rfl rfl rfl ?_
    refine sn_iload_n (v := a1) (pc' := 35) dX12_isMade_34 rfl rfl rfl ?_
    refine sn_cV (r := (some this)) (st := []) (As := [.int a1]) (st2 := (fun v => .int v :: [])) (pc' := 38) ci_13 (fun t => c_X12_fine G t a1) cw_X12_fine rfl rfl tw1435 pw45 tw1437 rfl rfl cat_nil rfl (fun _ => rfl) dX12_isMade_35 rfl (fun v3 => ?_)
    exact sn_iret dX12_isMade_38 rfl rfl
  · refine sn_aload_n (v := (some this)) (pc' := 12) dX12_isMade_11 rfl rfl rfl ?_
    refine sn_bipush (v := (9 : Int32)) (pc' := 14) dX12_isMade_12 rfl (by decide) ?_
    refine sn_cV (r := (some this)) (st := []) (As := [.int (9 : Int32)]) (st2 := (fun v => .int v :: [])) (pc' := 17) ci_13 (fun t => c_X12_no G t (9 : Int32)) cw_X12_no rfl rfl tw1431 pw44 tw1433 rfl rfl cat_nil rfl (fun _ => rfl) dX12_isMade_14 rfl (fun v4 => ?_)
    exact sn_iret dX12_isMade_17 rfl rfl
theorem c_X12_isMade (G : GG) (this : Nat) (a1 : Int32) : Cal G yX12_isMade cX12_isMade 2 (some FieldType.int) 2 48 (fun v : Int32 => some (.int v)) (X12_isMade this a1) [.ref this, .int a1] :=
  Cal.of (by decide) (cat_t (cat_i cat_nil)) rfl (sn_weak (le_s (le_s le_e)) (s_X12_isMade G this a1))
theorem cw_X12_isMade : CW yX12_isMade cX12_isMade 2 (some FieldType.int) 1 := ⟨tw1541, tw15, by decide, by decide +kernel⟩
/-! X12_add -/
theorem dX12_add_0 : decode cX12_add 0 = .ok (.aload_n 0, 1) := by decide +kernel
theorem dX12_add_1 : decode cX12_add 1 = .ok (.getfield 17, 3) := by decide +kernel
theorem dX12_add_4 : decode cX12_add 4 = .ok (.iload_n 1, 1) := by decide +kernel
theorem dX12_add_5 : decode cX12_add 5 = .ok (.iaload, 1) := by decide +kernel
theorem dX12_add_6 : decode cX12_add 6 = .ok (.istore 4, 2) := by decide +kernel
theorem dX12_add_8 : decode cX12_add 8 = .ok (.aload_n 0, 1) := by decide +kernel
theorem dX12_add_9 : decode cX12_add 9 = .ok (.getfield 21, 3) := by decide +kernel
theorem dX12_add_12 : decode cX12_add 12 = .ok (.iload_n 1, 1) := by decide +kernel
theorem dX12_add_13 : decode cX12_add 13 = .ok (.bipush 71, 2) := by decide +kernel
theorem dX12_add_15 : decode cX12_add 15 = .ok (.imul, 1) := by decide +kernel
theorem dX12_add_16 : decode cX12_add 16 = .ok (.iload 4, 2) := by decide +kernel
theorem dX12_add_18 : decode cX12_add 18 = .ok (.iadd, 1) := by decide +kernel
theorem dX12_add_19 : decode cX12_add 19 = .ok (.iload_n 2, 1) := by decide +kernel
theorem dX12_add_20 : decode cX12_add 20 = .ok (.iastore, 1) := by decide +kernel
theorem dX12_add_21 : decode cX12_add 21 = .ok (.aload_n 0, 1) := by decide +kernel
theorem dX12_add_22 : decode cX12_add 22 = .ok (.getfield 24, 3) := by decide +kernel
theorem dX12_add_25 : decode cX12_add 25 = .ok (.iload_n 1, 1) := by decide +kernel
theorem dX12_add_26 : decode cX12_add 26 = .ok (.bipush 71, 2) := by decide +kernel
theorem dX12_add_28 : decode cX12_add 28 = .ok (.imul, 1) := by decide +kernel
theorem dX12_add_29 : decode cX12_add 29 = .ok (.iload 4, 2) := by decide +kernel
theorem dX12_add_31 : decode cX12_add 31 = .ok (.iadd, 1) := by decide +kernel
theorem dX12_add_32 : decode cX12_add 32 = .ok (.iload_n 3, 1) := by decide +kernel
theorem dX12_add_33 : decode cX12_add 33 = .ok (.iastore, 1) := by decide +kernel
theorem dX12_add_34 : decode cX12_add 34 = .ok (.iconst 0, 1) := by decide +kernel
theorem dX12_add_35 : decode cX12_add 35 = .ok (.istore 5, 2) := by decide +kernel
theorem dX12_add_37 : decode cX12_add 37 = .ok (.iload 5, 2) := by decide +kernel
theorem dX12_add_39 : decode cX12_add 39 = .ok (.bipush 12, 2) := by decide +kernel
theorem dX12_add_41 : decode cX12_add 41 = .ok (.if_icmp .gt 37, 3) := by decide +kernel
theorem dX12_add_44 : decode cX12_add 44 = .ok (.aload_n 0, 1) := by decide +kernel
theorem dX12_add_45 : decode cX12_add 45 = .ok (.getfield 31, 3) := by decide +kernel
theorem dX12_add_48 : decode cX12_add 48 = .ok (.iload_n 1, 1) := by decide +kernel
theorem dX12_add_49 : decode cX12_add 49 = .ok (.iload 4, 2) := by decide +kernel
theorem dX12_add_51 : decode cX12_add 51 = .ok (.iload 5, 2) := by decide +kernel
theorem dX12_add_53 : decode cX12_add 53 = .ok (.invokestatic 27, 3) := by decide +kernel
theorem dX12_add_56 : decode cX12_add 56 = .ok (.iconst 0, 1) := by decide +kernel
theorem dX12_add_57 : decode cX12_add 57 = .ok (.iastore, 1) := by decide +kernel
theorem dX12_add_58 : decode cX12_add 58 = .ok (.aload_n 0, 1) := by decide +kernel
theorem dX12_add_59 : decode cX12_add 59 = .ok (.getfield 34, 3) := by decide +kernel
theorem dX12_add_62 : decode cX12_add 62 = .ok (.iload_n 1, 1) := by decide +kernel
theorem dX12_add_63 : decode cX12_add 63 = .ok (.iload 4, 2) := by decide +kernel
theorem dX12_add_65 : decode cX12_add 65 = .ok (.iload 5, 2) := by decide +kernel
theorem dX12_add_67 : decode cX12_add 67 = .ok (.invokestatic 27, 3) := by decide +kernel
theorem dX12_add_70 : decode cX12_add 70 = .ok (.iconst 0, 1) := by decide +kernel
theorem dX12_add_71 : decode cX12_add 71 = .ok (.iastore, 1) := by decide +kernel
theorem dX12_add_72 : decode cX12_add 72 = .ok (.iinc 5 1, 3) := by decide +kernel
theorem dX12_add_75 : decode cX12_add 75 = .ok (.goto (-38), 3) := by decide +kernel
theorem dX12_add_78 : decode cX12_add 78 = .ok (.aload_n 0, 1) := by decide +kernel
theorem dX12_add_79 : decode cX12_add 79 = .ok (.getfield 17, 3) := by decide +kernel
theorem dX12_add_82 : decode cX12_add 82 = .ok (.iload_n 1, 1) := by decide +kernel
theorem dX12_add_83 : decode cX12_add 83 = .ok (.dup2, 1) := by decide +kernel
theorem dX12_add_84 : decode cX12_add 84 = .ok (.iaload, 1) := by decide +kernel
theorem dX12_add_85 : decode cX12_add 85 = .ok (.iconst 1, 1) := by decide +kernel
theorem dX12_add_86 : decode cX12_add 86 = .ok (.iadd, 1) := by decide +kernel
theorem dX12_add_87 : decode cX12_add 87 = .ok (.iastore, 1) := by decide +kernel
theorem dX12_add_88 : decode cX12_add 88 = .ok (.return_, 1) := by decide +kernel
def X12_add_78  (this : Nat) (x1 : Int32) : MM Unit :=
  mb (gR 13 (some this) 6) fun v1 =>
  mb (aI v1 x1) fun v2 =>
  mb (sI v1 x1 (v2 + (1 : Int32))) fun _ =>
  mr ()
def X12_add_37_st  (k37 : Nat → Int32 → Int32 → Int32 → MM Unit) (this : Nat) (x1 : Int32) (x4 : Int32) (x5 : Int32) : MM Unit :=
  if (12 : Int32) < x5 then ((X12_add_78 this x1)) else (mb (gR 13 (some this) 9) fun v1 =>
  mb (X12_spot x1 x4 x5) fun v2 =>
  mb (sI v1 v2 (0 : Int32)) fun _ =>
  mb (gR 13 (some this) 10) fun v3 =>
  mb (X12_spot x1 x4 x5) fun v4 =>
  mb (sI v3 v4 (0 : Int32)) fun _ =>
  (k37 this x1 x4 (x5 + (1 : Int32))))
def X12_add_37  : Nat → Nat → Int32 → Int32 → Int32 → MM Unit
  | 0 => fun _ _ _ _ => mf
  | n + 1 => fun this x1 x4 x5 => X12_add_37_st  (X12_add_37  n) this x1 x4 x5
def X12_add (this : Nat) (a1 : Int32) (a2 : Int32) (a3 : Int32) : MM Unit :=
  mb (gR 13 (some this) 6) fun v1 =>
  mb (aI v1 a1) fun v2 =>
  mb (gR 13 (some this) 7) fun v3 =>
  mb (sI v3 ((a1 * (71 : Int32)) + v2) a2) fun _ =>
  mb (gR 13 (some this) 8) fun v4 =>
  mb (sI v4 ((a1 * (71 : Int32)) + v2) a3) fun _ =>
  (X12_add_37 LFU this a1 v2 (0 : Int32))
set_option maxRecDepth 100000 in
set_option maxHeartbeats 4000000 in
theorem s_X12_add_78 (G : GG)   (this : Nat) (x1 : Int32) : Sn G yX12_add cX12_add 6 none 1 22 (fun _ : Unit => none) (X12_add_78  this x1) 78 [some (va_rf (some this)), some (.int x1), none, none, none, none] [] := by
  unfold X12_add_78
  refine sn_aload_n (v := (some this)) (pc' := 79) dX12_add_78 rfl rfl rfl ?_
  refine sn_gR (k := 6) (pc' := 82) ci_13 rfl (Or.inl tw1284) dX12_add_79 rfl (fun v1 => ?_)
  refine sn_iload_n (v := x1) (pc' := 83) dX12_add_82 rfl rfl rfl ?_
  refine sn_dup2 (pc' := 84) dX12_add_83 rfl rfl (cat_rf _) ?_
  refine sn_aI (pc' := 85) dX12_add_84 rfl (fun v2 => ?_)
  refine sn_iconst (v := (1 : Int32)) (pc' := 86) dX12_add_85 rfl (by decide) ?_
  refine sn_iadd (pc' := 87) dX12_add_86 rfl ?_
  refine sn_sI (pc' := 88) dX12_add_87 rfl (fun _ => ?_)
  exact sn_vret dX12_add_88 rfl
set_option maxRecDepth 100000 in
set_option maxHeartbeats 4000000 in
theorem s_X12_add_37_st (G : GG)   (k37 : Nat → Int32 → Int32 → Int32 → MM Unit) (hk37 : ∀ (this : Nat) (x1 : Int32) (x4 : Int32) (x5 : Int32), Sn G yX12_add cX12_add 6 none 1 22 (fun _ : Unit => none) (k37 this x1 x4 x5) 37 [some (va_rf (some this)), some (.int x1), none, none, some (.int x4), some (.int x5)] []) (this : Nat) (x1 : Int32) (x4 : Int32) (x5 : Int32) : Sn G yX12_add cX12_add 6 none 1 22 (fun _ : Unit => none) (X12_add_37_st  k37 this x1 x4 x5) 37 [some (va_rf (some this)), some (.int x1), none, none, some (.int x4), some (.int x5)] [] := by
  unfold X12_add_37_st
  refine sn_iload (v := x5) (pc' := 39) dX12_add_37 rfl rfl ?_
  refine sn_bipush (v := (12 : Int32)) (pc' := 41) dX12_add_39 rfl (by decide) ?_
  refine sn_ic_gt (pt := 78) (pf := 44) dX12_add_41 rfl rfl ?_ ?_
  · exact sn_weak (le_s (le_s (le_n (le_n (le_n (le_n le_e)))))) (s_X12_add_78 G this x1)
  · refine sn_aload_n (v := (some this)) (pc' := 45) dX12_add_44 rfl rfl rfl ?_
    refine sn_gR (k := 9) (pc' := 48) ci_13 rfl (Or.inl tw1287) dX12_add_45 rfl (fun v1 => ?_)
    refine sn_iload_n (v := x1) (pc' := 49) dX12_add_48 rfl rfl rfl ?_
    refine sn_iload (v := x4) (pc' := 51) dX12_add_49 rfl rfl ?_
    refine sn_iload (v := x5) (pc' := 53) dX12_add_51 rfl rfl ?_
    refine sn_cS (st := [va_rf v1]) (As := [.int x1, .int x4, .int x5]) (st2 := (fun v => .int v :: [va_rf v1])) (pc' := 56) (c_X12_spot G x1 x4 x5) cw_X12_spot rfl rfl tw1527 tw1528 rfl rfl (cat_q cat_nil) rfl (fun _ => rfl) dX12_add_53 rfl (fun v2 => ?_)
    refine sn_iconst (v := (0 : Int32)) (pc' := 57) dX12_add_56 rfl (by decide) ?_
    refine sn_sI (pc' := 58) dX12_add_57 rfl (fun _ => ?_)
    refine sn_aload_n (v := (some this)) (pc' := 59) dX12_add_58 rfl rfl rfl ?_
    refine sn_gR (k := 10) (pc' := 62) ci_13 rfl (Or.inl tw1288) dX12_add_59 rfl (fun v3 => ?_)
    refine sn_iload_n (v := x1) (pc' := 63) dX12_add_62 rfl rfl rfl ?_
    refine sn_iload (v := x4) (pc' := 65) dX12_add_63 rfl rfl ?_
    refine sn_iload (v := x5) (pc' := 67) dX12_add_65 rfl rfl ?_
    refine sn_cS (st := [va_rf v3]) (As := [.int x1, .int x4, .int x5]) (st2 := (fun v => .int v :: [va_rf v3])) (pc' := 70) (c_X12_spot G x1 x4 x5) cw_X12_spot rfl rfl tw1527 tw1528 rfl rfl (cat_q cat_nil) rfl (fun _ => rfl) dX12_add_67 rfl (fun v4 => ?_)
    refine sn_iconst (v := (0 : Int32)) (pc' := 71) dX12_add_70 rfl (by decide) ?_
    refine sn_sI (pc' := 72) dX12_add_71 rfl (fun _ => ?_)
    refine sn_iinc (v := x5) (w := 1) (L' := [some (va_rf (some this)), some (.int x1), none, none, some (.int x4), some (.int (x5 + (1 : Int32)))]) (pc' := 75) dX12_add_72 rfl rfl rfl (by decide) rfl ?_
    refine sn_goto (pc' := 37) dX12_add_75 rfl ?_
    exact sn_weak (le_s (le_s (le_n (le_n (le_s (le_s le_e)))))) (hk37 this x1 x4 (x5 + (1 : Int32)))
set_option maxRecDepth 100000 in
set_option maxHeartbeats 4000000 in
theorem s_X12_add_37 (G : GG)   : ∀ (n : Nat) (this : Nat) (x1 : Int32) (x4 : Int32) (x5 : Int32), Sn G yX12_add cX12_add 6 none 1 22 (fun _ : Unit => none) (X12_add_37  n this x1 x4 x5) 37 [some (va_rf (some this)), some (.int x1), none, none, some (.int x4), some (.int x5)] [] := by
  intro n
  induction n with
  | zero => intro this x1 x4 x5; exact sn_mf
  | succ n ih => intro this x1 x4 x5; exact s_X12_add_37_st G   (X12_add_37  n) ih this x1 x4 x5
set_option maxRecDepth 100000 in
set_option maxHeartbeats 4000000 in
theorem s_X12_add (G : GG) (this : Nat) (a1 : Int32) (a2 : Int32) (a3 : Int32) : Sn G yX12_add cX12_add 6 none 1 22 (fun _ : Unit => none) (X12_add this a1 a2 a3) 0 [some (va_rf (some this)), some (.int a1), some (.int a2), some (.int a3), none, none] [] := by
  unfold X12_add
  refine sn_aload_n (v := (some this)) (pc' := 1) dX12_add_0 rfl rfl rfl ?_
  refine sn_gR (k := 6) (pc' := 4) ci_13 rfl (Or.inl tw1284) dX12_add_1 rfl (fun v1 => ?_)
  refine sn_iload_n (v := a1) (pc' := 5) dX12_add_4 rfl rfl rfl ?_
  refine sn_aI (pc' := 6) dX12_add_5 rfl (fun v2 => ?_)
  refine sn_istore (v := v2) (L' := [some (va_rf (some this)), some (.int a1), some (.int a2), some (.int a3), some (.int v2), none]) (pc' := 8) dX12_add_6 rfl rfl rfl ?_
  refine sn_aload_n (v := (some this)) (pc' := 9) dX12_add_8 rfl rfl rfl ?_
  refine sn_gR (k := 7) (pc' := 12) ci_13 rfl (Or.inl tw1285) dX12_add_9 rfl (fun v3 => ?_)
  refine sn_iload_n (v := a1) (pc' := 13) dX12_add_12 rfl rfl rfl ?_
  refine sn_bipush (v := (71 : Int32)) (pc' := 15) dX12_add_13 rfl (by decide) ?_
  refine sn_imul (pc' := 16) dX12_add_15 rfl ?_
  refine sn_iload (v := v2) (pc' := 18) dX12_add_16 rfl rfl ?_
  refine sn_iadd (pc' := 19) dX12_add_18 rfl ?_
  refine sn_iload_n (v := a2) (pc' := 20) dX12_add_19 rfl rfl rfl ?_
  refine sn_sI (pc' := 21) dX12_add_20 rfl (fun _ => ?_)
  refine sn_aload_n (v := (some this)) (pc' := 22) dX12_add_21 rfl rfl rfl ?_
  refine sn_gR (k := 8) (pc' := 25) ci_13 rfl (Or.inl tw1286) dX12_add_22 rfl (fun v4 => ?_)
  refine sn_iload_n (v := a1) (pc' := 26) dX12_add_25 rfl rfl rfl ?_
  refine sn_bipush (v := (71 : Int32)) (pc' := 28) dX12_add_26 rfl (by decide) ?_
  refine sn_imul (pc' := 29) dX12_add_28 rfl ?_
  refine sn_iload (v := v2) (pc' := 31) dX12_add_29 rfl rfl ?_
  refine sn_iadd (pc' := 32) dX12_add_31 rfl ?_
  refine sn_iload_n (v := a3) (pc' := 33) dX12_add_32 rfl rfl rfl ?_
  refine sn_sI (pc' := 34) dX12_add_33 rfl (fun _ => ?_)
  refine sn_iconst (v := (0 : Int32)) (pc' := 35) dX12_add_34 rfl (by decide) ?_
  refine sn_istore (v := (0 : Int32)) (L' := [some (va_rf (some this)), some (.int a1), some (.int a2), some (.int a3), some (.int v2), some (.int (0 : Int32))]) (pc' := 37) dX12_add_35 rfl rfl rfl ?_
  exact sn_weak (le_s (le_s (le_n (le_n (le_s (le_s le_e)))))) (s_X12_add_37 G LFU this a1 v2 (0 : Int32))
theorem c_X12_add (G : GG) (this : Nat) (a1 : Int32) (a2 : Int32) (a3 : Int32) : Cal G yX12_add cX12_add 6 none 1 22 (fun _ : Unit => none) (X12_add this a1 a2 a3) [.ref this, .int a1, .int a2, .int a3] :=
  Cal.of (by decide) (cat_t (cat_i (cat_i (cat_i cat_nil)))) rfl (sn_weak (le_s (le_s (le_s (le_s (le_z (le_z le_e)))))) (s_X12_add G this a1 a2 a3))
theorem cw_X12_add : CW yX12_add cX12_add 6 none 3 := ⟨tw1526, tw15, by decide, by decide +kernel⟩
/-! X12_write -/
theorem dX12_write_0 : decode cX12_write 0 = .ok (.aload_n 0, 1) := by decide +kernel
theorem dX12_write_1 : decode cX12_write 1 = .ok (.getfield 202, 3) := by decide +kernel
theorem dX12_write_4 : decode cX12_write 4 = .ok (.aload_n 0, 1) := by decide +kernel
theorem dX12_write_5 : decode cX12_write 5 = .ok (.getfield 205, 3) := by decide +kernel
theorem dX12_write_8 : decode cX12_write 8 = .ok (.iload_n 1, 1) := by decide +kernel
theorem dX12_write_9 : decode cX12_write 9 = .ok (.iastore, 1) := by decide +kernel
theorem dX12_write_10 : decode cX12_write 10 = .ok (.aload_n 0, 1) := by decide +kernel
theorem dX12_write_11 : decode cX12_write 11 = .ok (.dup, 1) := by decide +kernel
theorem dX12_write_12 : decode cX12_write 12 = .ok (.getfield 205, 3) := by decide +kernel
theorem dX12_write_15 : decode cX12_write 15 = .ok (.iconst 1, 1) := by decide +kernel
theorem dX12_write_16 : decode cX12_write 16 = .ok (.iadd, 1) := by decide +kernel
theorem dX12_write_17 : decode cX12_write 17 = .ok (.putfield 205, 3) := by decide +kernel
theorem dX12_write_20 : decode cX12_write 20 = .ok (.return_, 1) := by decide +kernel
def X12_write (this : Nat) (a1 : Int32) : MM Unit :=
  mb (gR 13 (some this) 36) fun v1 =>
  mb (gI 13 (some this) 37) fun v2 =>
  mb (sI v1 v2 a1) fun _ =>
  mb (gI 13 (some this) 37) fun v3 =>
  mb (pI 13 (some this) 37 (v3 + (1 : Int32))) fun _ =>
  mr ()
set_option maxRecDepth 100000 in
set_option maxHeartbeats 4000000 in
theorem s_X12_write (G : GG) (this : Nat) (a1 : Int32) : Sn G yX12_write cX12_write 2 none 0 0 (fun _ : Unit => none) (X12_write this a1) 0 [some (va_rf (some this)), some (.int a1)] [] := by
  unfold X12_write
  refine sn_aload_n (v := (some this)) (pc' := 1) dX12_write_0 rfl rfl rfl ?_
  refine sn_gR (k := 36) (pc' := 4) ci_13 rfl (Or.inl tw1314) dX12_write_1 rfl (fun v1 => ?_)
  refine sn_aload_n (v := (some this)) (pc' := 5) dX12_write_4 rfl rfl rfl ?_
  refine sn_gI (k := 37) (pc' := 8) ci_13 rfl (Or.inl tw1315) dX12_write_5 rfl (fun v2 => ?_)
  refine sn_iload_n (v := a1) (pc' := 9) dX12_write_8 rfl rfl rfl ?_
  refine sn_sI (pc' := 10) dX12_write_9 rfl (fun _ => ?_)
  refine sn_aload_n (v := (some this)) (pc' := 11) dX12_write_10 rfl rfl rfl ?_
  refine sn_dup (pc' := 12) dX12_write_11 rfl (cat_rf _) ?_
  refine sn_gI (k := 37) (pc' := 15) ci_13 rfl (Or.inl tw1315) dX12_write_12 rfl (fun v3 => ?_)
  refine sn_iconst (v := (1 : Int32)) (pc' := 16) dX12_write_15 rfl (by decide) ?_
  refine sn_iadd (pc' := 17) dX12_write_16 rfl ?_
  refine sn_pI (k := 37) (pc' := 20) ci_13 rfl (Or.inl tw1315) (Or.inl rfl) rfl dX12_write_17 rfl (fun _ => ?_)
  exact sn_vret dX12_write_20 rfl
theorem c_X12_write (G : GG) (this : Nat) (a1 : Int32) : Cal G yX12_write cX12_write 2 none 0 0 (fun _ : Unit => none) (X12_write this a1) [.ref this, .int a1] :=
  Cal.of (by decide) (cat_t (cat_i cat_nil)) rfl (sn_weak (le_s (le_s le_e)) (s_X12_write G this a1))
theorem cw_X12_write : CW yX12_write cX12_write 2 none 1 := ⟨tw1636, tw15, by decide, by decide +kernel⟩
/-! X12_writeNumber -/
theorem dX12_writeNumber_0 : decode cX12_writeNumber 0 = .ok (.iload_n 1, 1) := by decide +kernel
theorem dX12_writeNumber_1 : decode cX12_writeNumber 1 = .ok (.bipush 99, 2) := by decide +kernel
theorem dX12_writeNumber_3 : decode cX12_writeNumber 3 = .ok (.if_icmp .le 14, 3) := by decide +kernel
theorem dX12_writeNumber_6 : decode cX12_writeNumber 6 = .ok (.aload_n 0, 1) := by decide +kernel
theorem dX12_writeNumber_7 : decode cX12_writeNumber 7 = .ok (.bipush 48, 2) := by decide +kernel
theorem dX12_writeNumber_9 : decode cX12_writeNumber 9 = .ok (.iload_n 1, 1) := by decide +kernel
theorem dX12_writeNumber_10 : decode cX12_writeNumber 10 = .ok (.bipush 100, 2) := by decide +kernel
theorem dX12_writeNumber_12 : decode cX12_writeNumber 12 = .ok (.idiv, 1) := by decide +kernel
theorem dX12_writeNumber_13 : decode cX12_writeNumber 13 = .ok (.iadd, 1) := by decide +kernel
theorem dX12_writeNumber_14 : decode cX12_writeNumber 14 = .ok (.invokevirtual 208, 3) := by decide +kernel
theorem dX12_writeNumber_17 : decode cX12_writeNumber 17 = .ok (.iload_n 1, 1) := by decide +kernel
theorem dX12_writeNumber_18 : decode cX12_writeNumber 18 = .ok (.bipush 9, 2) := by decide +kernel
theorem dX12_writeNumber_20 : decode cX12_writeNumber 20 = .ok (.if_icmp .le 17, 3) := by decide +kernel
theorem dX12_writeNumber_23 : decode cX12_writeNumber 23 = .ok (.aload_n 0, 1) := by decide +kernel
theorem dX12_writeNumber_24 : decode cX12_writeNumber 24 = .ok (.bipush 48, 2) := by decide +kernel
theorem dX12_writeNumber_26 : decode cX12_writeNumber 26 = .ok (.iload_n 1, 1) := by decide +kernel
theorem dX12_writeNumber_27 : decode cX12_writeNumber 27 = .ok (.bipush 10, 2) := by decide +kernel
theorem dX12_writeNumber_29 : decode cX12_writeNumber 29 = .ok (.idiv, 1) := by decide +kernel
theorem dX12_writeNumber_30 : decode cX12_writeNumber 30 = .ok (.bipush 10, 2) := by decide +kernel
theorem dX12_writeNumber_32 : decode cX12_writeNumber 32 = .ok (.irem, 1) := by decide +kernel
theorem dX12_writeNumber_33 : decode cX12_writeNumber 33 = .ok (.iadd, 1) := by decide +kernel
theorem dX12_writeNumber_34 : decode cX12_writeNumber 34 = .ok (.invokevirtual 208, 3) := by decide +kernel
theorem dX12_writeNumber_37 : decode cX12_writeNumber 37 = .ok (.aload_n 0, 1) := by decide +kernel
theorem dX12_writeNumber_38 : decode cX12_writeNumber 38 = .ok (.bipush 48, 2) := by decide +kernel
theorem dX12_writeNumber_40 : decode cX12_writeNumber 40 = .ok (.iload_n 1, 1) := by decide +kernel
theorem dX12_writeNumber_41 : decode cX12_writeNumber 41 = .ok (.bipush 10, 2) := by decide +kernel
theorem dX12_writeNumber_43 : decode cX12_writeNumber 43 = .ok (.irem, 1) := by decide +kernel
theorem dX12_writeNumber_44 : decode cX12_writeNumber 44 = .ok (.iadd, 1) := by decide +kernel
theorem dX12_writeNumber_45 : decode cX12_writeNumber 45 = .ok (.invokevirtual 208, 3) := by decide +kernel
theorem dX12_writeNumber_48 : decode cX12_writeNumber 48 = .ok (.return_, 1) := by decide +kernel
def X12_writeNumber_37  (this : Nat) (x1 : Int32) : MM Unit :=
  mb (rI x1 (10 : Int32)) fun v1 =>
  mb (wc 13 (some this) fun t => X12_write t ((48 : Int32) + v1)) fun _ =>
  mr ()
def X12_writeNumber_17  (this : Nat) (x1 : Int32) : MM Unit :=
  if x1 ≤ (9 : Int32) then ((X12_writeNumber_37 this x1)) else (mb (dI x1 (10 : Int32)) fun v1 =>
  mb (rI v1 (10 : Int32)) fun v2 =>
  mb (wc 13 (some this) fun t => X12_write t ((48 : Int32) + v2)) fun _ =>
  (X12_writeNumber_37 this x1))
def X12_writeNumber (this : Nat) (a1 : Int32) : MM Unit :=
  if a1 ≤ (99 : Int32) then ((X12_writeNumber_17 this a1)) else (mb (dI a1 (100 : Int32)) fun v1 =>
  mb (wc 13 (some this) fun t => X12_write t ((48 : Int32) + v1)) fun _ =>
  (X12_writeNumber_17 this a1))
set_option maxRecDepth 100000 in
set_option maxHeartbeats 4000000 in
theorem s_X12_writeNumber_37 (G : GG)   (this : Nat) (x1 : Int32) : Sn G yX12_writeNumber cX12_writeNumber 2 none 1 21 (fun _ : Unit => none) (X12_writeNumber_37  this x1) 37 [some (va_rf (some this)), some (.int x1)] [] := by
  unfold X12_writeNumber_37
  refine sn_aload_n (v := (some this)) (pc' := 38) dX12_writeNumber_37 rfl rfl rfl ?_
  refine sn_bipush (v := (48 : Int32)) (pc' := 40) dX12_writeNumber_38 rfl (by decide) ?_
  refine sn_iload_n (v := x1) (pc' := 41) dX12_writeNumber_40 rfl rfl rfl ?_
  refine sn_bipush (v := (10 : Int32)) (pc' := 43) dX12_writeNumber_41 rfl (by decide) ?_
  refine sn_rI (pc' := 44) dX12_writeNumber_43 rfl (fun v1 => ?_)
  refine sn_iadd (pc' := 45) dX12_writeNumber_44 rfl ?_
  refine sn_cV (r := (some this)) (st := []) (As := [.int ((48 : Int32) + v1)]) (st2 := (fun _ => [])) (pc' := 48) ci_13 (fun t => c_X12_write G t ((48 : Int32) + v1)) cw_X12_write rfl rfl tw1633 pw77 tw1635 rfl rfl cat_nil rfl (fun _ => rfl) dX12_writeNumber_45 rfl (fun _ => ?_)
  exact sn_vret dX12_writeNumber_48 rfl
set_option maxRecDepth 100000 in
set_option maxHeartbeats 4000000 in
theorem s_X12_writeNumber_17 (G : GG)   (this : Nat) (x1 : Int32) : Sn G yX12_writeNumber cX12_writeNumber 2 none 1 21 (fun _ : Unit => none) (X12_writeNumber_17  this x1) 17 [some (va_rf (some this)), some (.int x1)] [] := by
  unfold X12_writeNumber_17
  refine sn_iload_n (v := x1) (pc' := 18) dX12_writeNumber_17 rfl rfl rfl ?_
  refine sn_bipush (v := (9 : Int32)) (pc' := 20) dX12_writeNumber_18 rfl (by decide) ?_
  refine sn_ic_le (pt := 37) (pf := 23) dX12_writeNumber_20 rfl rfl ?_ ?_
  · exact sn_weak (le_s (le_s le_e)) (s_X12_writeNumber_37 G this x1)
  · refine sn_aload_n (v := (some this)) (pc' := 24) dX12_writeNumber_23 rfl rfl rfl ?_
    refine sn_bipush (v := (48 : Int32)) (pc' := 26) dX12_writeNumber_24 rfl (by decide) ?_
    refine sn_iload_n (v := x1) (pc' := 27) dX12_writeNumber_26 rfl rfl rfl ?_
    refine sn_bipush (v := (10 : Int32)) (pc' := 29) dX12_writeNumber_27 rfl (by decide) ?_
    refine sn_dI (pc' := 30) dX12_writeNumber_29 rfl (fun v1 => ?_)
    refine sn_bipush (v := (10 : Int32)) (pc' := 32) dX12_writeNumber_30 rfl (by decide) ?_
    refine sn_rI (pc' := 33) dX12_writeNumber_32 rfl (fun v2 => ?_)
    refine sn_iadd (pc' := 34) dX12_writeNumber_33 rfl ?_
    refine sn_cV (r := (some this)) (st := []) (As := [.int ((48 : Int32) + v2)]) (st2 := (fun _ => [])) (pc' := 37) ci_13 (fun t => c_X12_write G t ((48 : Int32) + v2)) cw_X12_write rfl rfl tw1633 pw77 tw1635 rfl rfl cat_nil rfl (fun _ => rfl) dX12_writeNumber_34 rfl (fun _ => ?_)
    exact sn_weak (le_s (le_s le_e)) (s_X12_writeNumber_37 G this x1)
set_option maxRecDepth 100000 in
set_option maxHeartbeats 4000000 in
theorem s_X12_writeNumber (G : GG) (this : Nat) (a1 : Int32) : Sn G yX12_writeNumber cX12_writeNumber 2 none 1 21 (fun _ : Unit => none) (X12_writeNumber this a1) 0 [some (va_rf (some this)), some (.int a1)] [] := by
  unfold X12_writeNumber
  refine sn_iload_n (v := a1) (pc' := 1) dX12_writeNumber_0 rfl rfl rfl ?_
  refine sn_bipush (v := (99 : Int32)) (pc' := 3) dX12_writeNumber_1 rfl (by decide) ?_
  refine sn_ic_le (pt := 17) (pf := 6) dX12_writeNumber_3 rfl rfl ?_ ?_
  · exact sn_weak (le_s (le_s le_e)) (s_X12_writeNumber_17 G this a1)
  · refine sn_aload_n (v := (some this)) (pc' := 7) dX12_writeNumber_6 rfl rfl rfl ?_
    refine sn_bipush (v := (48 : Int32)) (pc' := 9) dX12_writeNumber_7 rfl (by decide) ?_
    refine sn_iload_n (v := a1) (pc' := 10) dX12_writeNumber_9 rfl rfl rfl ?_
    refine sn_bipush (v := (100 : Int32)) (pc' := 12) dX12_writeNumber_10 rfl (by decide) ?_
    refine sn_dI (pc' := 13) dX12_writeNumber_12 rfl (fun v1 => ?_)
    refine sn_iadd (pc' := 14) dX12_writeNumber_13 rfl ?_
    refine sn_cV (r := (some this)) (st := []) (As := [.int ((48 : Int32) + v1)]) (st2 := (fun _ => [])) (pc' := 17) ci_13 (fun t => c_X12_write G t ((48 : Int32) + v1)) cw_X12_write rfl rfl tw1633 pw77 tw1635 rfl rfl cat_nil rfl (fun _ => rfl) dX12_writeNumber_14 rfl (fun _ => ?_)
    exact sn_weak (le_s (le_s le_e)) (s_X12_writeNumber_17 G this a1)
theorem c_X12_writeNumber (G : GG) (this : Nat) (a1 : Int32) : Cal G yX12_writeNumber cX12_writeNumber 2 none 1 21 (fun _ : Unit => none) (X12_writeNumber this a1) [.ref this, .int a1] :=
  Cal.of (by decide) (cat_t (cat_i cat_nil)) rfl (sn_weak (le_s (le_s le_e)) (s_X12_writeNumber G this a1))
theorem cw_X12_writeNumber : CW yX12_writeNumber cX12_writeNumber 2 none 1 := ⟨tw1648, tw15, by decide, by decide +kernel⟩
/-! X12_writeWord -/
theorem dX12_writeWord_0 : decode cX12_writeWord 0 = .ok (.iconst 0, 1) := by decide +kernel
theorem dX12_writeWord_1 : decode cX12_writeWord 1 = .ok (.istore_n 2, 1) := by decide +kernel
theorem dX12_writeWord_2 : decode cX12_writeWord 2 = .ok (.iload_n 2, 1) := by decide +kernel
theorem dX12_writeWord_3 : decode cX12_writeWord 3 = .ok (.aload_n 1, 1) := by decide +kernel
theorem dX12_writeWord_4 : decode cX12_writeWord 4 = .ok (.invokevirtual 63, 3) := by decide +kernel
theorem dX12_writeWord_7 : decode cX12_writeWord 7 = .ok (.if_icmp .ge 18, 3) := by decide +kernel
theorem dX12_writeWord_10 : decode cX12_writeWord 10 = .ok (.aload_n 0, 1) := by decide +kernel
theorem dX12_writeWord_11 : decode cX12_writeWord 11 = .ok (.aload_n 1, 1) := by decide +kernel
theorem dX12_writeWord_12 : decode cX12_writeWord 12 = .ok (.iload_n 2, 1) := by decide +kernel
theorem dX12_writeWord_13 : decode cX12_writeWord 13 = .ok (.invokevirtual 72, 3) := by decide +kernel
theorem dX12_writeWord_16 : decode cX12_writeWord 16 = .ok (.invokevirtual 208, 3) := by decide +kernel
theorem dX12_writeWord_19 : decode cX12_writeWord 19 = .ok (.iinc 2 1, 3) := by decide +kernel
theorem dX12_writeWord_22 : decode cX12_writeWord 22 = .ok (.goto (-20), 3) := by decide +kernel
theorem dX12_writeWord_25 : decode cX12_writeWord 25 = .ok (.return_, 1) := by decide +kernel
def X12_writeWord_2_st  (k2 : Nat → Option Nat → Int32 → MM Unit) (this : Nat) (x1 : Option Nat) (x2 : Int32) : MM Unit :=
  mb (wc 0 x1 fun t => J0_length_8abf5 t ) fun v1 =>
  if v1 ≤ x2 then (mr ()) else (mb (wc 0 x1 fun t => J0_charAt_5068e t x2) fun v2 =>
  mb (wc 13 (some this) fun t => X12_write t v2) fun _ =>
  (k2 this x1 (x2 + (1 : Int32))))
def X12_writeWord_2  : Nat → Nat → Option Nat → Int32 → MM Unit
  | 0 => fun _ _ _ => mf
  | n + 1 => fun this x1 x2 => X12_writeWord_2_st  (X12_writeWord_2  n) this x1 x2
def X12_writeWord (this : Nat) (a1 : Option Nat) : MM Unit :=
  (X12_writeWord_2 LFU this a1 (0 : Int32))
set_option maxRecDepth 100000 in
set_option maxHeartbeats 4000000 in
theorem s_X12_writeWord_2_st (G : GG)   (k2 : Nat → Option Nat → Int32 → MM Unit) (hk2 : ∀ (this : Nat) (x1 : Option Nat) (x2 : Int32), Sn G yX12_writeWord cX12_writeWord 3 none 4 85 (fun _ : Unit => none) (k2 this x1 x2) 2 [some (va_rf (some this)), some (va_rf x1), some (.int x2)] []) (this : Nat) (x1 : Option Nat) (x2 : Int32) : Sn G yX12_writeWord cX12_writeWord 3 none 4 85 (fun _ : Unit => none) (X12_writeWord_2_st  k2 this x1 x2) 2 [some (va_rf (some this)), some (va_rf x1), some (.int x2)] [] := by
  unfold X12_writeWord_2_st
  refine sn_iload_n (v := x2) (pc' := 3) dX12_writeWord_2 rfl rfl rfl ?_
  refine sn_aload_n (v := x1) (pc' := 4) dX12_writeWord_3 rfl rfl rfl ?_
  refine sn_cV (r := x1) (st := [.int x2]) (As := []) (st2 := (fun v => .int v :: [.int x2])) (pc' := 7) ci_0 (fun t => c_J0_length_8abf5 G t ) cw_J0_length_8abf5 rfl rfl tw1467 tw409 tw408 rfl rfl (cat_i cat_nil) rfl (fun _ => rfl) dX12_writeWord_4 rfl (fun v1 => ?_)
  refine sn_ic_ge (pt := 25) (pf := 10) dX12_writeWord_7 rfl rfl ?_ ?_
  · exact sn_vret dX12_writeWord_25 rfl
  · refine sn_aload_n (v := (some this)) (pc' := 11) dX12_writeWord_10 rfl rfl rfl ?_
    refine sn_aload_n (v := x1) (pc' := 12) dX12_writeWord_11 rfl rfl rfl ?_
    refine sn_iload_n (v := x2) (pc' := 13) dX12_writeWord_12 rfl rfl rfl ?_
    refine sn_cV (r := x1) (st := [va_rf (some this)]) (As := [.int x2]) (st2 := (fun v => .int v :: [va_rf (some this)])) (pc' := 16) ci_0 (fun t => c_J0_charAt_5068e G t x2) cw_J0_charAt_5068e rfl rfl tw1468 tw740 tw739 rfl rfl (cat_q cat_nil) rfl (fun _ => rfl) dX12_writeWord_13 rfl (fun v2 => ?_)
    refine sn_cV (r := (some this)) (st := []) (As := [.int v2]) (st2 := (fun _ => [])) (pc' := 19) ci_13 (fun t => c_X12_write G t v2) cw_X12_write rfl rfl tw1633 pw77 tw1635 rfl rfl cat_nil rfl (fun _ => rfl) dX12_writeWord_16 rfl (fun _ => ?_)
    refine sn_iinc (v := x2) (w := 1) (L' := [some (va_rf (some this)), some (va_rf x1), some (.int (x2 + (1 : Int32)))]) (pc' := 22) dX12_writeWord_19 rfl rfl rfl (by decide) rfl ?_
    refine sn_goto (pc' := 2) dX12_writeWord_22 rfl ?_
    exact sn_weak (le_s (le_s (le_s le_e))) (hk2 this x1 (x2 + (1 : Int32)))
set_option maxRecDepth 100000 in
set_option maxHeartbeats 4000000 in
theorem s_X12_writeWord_2 (G : GG)   : ∀ (n : Nat) (this : Nat) (x1 : Option Nat) (x2 : Int32), Sn G yX12_writeWord cX12_writeWord 3 none 4 85 (fun _ : Unit => none) (X12_writeWord_2  n this x1 x2) 2 [some (va_rf (some this)), some (va_rf x1), some (.int x2)] [] := by
  intro n
  induction n with
  | zero => intro this x1 x2; exact sn_mf
  | succ n ih => intro this x1 x2; exact s_X12_writeWord_2_st G   (X12_writeWord_2  n) ih this x1 x2
set_option maxRecDepth 100000 in
set_option maxHeartbeats 4000000 in
theorem s_X12_writeWord (G : GG) (this : Nat) (a1 : Option Nat) : Sn G yX12_writeWord cX12_writeWord 3 none 4 85 (fun _ : Unit => none) (X12_writeWord this a1) 0 [some (va_rf (some this)), some (va_rf a1), none] [] := by
  unfold X12_writeWord
  refine sn_iconst (v := (0 : Int32)) (pc' := 1) dX12_writeWord_0 rfl (by decide) ?_
  refine sn_istore_n (v := (0 : Int32)) (L' := [some (va_rf (some this)), some (va_rf a1), some (.int (0 : Int32))]) (pc' := 2) dX12_writeWord_1 rfl rfl rfl rfl ?_
  exact sn_weak (le_s (le_s (le_s le_e))) (s_X12_writeWord_2 G LFU this a1 (0 : Int32))
theorem c_X12_writeWord (G : GG) (this : Nat) (a1 : Option Nat) : Cal G yX12_writeWord cX12_writeWord 3 none 4 85 (fun _ : Unit => none) (X12_writeWord this a1) [.ref this, va_rf a1] :=
  Cal.of (by decide) (cat_t (cat_q cat_nil)) rfl (sn_weak (le_s (le_s (le_z le_e))) (s_X12_writeWord G this a1))
theorem cw_X12_writeWord : CW yX12_writeWord cX12_writeWord 3 none 1 := ⟨tw1644, tw15, by decide, by decide +kernel⟩
/-! X12_writeSign -/
theorem dX12_writeSign_0 : decode cX12_writeSign 0 = .ok (.iload_n 1, 1) := by decide +kernel
theorem dX12_writeSign_1 : decode cX12_writeSign 1 = .ok (.ifCond .ne 12, 3) := by decide +kernel
theorem dX12_writeSign_4 : decode cX12_writeSign 4 = .ok (.aload_n 0, 1) := by decide +kernel
theorem dX12_writeSign_5 : decode cX12_writeSign 5 = .ok (.ldc 76, 2) := by decide +kernel
theorem dX12_writeSign_7 : decode cX12_writeSign 7 = .ok (.invokevirtual 211, 3) := by decide +kernel
theorem dX12_writeSign_10 : decode cX12_writeSign 10 = .ok (.goto 51, 3) := by decide +kernel
theorem dX12_writeSign_13 : decode cX12_writeSign 13 = .ok (.iload_n 1, 1) := by decide +kernel
theorem dX12_writeSign_14 : decode cX12_writeSign 14 = .ok (.bipush 70, 2) := by decide +kernel
theorem dX12_writeSign_16 : decode cX12_writeSign 16 = .ok (.if_icmp .ne 12, 3) := by decide +kernel
theorem dX12_writeSign_19 : decode cX12_writeSign 19 = .ok (.aload_n 0, 1) := by decide +kernel
theorem dX12_writeSign_20 : decode cX12_writeSign 20 = .ok (.ldc 82, 2) := by decide +kernel
theorem dX12_writeSign_22 : decode cX12_writeSign 22 = .ok (.invokevirtual 211, 3) := by decide +kernel
theorem dX12_writeSign_25 : decode cX12_writeSign 25 = .ok (.goto 36, 3) := by decide +kernel
theorem dX12_writeSign_28 : decode cX12_writeSign 28 = .ok (.iconst 0, 1) := by decide +kernel
theorem dX12_writeSign_29 : decode cX12_writeSign 29 = .ok (.istore_n 2, 1) := by decide +kernel
theorem dX12_writeSign_30 : decode cX12_writeSign 30 = .ok (.iload_n 2, 1) := by decide +kernel
theorem dX12_writeSign_31 : decode cX12_writeSign 31 = .ok (.iload_n 1, 1) := by decide +kernel
theorem dX12_writeSign_32 : decode cX12_writeSign 32 = .ok (.iconst 1, 1) := by decide +kernel
theorem dX12_writeSign_33 : decode cX12_writeSign 33 = .ok (.isub, 1) := by decide +kernel
theorem dX12_writeSign_34 : decode cX12_writeSign 34 = .ok (.bipush 23, 2) := by decide +kernel
theorem dX12_writeSign_36 : decode cX12_writeSign 36 = .ok (.idiv, 1) := by decide +kernel
theorem dX12_writeSign_37 : decode cX12_writeSign 37 = .ok (.if_icmp .gt 24, 3) := by decide +kernel
theorem dX12_writeSign_40 : decode cX12_writeSign 40 = .ok (.aload_n 0, 1) := by decide +kernel
theorem dX12_writeSign_41 : decode cX12_writeSign 41 = .ok (.ldc 84, 2) := by decide +kernel
theorem dX12_writeSign_43 : decode cX12_writeSign 43 = .ok (.iload_n 1, 1) := by decide +kernel
theorem dX12_writeSign_44 : decode cX12_writeSign 44 = .ok (.iconst 1, 1) := by decide +kernel
theorem dX12_writeSign_45 : decode cX12_writeSign 45 = .ok (.isub, 1) := by decide +kernel
theorem dX12_writeSign_46 : decode cX12_writeSign 46 = .ok (.bipush 23, 2) := by decide +kernel
theorem dX12_writeSign_48 : decode cX12_writeSign 48 = .ok (.irem, 1) := by decide +kernel
theorem dX12_writeSign_49 : decode cX12_writeSign 49 = .ok (.invokevirtual 72, 3) := by decide +kernel
theorem dX12_writeSign_52 : decode cX12_writeSign 52 = .ok (.invokevirtual 208, 3) := by decide +kernel
theorem dX12_writeSign_55 : decode cX12_writeSign 55 = .ok (.iinc 2 1, 3) := by decide +kernel
theorem dX12_writeSign_58 : decode cX12_writeSign 58 = .ok (.goto (-28), 3) := by decide +kernel
theorem dX12_writeSign_61 : decode cX12_writeSign 61 = .ok (.return_, 1) := by decide +kernel
def X12_writeSign_30_st  (k30 : Nat → Int32 → Int32 → MM Unit) (this : Nat) (x1 : Int32) (x2 : Int32) : MM Unit :=
  mb (dI (x1 - (1 : Int32)) (23 : Int32)) fun v1 =>
  if v1 < x2 then (mr ()) else (mb (kR 12) fun v2 =>
  mb (rI (x1 - (1 : Int32)) (23 : Int32)) fun v3 =>
  mb (wc 0 v2 fun t => J0_charAt_5068e t v3) fun v4 =>
  mb (wc 13 (some this) fun t => X12_write t v4) fun _ =>
  (k30 this x1 (x2 + (1 : Int32))))
def X12_writeSign_30  : Nat → Nat → Int32 → Int32 → MM Unit
  | 0 => fun _ _ _ => mf
  | n + 1 => fun this x1 x2 => X12_writeSign_30_st  (X12_writeSign_30  n) this x1 x2
def X12_writeSign (this : Nat) (a1 : Int32) : MM Unit :=
  if a1 = 0 then (mb (kR 10) fun v1 =>
  mb (wc 13 (some this) fun t => X12_writeWord t v1) fun _ =>
  mr ()) else (if a1 = (70 : Int32) then (mb (kR 11) fun v2 =>
  mb (wc 13 (some this) fun t => X12_writeWord t v2) fun _ =>
  mr ()) else ((X12_writeSign_30 LFU this a1 (0 : Int32))))
set_option maxRecDepth 100000 in
set_option maxHeartbeats 4000000 in
theorem s_X12_writeSign_30_st (G : GG)   (k30 : Nat → Int32 → Int32 → MM Unit) (hk30 : ∀ (this : Nat) (x1 : Int32) (x2 : Int32), Sn G yX12_writeSign cX12_writeSign 3 none 5 107 (fun _ : Unit => none) (k30 this x1 x2) 30 [some (va_rf (some this)), some (.int x1), some (.int x2)] []) (this : Nat) (x1 : Int32) (x2 : Int32) : Sn G yX12_writeSign cX12_writeSign 3 none 5 107 (fun _ : Unit => none) (X12_writeSign_30_st  k30 this x1 x2) 30 [some (va_rf (some this)), some (.int x1), some (.int x2)] [] := by
  unfold X12_writeSign_30_st
  refine sn_iload_n (v := x2) (pc' := 31) dX12_writeSign_30 rfl rfl rfl ?_
  refine sn_iload_n (v := x1) (pc' := 32) dX12_writeSign_31 rfl rfl rfl ?_
  refine sn_iconst (v := (1 : Int32)) (pc' := 33) dX12_writeSign_32 rfl (by decide) ?_
  refine sn_isub (pc' := 34) dX12_writeSign_33 rfl ?_
  refine sn_bipush (v := (23 : Int32)) (pc' := 36) dX12_writeSign_34 rfl (by decide) ?_
  refine sn_dI (pc' := 37) dX12_writeSign_36 rfl (fun v1 => ?_)
  refine sn_ic_gt (pt := 61) (pf := 40) dX12_writeSign_37 rfl rfl ?_ ?_
  · exact sn_vret dX12_writeSign_61 rfl
  · refine sn_aload_n (v := (some this)) (pc' := 41) dX12_writeSign_40 rfl rfl rfl ?_
    refine sn_kS (i := 12) (pc' := 43) (tx := "abcdefghiklmnopqrstvxyz") (by decide +kernel) dX12_writeSign_41 rfl (fun v2 => ?_)
    refine sn_iload_n (v := x1) (pc' := 44) dX12_writeSign_43 rfl rfl rfl ?_
    refine sn_iconst (v := (1 : Int32)) (pc' := 45) dX12_writeSign_44 rfl (by decide) ?_
    refine sn_isub (pc' := 46) dX12_writeSign_45 rfl ?_
    refine sn_bipush (v := (23 : Int32)) (pc' := 48) dX12_writeSign_46 rfl (by decide) ?_
    refine sn_rI (pc' := 49) dX12_writeSign_48 rfl (fun v3 => ?_)
    refine sn_cV (r := v2) (st := [va_rf (some this)]) (As := [.int v3]) (st2 := (fun v => .int v :: [va_rf (some this)])) (pc' := 52) ci_0 (fun t => c_J0_charAt_5068e G t v3) cw_J0_charAt_5068e rfl rfl tw1468 tw740 tw739 rfl rfl (cat_q cat_nil) rfl (fun _ => rfl) dX12_writeSign_49 rfl (fun v4 => ?_)
    refine sn_cV (r := (some this)) (st := []) (As := [.int v4]) (st2 := (fun _ => [])) (pc' := 55) ci_13 (fun t => c_X12_write G t v4) cw_X12_write rfl rfl tw1633 pw77 tw1635 rfl rfl cat_nil rfl (fun _ => rfl) dX12_writeSign_52 rfl (fun _ => ?_)
    refine sn_iinc (v := x2) (w := 1) (L' := [some (va_rf (some this)), some (.int x1), some (.int (x2 + (1 : Int32)))]) (pc' := 58) dX12_writeSign_55 rfl rfl rfl (by decide) rfl ?_
    refine sn_goto (pc' := 30) dX12_writeSign_58 rfl ?_
    exact sn_weak (le_s (le_s (le_s le_e))) (hk30 this x1 (x2 + (1 : Int32)))
set_option maxRecDepth 100000 in
set_option maxHeartbeats 4000000 in
theorem s_X12_writeSign_30 (G : GG)   : ∀ (n : Nat) (this : Nat) (x1 : Int32) (x2 : Int32), Sn G yX12_writeSign cX12_writeSign 3 none 5 107 (fun _ : Unit => none) (X12_writeSign_30  n this x1 x2) 30 [some (va_rf (some this)), some (.int x1), some (.int x2)] [] := by
  intro n
  induction n with
  | zero => intro this x1 x2; exact sn_mf
  | succ n ih => intro this x1 x2; exact s_X12_writeSign_30_st G   (X12_writeSign_30  n) ih this x1 x2
set_option maxRecDepth 100000 in
set_option maxHeartbeats 4000000 in
theorem s_X12_writeSign (G : GG) (this : Nat) (a1 : Int32) : Sn G yX12_writeSign cX12_writeSign 3 none 5 107 (fun _ : Unit => none) (X12_writeSign this a1) 0 [some (va_rf (some this)), some (.int a1), none] [] := by
  unfold X12_writeSign
  refine sn_iload_n (v := a1) (pc' := 1) dX12_writeSign_0 rfl rfl rfl ?_
  refine sn_if_ne (pt := 13) (pf := 4) dX12_writeSign_1 rfl rfl ?_ ?_
  · refine sn_aload_n (v := (some this)) (pc' := 5) dX12_writeSign_4 rfl rfl rfl ?_
    refine sn_kS (i := 10) (pc' := 7) (tx := "pi") (by decide +kernel) dX12_writeSign_5 rfl (fun v1 => ?_)
    refine sn_cV (r := (some this)) (st := []) (As := [va_rf v1]) (st2 := (fun _ => [])) (pc' := 10) ci_13 (fun t => c_X12_writeWord G t v1) cw_X12_writeWord rfl rfl tw1641 pw79 tw1643 rfl rfl cat_nil rfl (fun _ => rfl) dX12_writeSign_7 rfl (fun _ => ?_)
    refine sn_goto (pc' := 61) dX12_writeSign_10 rfl ?_
    exact sn_vret dX12_writeSign_61 rfl
  · refine sn_iload_n (v := a1) (pc' := 14) dX12_writeSign_13 rfl rfl rfl ?_
    refine sn_bipush (v := (70 : Int32)) (pc' := 16) dX12_writeSign_14 rfl (by decide) ?_
    refine sn_ic_ne (pt := 28) (pf := 19) dX12_writeSign_16 rfl rfl ?_ ?_
    · refine sn_aload_n (v := (some this)) (pc' := 20) dX12_writeSign_19 rfl rfl rfl ?_
      refine sn_kS (i := 11) (pc' := 22) (tx := "chi") (by decide +kernel) dX12_writeSign_20 rfl (fun v2 => ?_)
      refine sn_cV (r := (some this)) (st := []) (As := [va_rf v2]) (st2 := (fun _ => [])) (pc' := 25) ci_13 (fun t => c_X12_writeWord G t v2) cw_X12_writeWord rfl rfl tw1641 pw79 tw1643 rfl rfl cat_nil rfl (fun _ => rfl) dX12_writeSign_22 rfl (fun _ => ?_)
      refine sn_goto (pc' := 61) dX12_writeSign_25 rfl ?_
      exact sn_vret dX12_writeSign_61 rfl
    · refine sn_iconst (v := (0 : Int32)) (pc' := 29) dX12_writeSign_28 rfl (by decide) ?_
      refine sn_istore_n (v := (0 : Int32)) (L' := [some (va_rf (some this)), some (.int a1), some (.int (0 : Int32))]) (pc' := 30) dX12_writeSign_29 rfl rfl rfl rfl ?_
      exact sn_weak (le_s (le_s (le_s le_e))) (s_X12_writeSign_30 G LFU this a1 (0 : Int32))
theorem c_X12_writeSign (G : GG) (this : Nat) (a1 : Int32) : Cal G yX12_writeSign cX12_writeSign 3 none 5 107 (fun _ : Unit => none) (X12_writeSign this a1) [.ref this, .int a1] :=
  Cal.of (by decide) (cat_t (cat_i cat_nil)) rfl (sn_weak (le_s (le_s (le_z le_e))) (s_X12_writeSign G this a1))
theorem cw_X12_writeSign : CW yX12_writeSign cX12_writeSign 3 none 1 := ⟨tw1640, tw15, by decide, by decide +kernel⟩
/-! X12_isLetters -/
theorem dX12_isLetters_0 : decode cX12_isLetters 0 = .ok (.iload_n 0, 1) := by decide +kernel
theorem dX12_isLetters_1 : decode cX12_isLetters 1 = .ok (.ifCond .eq 13, 3) := by decide +kernel
theorem dX12_isLetters_4 : decode cX12_isLetters 4 = .ok (.iload_n 0, 1) := by decide +kernel
theorem dX12_isLetters_5 : decode cX12_isLetters 5 = .ok (.bipush 70, 2) := by decide +kernel
theorem dX12_isLetters_7 : decode cX12_isLetters 7 = .ok (.if_icmp .eq 7, 3) := by decide +kernel
theorem dX12_isLetters_10 : decode cX12_isLetters 10 = .ok (.iconst 1, 1) := by decide +kernel
theorem dX12_isLetters_11 : decode cX12_isLetters 11 = .ok (.goto 4, 3) := by decide +kernel
theorem dX12_isLetters_14 : decode cX12_isLetters 14 = .ok (.iconst 0, 1) := by decide +kernel
theorem dX12_isLetters_15 : decode cX12_isLetters 15 = .ok (.ireturn, 1) := by decide +kernel
def X12_isLetters (a0 : Int32) : MM Int32 :=
  if a0 = 0 then (mr (0 : Int32)) else (if a0 = (70 : Int32) then (mr (0 : Int32)) else (mr (1 : Int32)))
set_option maxRecDepth 100000 in
set_option maxHeartbeats 4000000 in
theorem s_X12_isLetters (G : GG) (a0 : Int32) : Sn G yX12_isLetters cX12_isLetters 1 (some FieldType.boolean) 0 0 (fun v : Int32 => some (.int v)) (X12_isLetters a0) 0 [some (.int a0)] [] := by
  unfold X12_isLetters
  refine sn_iload_n (v := a0) (pc' := 1) dX12_isLetters_0 rfl rfl rfl ?_
  refine sn_if_eq (pt := 14) (pf := 4) dX12_isLetters_1 rfl rfl ?_ ?_
  · refine sn_iconst (v := (0 : Int32)) (pc' := 15) dX12_isLetters_14 rfl (by decide) ?_
    exact sn_iret dX12_isLetters_15 rfl (by decide)
  · refine sn_iload_n (v := a0) (pc' := 5) dX12_isLetters_4 rfl rfl rfl ?_
    refine sn_bipush (v := (70 : Int32)) (pc' := 7) dX12_isLetters_5 rfl (by decide) ?_
    refine sn_ic_eq (pt := 14) (pf := 10) dX12_isLetters_7 rfl rfl ?_ ?_
    · refine sn_iconst (v := (0 : Int32)) (pc' := 15) dX12_isLetters_14 rfl (by decide) ?_
      exact sn_iret dX12_isLetters_15 rfl (by decide)
    · refine sn_iconst (v := (1 : Int32)) (pc' := 11) dX12_isLetters_10 rfl (by decide) ?_
      refine sn_goto (pc' := 15) dX12_isLetters_11 rfl ?_
      exact sn_iret dX12_isLetters_15 rfl (by decide)
theorem c_X12_isLetters (G : GG) (a0 : Int32) : Cal G yX12_isLetters cX12_isLetters 1 (some FieldType.boolean) 0 0 (fun v : Int32 => some (.int v)) (X12_isLetters a0) [.int a0] :=
  Cal.of (by decide) (cat_i cat_nil) rfl (sn_weak (le_s le_e) (s_X12_isLetters G a0))
theorem cw_X12_isLetters : CW yX12_isLetters cX12_isLetters 1 (some FieldType.boolean) 1 := ⟨tw1632, tw15, by decide, by decide +kernel⟩
/-! X12_writeChanges -/
theorem dX12_writeChanges_0 : decode cX12_writeChanges 0 = .ok (.iconst 0, 1) := by decide +kernel
theorem dX12_writeChanges_1 : decode cX12_writeChanges 1 = .ok (.istore 4, 2) := by decide +kernel
theorem dX12_writeChanges_3 : decode cX12_writeChanges 3 = .ok (.iload_n 2, 1) := by decide +kernel
theorem dX12_writeChanges_4 : decode cX12_writeChanges 4 = .ok (.istore 5, 2) := by decide +kernel
theorem dX12_writeChanges_6 : decode cX12_writeChanges 6 = .ok (.iload 5, 2) := by decide +kernel
theorem dX12_writeChanges_8 : decode cX12_writeChanges 8 = .ok (.iload_n 3, 1) := by decide +kernel
theorem dX12_writeChanges_9 : decode cX12_writeChanges 9 = .ok (.if_icmp .gt 181, 3) := by decide +kernel
theorem dX12_writeChanges_12 : decode cX12_writeChanges 12 = .ok (.iconst 1, 1) := by decide +kernel
theorem dX12_writeChanges_13 : decode cX12_writeChanges 13 = .ok (.istore 6, 2) := by decide +kernel
theorem dX12_writeChanges_15 : decode cX12_writeChanges 15 = .ok (.iload 6, 2) := by decide +kernel
theorem dX12_writeChanges_17 : decode cX12_writeChanges 17 = .ok (.aload_n 0, 1) := by decide +kernel
theorem dX12_writeChanges_18 : decode cX12_writeChanges 18 = .ok (.getfield 24, 3) := by decide +kernel
theorem dX12_writeChanges_21 : decode cX12_writeChanges 21 = .ok (.iload_n 1, 1) := by decide +kernel
theorem dX12_writeChanges_22 : decode cX12_writeChanges 22 = .ok (.bipush 71, 2) := by decide +kernel
theorem dX12_writeChanges_24 : decode cX12_writeChanges 24 = .ok (.imul, 1) := by decide +kernel
theorem dX12_writeChanges_25 : decode cX12_writeChanges 25 = .ok (.iload 5, 2) := by decide +kernel
theorem dX12_writeChanges_27 : decode cX12_writeChanges 27 = .ok (.iadd, 1) := by decide +kernel
theorem dX12_writeChanges_28 : decode cX12_writeChanges 28 = .ok (.iaload, 1) := by decide +kernel
theorem dX12_writeChanges_29 : decode cX12_writeChanges 29 = .ok (.if_icmp .gt 155, 3) := by decide +kernel
theorem dX12_writeChanges_32 : decode cX12_writeChanges 32 = .ok (.iload_n 1, 1) := by decide +kernel
theorem dX12_writeChanges_33 : decode cX12_writeChanges 33 = .ok (.iload 5, 2) := by decide +kernel
theorem dX12_writeChanges_35 : decode cX12_writeChanges 35 = .ok (.iload 6, 2) := by decide +kernel
theorem dX12_writeChanges_37 : decode cX12_writeChanges 37 = .ok (.invokestatic 27, 3) := by decide +kernel
theorem dX12_writeChanges_40 : decode cX12_writeChanges 40 = .ok (.istore 7, 2) := by decide +kernel
theorem dX12_writeChanges_42 : decode cX12_writeChanges 42 = .ok (.iconst 0, 1) := by decide +kernel
theorem dX12_writeChanges_43 : decode cX12_writeChanges 43 = .ok (.istore 8, 2) := by decide +kernel
theorem dX12_writeChanges_45 : decode cX12_writeChanges 45 = .ok (.iload 8, 2) := by decide +kernel
theorem dX12_writeChanges_47 : decode cX12_writeChanges 47 = .ok (.iconst 2, 1) := by decide +kernel
theorem dX12_writeChanges_48 : decode cX12_writeChanges 48 = .ok (.if_icmp .ge 130, 3) := by decide +kernel
theorem dX12_writeChanges_51 : decode cX12_writeChanges 51 = .ok (.iload 8, 2) := by decide +kernel
theorem dX12_writeChanges_53 : decode cX12_writeChanges 53 = .ok (.ifCond .ne 13, 3) := by decide +kernel
theorem dX12_writeChanges_56 : decode cX12_writeChanges 56 = .ok (.aload_n 0, 1) := by decide +kernel
theorem dX12_writeChanges_57 : decode cX12_writeChanges 57 = .ok (.getfield 31, 3) := by decide +kernel
theorem dX12_writeChanges_60 : decode cX12_writeChanges 60 = .ok (.iload 7, 2) := by decide +kernel
theorem dX12_writeChanges_62 : decode cX12_writeChanges 62 = .ok (.iaload, 1) := by decide +kernel
theorem dX12_writeChanges_63 : decode cX12_writeChanges 63 = .ok (.goto 10, 3) := by decide +kernel
theorem dX12_writeChanges_66 : decode cX12_writeChanges 66 = .ok (.aload_n 0, 1) := by decide +kernel
theorem dX12_writeChanges_67 : decode cX12_writeChanges 67 = .ok (.getfield 34, 3) := by decide +kernel
theorem dX12_writeChanges_70 : decode cX12_writeChanges 70 = .ok (.iload 7, 2) := by decide +kernel
theorem dX12_writeChanges_72 : decode cX12_writeChanges 72 = .ok (.iaload, 1) := by decide +kernel
theorem dX12_writeChanges_73 : decode cX12_writeChanges 73 = .ok (.ifCond .ne 6, 3) := by decide +kernel
theorem dX12_writeChanges_76 : decode cX12_writeChanges 76 = .ok (.goto 96, 3) := by decide +kernel
theorem dX12_writeChanges_79 : decode cX12_writeChanges 79 = .ok (.aload_n 0, 1) := by decide +kernel
theorem dX12_writeChanges_80 : decode cX12_writeChanges 80 = .ok (.iload 4, 2) := by decide +kernel
theorem dX12_writeChanges_82 : decode cX12_writeChanges 82 = .ok (.ifCond .eq 8, 3) := by decide +kernel
theorem dX12_writeChanges_85 : decode cX12_writeChanges 85 = .ok (.bipush 44, 2) := by decide +kernel
theorem dX12_writeChanges_87 : decode cX12_writeChanges 87 = .ok (.goto 5, 3) := by decide +kernel
theorem dX12_writeChanges_90 : decode cX12_writeChanges 90 = .ok (.bipush 40, 2) := by decide +kernel
theorem dX12_writeChanges_92 : decode cX12_writeChanges 92 = .ok (.invokevirtual 208, 3) := by decide +kernel
theorem dX12_writeChanges_95 : decode cX12_writeChanges 95 = .ok (.iconst 1, 1) := by decide +kernel
theorem dX12_writeChanges_96 : decode cX12_writeChanges 96 = .ok (.istore 4, 2) := by decide +kernel
theorem dX12_writeChanges_98 : decode cX12_writeChanges 98 = .ok (.iload 8, 2) := by decide +kernel
theorem dX12_writeChanges_100 : decode cX12_writeChanges 100 = .ok (.ifCond .ne 25, 3) := by decide +kernel
theorem dX12_writeChanges_103 : decode cX12_writeChanges 103 = .ok (.aload_n 0, 1) := by decide +kernel
theorem dX12_writeChanges_104 : decode cX12_writeChanges 104 = .ok (.aload_n 0, 1) := by decide +kernel
theorem dX12_writeChanges_105 : decode cX12_writeChanges 105 = .ok (.getfield 31, 3) := by decide +kernel
theorem dX12_writeChanges_108 : decode cX12_writeChanges 108 = .ok (.iload 7, 2) := by decide +kernel
theorem dX12_writeChanges_110 : decode cX12_writeChanges 110 = .ok (.iaload, 1) := by decide +kernel
theorem dX12_writeChanges_111 : decode cX12_writeChanges 111 = .ok (.iconst 1, 1) := by decide +kernel
theorem dX12_writeChanges_112 : decode cX12_writeChanges 112 = .ok (.if_icmp .ne 8, 3) := by decide +kernel
theorem dX12_writeChanges_115 : decode cX12_writeChanges 115 = .ok (.bipush 45, 2) := by decide +kernel
theorem dX12_writeChanges_117 : decode cX12_writeChanges 117 = .ok (.goto 5, 3) := by decide +kernel
theorem dX12_writeChanges_120 : decode cX12_writeChanges 120 = .ok (.bipush 61, 2) := by decide +kernel
theorem dX12_writeChanges_122 : decode cX12_writeChanges 122 = .ok (.invokevirtual 208, 3) := by decide +kernel
theorem dX12_writeChanges_125 : decode cX12_writeChanges 125 = .ok (.aload_n 0, 1) := by decide +kernel
theorem dX12_writeChanges_126 : decode cX12_writeChanges 126 = .ok (.aload_n 0, 1) := by decide +kernel
theorem dX12_writeChanges_127 : decode cX12_writeChanges 127 = .ok (.getfield 21, 3) := by decide +kernel
theorem dX12_writeChanges_130 : decode cX12_writeChanges 130 = .ok (.iload_n 1, 1) := by decide +kernel
theorem dX12_writeChanges_131 : decode cX12_writeChanges 131 = .ok (.bipush 71, 2) := by decide +kernel
theorem dX12_writeChanges_133 : decode cX12_writeChanges 133 = .ok (.imul, 1) := by decide +kernel
theorem dX12_writeChanges_134 : decode cX12_writeChanges 134 = .ok (.iload 5, 2) := by decide +kernel
theorem dX12_writeChanges_136 : decode cX12_writeChanges 136 = .ok (.iadd, 1) := by decide +kernel
theorem dX12_writeChanges_137 : decode cX12_writeChanges 137 = .ok (.iaload, 1) := by decide +kernel
theorem dX12_writeChanges_138 : decode cX12_writeChanges 138 = .ok (.invokevirtual 218, 3) := by decide +kernel
theorem dX12_writeChanges_141 : decode cX12_writeChanges 141 = .ok (.aload_n 0, 1) := by decide +kernel
theorem dX12_writeChanges_142 : decode cX12_writeChanges 142 = .ok (.iload 6, 2) := by decide +kernel
theorem dX12_writeChanges_144 : decode cX12_writeChanges 144 = .ok (.invokevirtual 221, 3) := by decide +kernel
theorem dX12_writeChanges_147 : decode cX12_writeChanges 147 = .ok (.iload 8, 2) := by decide +kernel
theorem dX12_writeChanges_149 : decode cX12_writeChanges 149 = .ok (.ifCond .ne 6, 3) := by decide +kernel
theorem dX12_writeChanges_152 : decode cX12_writeChanges 152 = .ok (.goto 20, 3) := by decide +kernel
theorem dX12_writeChanges_155 : decode cX12_writeChanges 155 = .ok (.aload_n 0, 1) := by decide +kernel
theorem dX12_writeChanges_156 : decode cX12_writeChanges 156 = .ok (.bipush 43, 2) := by decide +kernel
theorem dX12_writeChanges_158 : decode cX12_writeChanges 158 = .ok (.invokevirtual 208, 3) := by decide +kernel
theorem dX12_writeChanges_161 : decode cX12_writeChanges 161 = .ok (.aload_n 0, 1) := by decide +kernel
theorem dX12_writeChanges_162 : decode cX12_writeChanges 162 = .ok (.aload_n 0, 1) := by decide +kernel
theorem dX12_writeChanges_163 : decode cX12_writeChanges 163 = .ok (.getfield 34, 3) := by decide +kernel
theorem dX12_writeChanges_166 : decode cX12_writeChanges 166 = .ok (.iload 7, 2) := by decide +kernel
theorem dX12_writeChanges_168 : decode cX12_writeChanges 168 = .ok (.iaload, 1) := by decide +kernel
theorem dX12_writeChanges_169 : decode cX12_writeChanges 169 = .ok (.invokevirtual 221, 3) := by decide +kernel
theorem dX12_writeChanges_172 : decode cX12_writeChanges 172 = .ok (.iinc 8 1, 3) := by decide +kernel
theorem dX12_writeChanges_175 : decode cX12_writeChanges 175 = .ok (.goto (-130), 3) := by decide +kernel
theorem dX12_writeChanges_178 : decode cX12_writeChanges 178 = .ok (.iinc 6 1, 3) := by decide +kernel
theorem dX12_writeChanges_181 : decode cX12_writeChanges 181 = .ok (.goto (-166), 3) := by decide +kernel
theorem dX12_writeChanges_184 : decode cX12_writeChanges 184 = .ok (.iinc 5 1, 3) := by decide +kernel
theorem dX12_writeChanges_187 : decode cX12_writeChanges 187 = .ok (.goto (-181), 3) := by decide +kernel
theorem dX12_writeChanges_190 : decode cX12_writeChanges 190 = .ok (.iload 4, 2) := by decide +kernel
theorem dX12_writeChanges_192 : decode cX12_writeChanges 192 = .ok (.ifCond .eq 9, 3) := by decide +kernel
theorem dX12_writeChanges_195 : decode cX12_writeChanges 195 = .ok (.aload_n 0, 1) := by decide +kernel
theorem dX12_writeChanges_196 : decode cX12_writeChanges 196 = .ok (.bipush 41, 2) := by decide +kernel
theorem dX12_writeChanges_198 : decode cX12_writeChanges 198 = .ok (.invokevirtual 208, 3) := by decide +kernel
theorem dX12_writeChanges_201 : decode cX12_writeChanges 201 = .ok (.return_, 1) := by decide +kernel
def X12_writeChanges_172 (k6 : Nat → Int32 → Int32 → Int32 → Int32 → MM Unit) (k15 : Nat → Int32 → Int32 → Int32 → Int32 → Int32 → MM Unit) (k45 : Nat → Int32 → Int32 → Int32 → Int32 → Int32 → Int32 → Int32 → MM Unit) (this : Nat) (x1 : Int32) (x3 : Int32) (x4 : Int32) (x5 : Int32) (x6 : Int32) (x7 : Int32) (x8 : Int32) : MM Unit :=
  (k45 this x1 x3 x4 x5 x6 x7 (x8 + (1 : Int32)))
def X12_writeChanges_125 (k6 : Nat → Int32 → Int32 → Int32 → Int32 → MM Unit) (k15 : Nat → Int32 → Int32 → Int32 → Int32 → Int32 → MM Unit) (k45 : Nat → Int32 → Int32 → Int32 → Int32 → Int32 → Int32 → Int32 → MM Unit) (this : Nat) (x1 : Int32) (x3 : Int32) (x4 : Int32) (x5 : Int32) (x6 : Int32) (x7 : Int32) (x8 : Int32) : MM Unit :=
  mb (gR 13 (some this) 7) fun v1 =>
  mb (aI v1 ((x1 * (71 : Int32)) + x5)) fun v2 =>
  mb (wc 13 (some this) fun t => X12_writeSign t v2) fun _ =>
  mb (wc 13 (some this) fun t => X12_writeNumber t x6) fun _ =>
  if x8 = 0 then ((X12_writeChanges_172 k6 k15 k45 this x1 x3 x4 x5 x6 x7 x8)) else (mb (wc 13 (some this) fun t => X12_write t (43 : Int32)) fun _ =>
  mb (gR 13 (some this) 10) fun v3 =>
  mb (aI v3 x7) fun v4 =>
  mb (wc 13 (some this) fun t => X12_writeNumber t v4) fun _ =>
  (X12_writeChanges_172 k6 k15 k45 this x1 x3 x4 x5 x6 x7 x8))
def X12_writeChanges_122 (k6 : Nat → Int32 → Int32 → Int32 → Int32 → MM Unit) (k15 : Nat → Int32 → Int32 → Int32 → Int32 → Int32 → MM Unit) (k45 : Nat → Int32 → Int32 → Int32 → Int32 → Int32 → Int32 → Int32 → MM Unit) (this : Nat) (x1 : Int32) (x3 : Int32) (x4 : Int32) (x5 : Int32) (x6 : Int32) (x7 : Int32) (x8 : Int32) (y0 : Int32) : MM Unit :=
  mb (wc 13 (some this) fun t => X12_write t y0) fun _ =>
  (X12_writeChanges_125 k6 k15 k45 this x1 x3 x4 x5 x6 x7 x8)
def X12_writeChanges_92 (k6 : Nat → Int32 → Int32 → Int32 → Int32 → MM Unit) (k15 : Nat → Int32 → Int32 → Int32 → Int32 → Int32 → MM Unit) (k45 : Nat → Int32 → Int32 → Int32 → Int32 → Int32 → Int32 → Int32 → MM Unit) (this : Nat) (x1 : Int32) (x3 : Int32) (x5 : Int32) (x6 : Int32) (x7 : Int32) (x8 : Int32) (y0 : Int32) : MM Unit :=
  mb (wc 13 (some this) fun t => X12_write t y0) fun _ =>
  if x8 = 0 then (mb (gR 13 (some this) 9) fun v1 =>
  mb (aI v1 x7) fun v2 =>
  if v2 = (1 : Int32) then ((X12_writeChanges_122 k6 k15 k45 this x1 x3 (1 : Int32) x5 x6 x7 x8 (45 : Int32))) else ((X12_writeChanges_122 k6 k15 k45 this x1 x3 (1 : Int32) x5 x6 x7 x8 (61 : Int32)))) else ((X12_writeChanges_125 k6 k15 k45 this x1 x3 (1 : Int32) x5 x6 x7 x8))
def X12_writeChanges_73 (k6 : Nat → Int32 → Int32 → Int32 → Int32 → MM Unit) (k15 : Nat → Int32 → Int32 → Int32 → Int32 → Int32 → MM Unit) (k45 : Nat → Int32 → Int32 → Int32 → Int32 → Int32 → Int32 → Int32 → MM Unit) (this : Nat) (x1 : Int32) (x3 : Int32) (x4 : Int32) (x5 : Int32) (x6 : Int32) (x7 : Int32) (x8 : Int32) (y0 : Int32) : MM Unit :=
  if y0 = 0 then ((X12_writeChanges_172 k6 k15 k45 this x1 x3 x4 x5 x6 x7 x8)) else (if x4 = 0 then ((X12_writeChanges_92 k6 k15 k45 this x1 x3 x5 x6 x7 x8 (40 : Int32))) else ((X12_writeChanges_92 k6 k15 k45 this x1 x3 x5 x6 x7 x8 (44 : Int32))))
def X12_writeChanges_178 (k6 : Nat → Int32 → Int32 → Int32 → Int32 → MM Unit) (k15 : Nat → Int32 → Int32 → Int32 → Int32 → Int32 → MM Unit) (this : Nat) (x1 : Int32) (x3 : Int32) (x4 : Int32) (x5 : Int32) (x6 : Int32) : MM Unit :=
  (k15 this x1 x3 x4 x5 (x6 + (1 : Int32)))
def X12_writeChanges_45_st (k6 : Nat → Int32 → Int32 → Int32 → Int32 → MM Unit) (k15 : Nat → Int32 → Int32 → Int32 → Int32 → Int32 → MM Unit) (k45 : Nat → Int32 → Int32 → Int32 → Int32 → Int32 → Int32 → Int32 → MM Unit) (this : Nat) (x1 : Int32) (x3 : Int32) (x4 : Int32) (x5 : Int32) (x6 : Int32) (x7 : Int32) (x8 : Int32) : MM Unit :=
  if (2 : Int32) ≤ x8 then ((X12_writeChanges_178 k6 k15 this x1 x3 x4 x5 x6)) else (if x8 = 0 then (mb (gR 13 (some this) 9) fun v1 =>
  mb (aI v1 x7) fun v2 =>
  (X12_writeChanges_73 k6 k15 k45 this x1 x3 x4 x5 x6 x7 x8 v2)) else (mb (gR 13 (some this) 10) fun v3 =>
  mb (aI v3 x7) fun v4 =>
  (X12_writeChanges_73 k6 k15 k45 this x1 x3 x4 x5 x6 x7 x8 v4)))
def X12_writeChanges_45 (k6 : Nat → Int32 → Int32 → Int32 → Int32 → MM Unit) (k15 : Nat → Int32 → Int32 → Int32 → Int32 → Int32 → MM Unit) : Nat → Nat → Int32 → Int32 → Int32 → Int32 → Int32 → Int32 → Int32 → MM Unit
  | 0 => fun _ _ _ _ _ _ _ _ => mf
  | n + 1 => fun this x1 x3 x4 x5 x6 x7 x8 => X12_writeChanges_45_st k6 k15 (X12_writeChanges_45 k6 k15 n) this x1 x3 x4 x5 x6 x7 x8
def X12_writeChanges_184 (k6 : Nat → Int32 → Int32 → Int32 → Int32 → MM Unit) (this : Nat) (x1 : Int32) (x3 : Int32) (x4 : Int32) (x5 : Int32) : MM Unit :=
  (k6 this x1 x3 x4 (x5 + (1 : Int32)))
def X12_writeChanges_15_st (k6 : Nat → Int32 → Int32 → Int32 → Int32 → MM Unit) (k15 : Nat → Int32 → Int32 → Int32 → Int32 → Int32 → MM Unit) (this : Nat) (x1 : Int32) (x3 : Int32) (x4 : Int32) (x5 : Int32) (x6 : Int32) : MM Unit :=
  mb (gR 13 (some this) 8) fun v1 =>
  mb (aI v1 ((x1 * (71 : Int32)) + x5)) fun v2 =>
  if v2 < x6 then ((X12_writeChanges_184 k6 this x1 x3 x4 x5)) else (mb (X12_spot x1 x5 x6) fun v3 =>
  (X12_writeChanges_45 k6 k15 LFU this x1 x3 x4 x5 x6 v3 (0 : Int32)))
def X12_writeChanges_15 (k6 : Nat → Int32 → Int32 → Int32 → Int32 → MM Unit) : Nat → Nat → Int32 → Int32 → Int32 → Int32 → Int32 → MM Unit
  | 0 => fun _ _ _ _ _ _ => mf
  | n + 1 => fun this x1 x3 x4 x5 x6 => X12_writeChanges_15_st k6 (X12_writeChanges_15 k6 n) this x1 x3 x4 x5 x6
def X12_writeChanges_190  (this : Nat) (x4 : Int32) : MM Unit :=
  if x4 = 0 then (mr ()) else (mb (wc 13 (some this) fun t => X12_write t (41 : Int32)) fun _ =>
  mr ())
def X12_writeChanges_6_st  (k6 : Nat → Int32 → Int32 → Int32 → Int32 → MM Unit) (this : Nat) (x1 : Int32) (x3 : Int32) (x4 : Int32) (x5 : Int32) : MM Unit :=
  if x3 < x5 then ((X12_writeChanges_190 this x4)) else ((X12_writeChanges_15 k6 LFU this x1 x3 x4 x5 (1 : Int32)))
def X12_writeChanges_6  : Nat → Nat → Int32 → Int32 → Int32 → Int32 → MM Unit
  | 0 => fun _ _ _ _ _ => mf
  | n + 1 => fun this x1 x3 x4 x5 => X12_writeChanges_6_st  (X12_writeChanges_6  n) this x1 x3 x4 x5
def X12_writeChanges (this : Nat) (a1 : Int32) (a2 : Int32) (a3 : Int32) : MM Unit :=
  (X12_writeChanges_6 LFU this a1 a3 (0 : Int32) a2)
set_option maxRecDepth 100000 in
set_option maxHeartbeats 4000000 in
theorem s_X12_writeChanges_172 (G : GG) (k6 : Nat → Int32 → Int32 → Int32 → Int32 → MM Unit) (k15 : Nat → Int32 → Int32 → Int32 → Int32 → Int32 → MM Unit) (k45 : Nat → Int32 → Int32 → Int32 → Int32 → Int32 → Int32 → Int32 → MM Unit) (hk6 : ∀ (this : Nat) (x1 : Int32) (x3 : Int32) (x4 : Int32) (x5 : Int32), Sn G yX12_writeChanges cX12_writeChanges 9 none 6 129 (fun _ : Unit => none) (k6 this x1 x3 x4 x5) 6 [some (va_rf (some this)), some (.int x1), none, some (.int x3), some (.int x4), some (.int x5), none, none, none] []) (hk15 : ∀ (this : Nat) (x1 : Int32) (x3 : Int32) (x4 : Int32) (x5 : Int32) (x6 : Int32), Sn G yX12_writeChanges cX12_writeChanges 9 none 6 129 (fun _ : Unit => none) (k15 this x1 x3 x4 x5 x6) 15 [some (va_rf (some this)), some (.int x1), none, some (.int x3), some (.int x4), some (.int x5), some (.int x6), none, none] []) (hk45 : ∀ (this : Nat) (x1 : Int32) (x3 : Int32) (x4 : Int32) (x5 : Int32) (x6 : Int32) (x7 : Int32) (x8 : Int32), Sn G yX12_writeChanges cX12_writeChanges 9 none 6 129 (fun _ : Unit => none) (k45 this x1 x3 x4 x5 x6 x7 x8) 45 [some (va_rf (some this)), some (.int x1), none, some (.int x3), some (.int x4), some (.int x5), some (.int x6), some (.int x7), some (.int x8)] []) (this : Nat) (x1 : Int32) (x3 : Int32) (x4 : Int32) (x5 : Int32) (x6 : Int32) (x7 : Int32) (x8 : Int32) : Sn G yX12_writeChanges cX12_writeChanges 9 none 6 129 (fun _ : Unit => none) (X12_writeChanges_172 k6 k15 k45 this x1 x3 x4 x5 x6 x7 x8) 172 [some (va_rf (some this)), some (.int x1), none, some (.int x3), some (.int x4), some (.int x5), some (.int x6), some (.int x7), some (.int x8)] [] := by
  unfold X12_writeChanges_172
  refine sn_iinc (v := x8) (w := 1) (L' := [some (va_rf (some this)), some (.int x1), none, some (.int x3), some (.int x4), some (.int x5), some (.int x6), some (.int x7), some (.int (x8 + (1 : Int32)))]) (pc' := 175) dX12_writeChanges_172 rfl rfl rfl (by decide) rfl ?_
  refine sn_goto (pc' := 45) dX12_writeChanges_175 rfl ?_
  exact sn_weak (le_s (le_s (le_n (le_s (le_s (le_s (le_s (le_s (le_s le_e))))))))) (hk45 this x1 x3 x4 x5 x6 x7 (x8 + (1 : Int32)))
set_option maxRecDepth 100000 in
set_option maxHeartbeats 4000000 in
theorem s_X12_writeChanges_125 (G : GG) (k6 : Nat → Int32 → Int32 → Int32 → Int32 → MM Unit) (k15 : Nat → Int32 → Int32 → Int32 → Int32 → Int32 → MM Unit) (k45 : Nat → Int32 → Int32 → Int32 → Int32 → Int32 → Int32 → Int32 → MM Unit) (hk6 : ∀ (this : Nat) (x1 : Int32) (x3 : Int32) (x4 : Int32) (x5 : Int32), Sn G yX12_writeChanges cX12_writeChanges 9 none 6 129 (fun _ : Unit => none) (k6 this x1 x3 x4 x5) 6 [some (va_rf (some this)), some (.int x1), none, some (.int x3), some (.int x4), some (.int x5), none, none, none] []) (hk15 : ∀ (this : Nat) (x1 : Int32) (x3 : Int32) (x4 : Int32) (x5 : Int32) (x6 : Int32), Sn G yX12_writeChanges cX12_writeChanges 9 none 6 129 (fun _ : Unit => none) (k15 this x1 x3 x4 x5 x6) 15 [some (va_rf (some this)), some (.int x1), none, some (.int x3), some (.int x4), some (.int x5), some (.int x6), none, none] []) (hk45 : ∀ (this : Nat) (x1 : Int32) (x3 : Int32) (x4 : Int32) (x5 : Int32) (x6 : Int32) (x7 : Int32) (x8 : Int32), Sn G yX12_writeChanges cX12_writeChanges 9 none 6 129 (fun _ : Unit => none) (k45 this x1 x3 x4 x5 x6 x7 x8) 45 [some (va_rf (some this)), some (.int x1), none, some (.int x3), some (.int x4), some (.int x5), some (.int x6), some (.int x7), some (.int x8)] []) (this : Nat) (x1 : Int32) (x3 : Int32) (x4 : Int32) (x5 : Int32) (x6 : Int32) (x7 : Int32) (x8 : Int32) : Sn G yX12_writeChanges cX12_writeChanges 9 none 6 129 (fun _ : Unit => none) (X12_writeChanges_125 k6 k15 k45 this x1 x3 x4 x5 x6 x7 x8) 125 [some (va_rf (some this)), some (.int x1), none, some (.int x3), some (.int x4), some (.int x5), some (.int x6), some (.int x7), some (.int x8)] [] := by
  unfold X12_writeChanges_125
  refine sn_aload_n (v := (some this)) (pc' := 126) dX12_writeChanges_125 rfl rfl rfl ?_
  refine sn_aload_n (v := (some this)) (pc' := 127) dX12_writeChanges_126 rfl rfl rfl ?_
  refine sn_gR (k := 7) (pc' := 130) ci_13 rfl (Or.inl tw1285) dX12_writeChanges_127 rfl (fun v1 => ?_)
  refine sn_iload_n (v := x1) (pc' := 131) dX12_writeChanges_130 rfl rfl rfl ?_
  refine sn_bipush (v := (71 : Int32)) (pc' := 133) dX12_writeChanges_131 rfl (by decide) ?_
  refine sn_imul (pc' := 134) dX12_writeChanges_133 rfl ?_
  refine sn_iload (v := x5) (pc' := 136) dX12_writeChanges_134 rfl rfl ?_
  refine sn_iadd (pc' := 137) dX12_writeChanges_136 rfl ?_
  refine sn_aI (pc' := 138) dX12_writeChanges_137 rfl (fun v2 => ?_)
  refine sn_cV (r := (some this)) (st := []) (As := [.int v2]) (st2 := (fun _ => [])) (pc' := 141) ci_13 (fun t => c_X12_writeSign G t v2) cw_X12_writeSign rfl rfl tw1637 pw78 tw1639 rfl rfl cat_nil rfl (fun _ => rfl) dX12_writeChanges_138 rfl (fun _ => ?_)
  refine sn_aload_n (v := (some this)) (pc' := 142) dX12_writeChanges_141 rfl rfl rfl ?_
  refine sn_iload (v := x6) (pc' := 144) dX12_writeChanges_142 rfl rfl ?_
  refine sn_cV (r := (some this)) (st := []) (As := [.int x6]) (st2 := (fun _ => [])) (pc' := 147) ci_13 (fun t => c_X12_writeNumber G t x6) cw_X12_writeNumber rfl rfl tw1645 pw80 tw1647 rfl rfl cat_nil rfl (fun _ => rfl) dX12_writeChanges_144 rfl (fun _ => ?_)
  refine sn_iload (v := x8) (pc' := 149) dX12_writeChanges_147 rfl rfl ?_
  refine sn_if_ne (pt := 155) (pf := 152) dX12_writeChanges_149 rfl rfl ?_ ?_
  · refine sn_goto (pc' := 172) dX12_writeChanges_152 rfl ?_
    exact sn_weak (le_s (le_s (le_n (le_s (le_s (le_s (le_s (le_s (le_s le_e))))))))) (s_X12_writeChanges_172 G k6 k15 k45 hk6 hk15 hk45 this x1 x3 x4 x5 x6 x7 x8)
  · refine sn_aload_n (v := (some this)) (pc' := 156) dX12_writeChanges_155 rfl rfl rfl ?_
    refine sn_bipush (v := (43 : Int32)) (pc' := 158) dX12_writeChanges_156 rfl (by decide) ?_
    refine sn_cV (r := (some this)) (st := []) (As := [.int (43 : Int32)]) (st2 := (fun _ => [])) (pc' := 161) ci_13 (fun t => c_X12_write G t (43 : Int32)) cw_X12_write rfl rfl tw1633 pw77 tw1635 rfl rfl cat_nil rfl (fun _ => rfl) dX12_writeChanges_158 rfl (fun _ => ?_)
    refine sn_aload_n (v := (some this)) (pc' := 162) dX12_writeChanges_161 rfl rfl rfl ?_
    refine sn_aload_n (v := (some this)) (pc' := 163) dX12_writeChanges_162 rfl rfl rfl ?_
    refine sn_gR (k := 10) (pc' := 166) ci_13 rfl (Or.inl tw1288) dX12_writeChanges_163 rfl (fun v3 => ?_)
    refine sn_iload (v := x7) (pc' := 168) dX12_writeChanges_166 rfl rfl ?_
    refine sn_aI (pc' := 169) dX12_writeChanges_168 rfl (fun v4 => ?_)
    refine sn_cV (r := (some this)) (st := []) (As := [.int v4]) (st2 := (fun _ => [])) (pc' := 172) ci_13 (fun t => c_X12_writeNumber G t v4) cw_X12_writeNumber rfl rfl tw1645 pw80 tw1647 rfl rfl cat_nil rfl (fun _ => rfl) dX12_writeChanges_169 rfl (fun _ => ?_)
    exact sn_weak (le_s (le_s (le_n (le_s (le_s (le_s (le_s (le_s (le_s le_e))))))))) (s_X12_writeChanges_172 G k6 k15 k45 hk6 hk15 hk45 this x1 x3 x4 x5 x6 x7 x8)
set_option maxRecDepth 100000 in
set_option maxHeartbeats 4000000 in
theorem s_X12_writeChanges_122 (G : GG) (k6 : Nat → Int32 → Int32 → Int32 → Int32 → MM Unit) (k15 : Nat → Int32 → Int32 → Int32 → Int32 → Int32 → MM Unit) (k45 : Nat → Int32 → Int32 → Int32 → Int32 → Int32 → Int32 → Int32 → MM Unit) (hk6 : ∀ (this : Nat) (x1 : Int32) (x3 : Int32) (x4 : Int32) (x5 : Int32), Sn G yX12_writeChanges cX12_writeChanges 9 none 6 129 (fun _ : Unit => none) (k6 this x1 x3 x4 x5) 6 [some (va_rf (some this)), some (.int x1), none, some (.int x3), some (.int x4), some (.int x5), none, none, none] []) (hk15 : ∀ (this : Nat) (x1 : Int32) (x3 : Int32) (x4 : Int32) (x5 : Int32) (x6 : Int32), Sn G yX12_writeChanges cX12_writeChanges 9 none 6 129 (fun _ : Unit => none) (k15 this x1 x3 x4 x5 x6) 15 [some (va_rf (some this)), some (.int x1), none, some (.int x3), some (.int x4), some (.int x5), some (.int x6), none, none] []) (hk45 : ∀ (this : Nat) (x1 : Int32) (x3 : Int32) (x4 : Int32) (x5 : Int32) (x6 : Int32) (x7 : Int32) (x8 : Int32), Sn G yX12_writeChanges cX12_writeChanges 9 none 6 129 (fun _ : Unit => none) (k45 this x1 x3 x4 x5 x6 x7 x8) 45 [some (va_rf (some this)), some (.int x1), none, some (.int x3), some (.int x4), some (.int x5), some (.int x6), some (.int x7), some (.int x8)] []) (this : Nat) (x1 : Int32) (x3 : Int32) (x4 : Int32) (x5 : Int32) (x6 : Int32) (x7 : Int32) (x8 : Int32) (y0 : Int32) : Sn G yX12_writeChanges cX12_writeChanges 9 none 6 129 (fun _ : Unit => none) (X12_writeChanges_122 k6 k15 k45 this x1 x3 x4 x5 x6 x7 x8 y0) 122 [some (va_rf (some this)), some (.int x1), none, some (.int x3), some (.int x4), some (.int x5), some (.int x6), some (.int x7), some (.int x8)] [.int y0, va_rf (some this)] := by
  unfold X12_writeChanges_122
  refine sn_cV (r := (some this)) (st := []) (As := [.int y0]) (st2 := (fun _ => [])) (pc' := 125) ci_13 (fun t => c_X12_write G t y0) cw_X12_write rfl rfl tw1633 pw77 tw1635 rfl rfl cat_nil rfl (fun _ => rfl) dX12_writeChanges_122 rfl (fun _ => ?_)
  exact sn_weak (le_s (le_s (le_n (le_s (le_s (le_s (le_s (le_s (le_s le_e))))))))) (s_X12_writeChanges_125 G k6 k15 k45 hk6 hk15 hk45 this x1 x3 x4 x5 x6 x7 x8)
set_option maxRecDepth 100000 in
set_option maxHeartbeats 4000000 in
theorem s_X12_writeChanges_92 (G : GG) (k6 : Nat → Int32 → Int32 → Int32 → Int32 → MM Unit) (k15 : Nat → Int32 → Int32 → Int32 → Int32 → Int32 → MM Unit) (k45 : Nat → Int32 → Int32 → Int32 → Int32 → Int32 → Int32 → Int32 → MM Unit) (hk6 : ∀ (this : Nat) (x1 : Int32) (x3 : Int32) (x4 : Int32) (x5 : Int32), Sn G yX12_writeChanges cX12_writeChanges 9 none 6 129 (fun _ : Unit => none) (k6 this x1 x3 x4 x5) 6 [some (va_rf (some this)), some (.int x1), none, some (.int x3), some (.int x4), some (.int x5), none, none, none] []) (hk15 : ∀ (this : Nat) (x1 : Int32) (x3 : Int32) (x4 : Int32) (x5 : Int32) (x6 : Int32), Sn G yX12_writeChanges cX12_writeChanges 9 none 6 129 (fun _ : Unit => none) (k15 this x1 x3 x4 x5 x6) 15 [some (va_rf (some this)), some (.int x1), none, some (.int x3), some (.int x4), some (.int x5), some (.int x6), none, none] []) (hk45 : ∀ (this : Nat) (x1 : Int32) (x3 : Int32) (x4 : Int32) (x5 : Int32) (x6 : Int32) (x7 : Int32) (x8 : Int32), Sn G yX12_writeChanges cX12_writeChanges 9 none 6 129 (fun _ : Unit => none) (k45 this x1 x3 x4 x5 x6 x7 x8) 45 [some (va_rf (some this)), some (.int x1), none, some (.int x3), some (.int x4), some (.int x5), some (.int x6), some (.int x7), some (.int x8)] []) (this : Nat) (x1 : Int32) (x3 : Int32) (x5 : Int32) (x6 : Int32) (x7 : Int32) (x8 : Int32) (y0 : Int32) : Sn G yX12_writeChanges cX12_writeChanges 9 none 6 129 (fun _ : Unit => none) (X12_writeChanges_92 k6 k15 k45 this x1 x3 x5 x6 x7 x8 y0) 92 [some (va_rf (some this)), some (.int x1), none, some (.int x3), none, some (.int x5), some (.int x6), some (.int x7), some (.int x8)] [.int y0, va_rf (some this)] := by
  unfold X12_writeChanges_92
  refine sn_cV (r := (some this)) (st := []) (As := [.int y0]) (st2 := (fun _ => [])) (pc' := 95) ci_13 (fun t => c_X12_write G t y0) cw_X12_write rfl rfl tw1633 pw77 tw1635 rfl rfl cat_nil rfl (fun _ => rfl) dX12_writeChanges_92 rfl (fun _ => ?_)
  refine sn_iconst (v := (1 : Int32)) (pc' := 96) dX12_writeChanges_95 rfl (by decide) ?_
  refine sn_istore (v := (1 : Int32)) (L' := [some (va_rf (some this)), some (.int x1), none, some (.int x3), some (.int (1 : Int32)), some (.int x5), some (.int x6), some (.int x7), some (.int x8)]) (pc' := 98) dX12_writeChanges_96 rfl rfl rfl ?_
  refine sn_iload (v := x8) (pc' := 100) dX12_writeChanges_98 rfl rfl ?_
  refine sn_if_ne (pt := 125) (pf := 103) dX12_writeChanges_100 rfl rfl ?_ ?_
  · refine sn_aload_n (v := (some this)) (pc' := 104) dX12_writeChanges_103 rfl rfl rfl ?_
    refine sn_aload_n (v := (some this)) (pc' := 105) dX12_writeChanges_104 rfl rfl rfl ?_
    refine sn_gR (k := 9) (pc' := 108) ci_13 rfl (Or.inl tw1287) dX12_writeChanges_105 rfl (fun v1 => ?_)
    refine sn_iload (v := x7) (pc' := 110) dX12_writeChanges_108 rfl rfl ?_
    refine sn_aI (pc' := 111) dX12_writeChanges_110 rfl (fun v2 => ?_)
    refine sn_iconst (v := (1 : Int32)) (pc' := 112) dX12_writeChanges_111 rfl (by decide) ?_
    refine sn_ic_ne (pt := 120) (pf := 115) dX12_writeChanges_112 rfl rfl ?_ ?_
    · refine sn_bipush (v := (45 : Int32)) (pc' := 117) dX12_writeChanges_115 rfl (by decide) ?_
      refine sn_goto (pc' := 122) dX12_writeChanges_117 rfl ?_
      exact sn_weak (le_s (le_s (le_n (le_s (le_s (le_s (le_s (le_s (le_s le_e))))))))) (s_X12_writeChanges_122 G k6 k15 k45 hk6 hk15 hk45 this x1 x3 (1 : Int32) x5 x6 x7 x8 (45 : Int32))
    · refine sn_bipush (v := (61 : Int32)) (pc' := 122) dX12_writeChanges_120 rfl (by decide) ?_
      exact sn_weak (le_s (le_s (le_n (le_s (le_s (le_s (le_s (le_s (le_s le_e))))))))) (s_X12_writeChanges_122 G k6 k15 k45 hk6 hk15 hk45 this x1 x3 (1 : Int32) x5 x6 x7 x8 (61 : Int32))
  · exact sn_weak (le_s (le_s (le_n (le_s (le_s (le_s (le_s (le_s (le_s le_e))))))))) (s_X12_writeChanges_125 G k6 k15 k45 hk6 hk15 hk45 this x1 x3 (1 : Int32) x5 x6 x7 x8)
set_option maxRecDepth 100000 in
set_option maxHeartbeats 4000000 in
theorem s_X12_writeChanges_73 (G : GG) (k6 : Nat → Int32 → Int32 → Int32 → Int32 → MM Unit) (k15 : Nat → Int32 → Int32 → Int32 → Int32 → Int32 → MM Unit) (k45 : Nat → Int32 → Int32 → Int32 → Int32 → Int32 → Int32 → Int32 → MM Unit) (hk6 : ∀ (this : Nat) (x1 : Int32) (x3 : Int32) (x4 : Int32) (x5 : Int32), Sn G yX12_writeChanges cX12_writeChanges 9 none 6 129 (fun _ : Unit => none) (k6 this x1 x3 x4 x5) 6 [some (va_rf (some this)), some (.int x1), none, some (.int x3), some (.int x4), some (.int x5), none, none, none] []) (hk15 : ∀ (this : Nat) (x1 : Int32) (x3 : Int32) (x4 : Int32) (x5 : Int32) (x6 : Int32), Sn G yX12_writeChanges cX12_writeChanges 9 none 6 129 (fun _ : Unit => none) (k15 this x1 x3 x4 x5 x6) 15 [some (va_rf (some this)), some (.int x1), none, some (.int x3), some (.int x4), some (.int x5), some (.int x6), none, none] []) (hk45 : ∀ (this : Nat) (x1 : Int32) (x3 : Int32) (x4 : Int32) (x5 : Int32) (x6 : Int32) (x7 : Int32) (x8 : Int32), Sn G yX12_writeChanges cX12_writeChanges 9 none 6 129 (fun _ : Unit => none) (k45 this x1 x3 x4 x5 x6 x7 x8) 45 [some (va_rf (some this)), some (.int x1), none, some (.int x3), some (.int x4), some (.int x5), some (.int x6), some (.int x7), some (.int x8)] []) (this : Nat) (x1 : Int32) (x3 : Int32) (x4 : Int32) (x5 : Int32) (x6 : Int32) (x7 : Int32) (x8 : Int32) (y0 : Int32) : Sn G yX12_writeChanges cX12_writeChanges 9 none 6 129 (fun _ : Unit => none) (X12_writeChanges_73 k6 k15 k45 this x1 x3 x4 x5 x6 x7 x8 y0) 73 [some (va_rf (some this)), some (.int x1), none, some (.int x3), some (.int x4), some (.int x5), some (.int x6), some (.int x7), some (.int x8)] [.int y0] := by
  unfold X12_writeChanges_73
  refine sn_if_ne (pt := 79) (pf := 76) dX12_writeChanges_73 rfl rfl ?_ ?_
  · refine sn_goto (pc' := 172) dX12_writeChanges_76 rfl ?_
    exact sn_weak (le_s (le_s (le_n (le_s (le_s (le_s (le_s (le_s (le_s le_e))))))))) (s_X12_writeChanges_172 G k6 k15 k45 hk6 hk15 hk45 this x1 x3 x4 x5 x6 x7 x8)
  · refine sn_aload_n (v := (some this)) (pc' := 80) dX12_writeChanges_79 rfl rfl rfl ?_
    refine sn_iload (v := x4) (pc' := 82) dX12_writeChanges_80 rfl rfl ?_
    refine sn_if_eq (pt := 90) (pf := 85) dX12_writeChanges_82 rfl rfl ?_ ?_
    · refine sn_bipush (v := (40 : Int32)) (pc' := 92) dX12_writeChanges_90 rfl (by decide) ?_
      exact sn_weak (le_s (le_s (le_n (le_s (le_n (le_s (le_s (le_s (le_s le_e))))))))) (s_X12_writeChanges_92 G k6 k15 k45 hk6 hk15 hk45 this x1 x3 x5 x6 x7 x8 (40 : Int32))
    · refine sn_bipush (v := (44 : Int32)) (pc' := 87) dX12_writeChanges_85 rfl (by decide) ?_
      refine sn_goto (pc' := 92) dX12_writeChanges_87 rfl ?_
      exact sn_weak (le_s (le_s (le_n (le_s (le_n (le_s (le_s (le_s (le_s le_e))))))))) (s_X12_writeChanges_92 G k6 k15 k45 hk6 hk15 hk45 this x1 x3 x5 x6 x7 x8 (44 : Int32))
set_option maxRecDepth 100000 in
set_option maxHeartbeats 4000000 in
theorem s_X12_writeChanges_178 (G : GG) (k6 : Nat → Int32 → Int32 → Int32 → Int32 → MM Unit) (k15 : Nat → Int32 → Int32 → Int32 → Int32 → Int32 → MM Unit) (hk6 : ∀ (this : Nat) (x1 : Int32) (x3 : Int32) (x4 : Int32) (x5 : Int32), Sn G yX12_writeChanges cX12_writeChanges 9 none 6 129 (fun _ : Unit => none) (k6 this x1 x3 x4 x5) 6 [some (va_rf (some this)), some (.int x1), none, some (.int x3), some (.int x4), some (.int x5), none, none, none] []) (hk15 : ∀ (this : Nat) (x1 : Int32) (x3 : Int32) (x4 : Int32) (x5 : Int32) (x6 : Int32), Sn G yX12_writeChanges cX12_writeChanges 9 none 6 129 (fun _ : Unit => none) (k15 this x1 x3 x4 x5 x6) 15 [some (va_rf (some this)), some (.int x1), none, some (.int x3), some (.int x4), some (.int x5), some (.int x6), none, none] []) (this : Nat) (x1 : Int32) (x3 : Int32) (x4 : Int32) (x5 : Int32) (x6 : Int32) : Sn G yX12_writeChanges cX12_writeChanges 9 none 6 129 (fun _ : Unit => none) (X12_writeChanges_178 k6 k15 this x1 x3 x4 x5 x6) 178 [some (va_rf (some this)), some (.int x1), none, some (.int x3), some (.int x4), some (.int x5), some (.int x6), none, none] [] := by
  unfold X12_writeChanges_178
  refine sn_iinc (v := x6) (w := 1) (L' := [some (va_rf (some this)), some (.int x1), none, some (.int x3), some (.int x4), some (.int x5), some (.int (x6 + (1 : Int32))), none, none]) (pc' := 181) dX12_writeChanges_178 rfl rfl rfl (by decide) rfl ?_
  refine sn_goto (pc' := 15) dX12_writeChanges_181 rfl ?_
  exact sn_weak (le_s (le_s (le_n (le_s (le_s (le_s (le_s (le_n (le_n le_e))))))))) (hk15 this x1 x3 x4 x5 (x6 + (1 : Int32)))
set_option maxRecDepth 100000 in
set_option maxHeartbeats 4000000 in
theorem s_X12_writeChanges_45_st (G : GG) (k6 : Nat → Int32 → Int32 → Int32 → Int32 → MM Unit) (k15 : Nat → Int32 → Int32 → Int32 → Int32 → Int32 → MM Unit) (hk6 : ∀ (this : Nat) (x1 : Int32) (x3 : Int32) (x4 : Int32) (x5 : Int32), Sn G yX12_writeChanges cX12_writeChanges 9 none 6 129 (fun _ : Unit => none) (k6 this x1 x3 x4 x5) 6 [some (va_rf (some this)), some (.int x1), none, some (.int x3), some (.int x4), some (.int x5), none, none, none] []) (hk15 : ∀ (this : Nat) (x1 : Int32) (x3 : Int32) (x4 : Int32) (x5 : Int32) (x6 : Int32), Sn G yX12_writeChanges cX12_writeChanges 9 none 6 129 (fun _ : Unit => none) (k15 this x1 x3 x4 x5 x6) 15 [some (va_rf (some this)), some (.int x1), none, some (.int x3), some (.int x4), some (.int x5), some (.int x6), none, none] []) (k45 : Nat → Int32 → Int32 → Int32 → Int32 → Int32 → Int32 → Int32 → MM Unit) (hk45 : ∀ (this : Nat) (x1 : Int32) (x3 : Int32) (x4 : Int32) (x5 : Int32) (x6 : Int32) (x7 : Int32) (x8 : Int32), Sn G yX12_writeChanges cX12_writeChanges 9 none 6 129 (fun _ : Unit => none) (k45 this x1 x3 x4 x5 x6 x7 x8) 45 [some (va_rf (some this)), some (.int x1), none, some (.int x3), some (.int x4), some (.int x5), some (.int x6), some (.int x7), some (.int x8)] []) (this : Nat) (x1 : Int32) (x3 : Int32) (x4 : Int32) (x5 : Int32) (x6 : Int32) (x7 : Int32) (x8 : Int32) : Sn G yX12_writeChanges cX12_writeChanges 9 none 6 129 (fun _ : Unit => none) (X12_writeChanges_45_st k6 k15 k45 this x1 x3 x4 x5 x6 x7 x8) 45 [some (va_rf (some this)), some (.int x1), none, some (.int x3), some (.int x4), some (.int x5), some (.int x6), some (.int x7), some (.int x8)] [] := by
  unfold X12_writeChanges_45_st
  refine sn_iload (v := x8) (pc' := 47) dX12_writeChanges_45 rfl rfl ?_
  refine sn_iconst (v := (2 : Int32)) (pc' := 48) dX12_writeChanges_47 rfl (by decide) ?_
  refine sn_ic_ge (pt := 178) (pf := 51) dX12_writeChanges_48 rfl rfl ?_ ?_
  · exact sn_weak (le_s (le_s (le_n (le_s (le_s (le_s (le_s (le_n (le_n le_e))))))))) (s_X12_writeChanges_178 G k6 k15 hk6 hk15 this x1 x3 x4 x5 x6)
  · refine sn_iload (v := x8) (pc' := 53) dX12_writeChanges_51 rfl rfl ?_
    refine sn_if_ne (pt := 66) (pf := 56) dX12_writeChanges_53 rfl rfl ?_ ?_
    · refine sn_aload_n (v := (some this)) (pc' := 57) dX12_writeChanges_56 rfl rfl rfl ?_
      refine sn_gR (k := 9) (pc' := 60) ci_13 rfl (Or.inl tw1287) dX12_writeChanges_57 rfl (fun v1 => ?_)
      refine sn_iload (v := x7) (pc' := 62) dX12_writeChanges_60 rfl rfl ?_
      refine sn_aI (pc' := 63) dX12_writeChanges_62 rfl (fun v2 => ?_)
      refine sn_goto (pc' := 73) dX12_writeChanges_63 rfl ?_
      exact sn_weak (le_s (le_s (le_n (le_s (le_s (le_s (le_s (le_s (le_s le_e))))))))) (s_X12_writeChanges_73 G k6 k15 k45 hk6 hk15 hk45 this x1 x3 x4 x5 x6 x7 x8 v2)
    · refine sn_aload_n (v := (some this)) (pc' := 67) dX12_writeChanges_66 rfl rfl rfl ?_
      refine sn_gR (k := 10) (pc' := 70) ci_13 rfl (Or.inl tw1288) dX12_writeChanges_67 rfl (fun v3 => ?_)
      refine sn_iload (v := x7) (pc' := 72) dX12_writeChanges_70 rfl rfl ?_
      refine sn_aI (pc' := 73) dX12_writeChanges_72 rfl (fun v4 => ?_)
      exact sn_weak (le_s (le_s (le_n (le_s (le_s (le_s (le_s (le_s (le_s le_e))))))))) (s_X12_writeChanges_73 G k6 k15 k45 hk6 hk15 hk45 this x1 x3 x4 x5 x6 x7 x8 v4)
set_option maxRecDepth 100000 in
set_option maxHeartbeats 4000000 in
theorem s_X12_writeChanges_45 (G : GG) (k6 : Nat → Int32 → Int32 → Int32 → Int32 → MM Unit) (k15 : Nat → Int32 → Int32 → Int32 → Int32 → Int32 → MM Unit) (hk6 : ∀ (this : Nat) (x1 : Int32) (x3 : Int32) (x4 : Int32) (x5 : Int32), Sn G yX12_writeChanges cX12_writeChanges 9 none 6 129 (fun _ : Unit => none) (k6 this x1 x3 x4 x5) 6 [some (va_rf (some this)), some (.int x1), none, some (.int x3), some (.int x4), some (.int x5), none, none, none] []) (hk15 : ∀ (this : Nat) (x1 : Int32) (x3 : Int32) (x4 : Int32) (x5 : Int32) (x6 : Int32), Sn G yX12_writeChanges cX12_writeChanges 9 none 6 129 (fun _ : Unit => none) (k15 this x1 x3 x4 x5 x6) 15 [some (va_rf (some this)), some (.int x1), none, some (.int x3), some (.int x4), some (.int x5), some (.int x6), none, none] []) : ∀ (n : Nat) (this : Nat) (x1 : Int32) (x3 : Int32) (x4 : Int32) (x5 : Int32) (x6 : Int32) (x7 : Int32) (x8 : Int32), Sn G yX12_writeChanges cX12_writeChanges 9 none 6 129 (fun _ : Unit => none) (X12_writeChanges_45 k6 k15 n this x1 x3 x4 x5 x6 x7 x8) 45 [some (va_rf (some this)), some (.int x1), none, some (.int x3), some (.int x4), some (.int x5), some (.int x6), some (.int x7), some (.int x8)] [] := by
  intro n
  induction n with
  | zero => intro this x1 x3 x4 x5 x6 x7 x8; exact sn_mf
  | succ n ih => intro this x1 x3 x4 x5 x6 x7 x8; exact s_X12_writeChanges_45_st G k6 k15 hk6 hk15 (X12_writeChanges_45 k6 k15 n) ih this x1 x3 x4 x5 x6 x7 x8
set_option maxRecDepth 100000 in
set_option maxHeartbeats 4000000 in
theorem s_X12_writeChanges_184 (G : GG) (k6 : Nat → Int32 → Int32 → Int32 → Int32 → MM Unit) (hk6 : ∀ (this : Nat) (x1 : Int32) (x3 : Int32) (x4 : Int32) (x5 : Int32), Sn G yX12_writeChanges cX12_writeChanges 9 none 6 129 (fun _ : Unit => none) (k6 this x1 x3 x4 x5) 6 [some (va_rf (some this)), some (.int x1), none, some (.int x3), some (.int x4), some (.int x5), none, none, none] []) (this : Nat) (x1 : Int32) (x3 : Int32) (x4 : Int32) (x5 : Int32) : Sn G yX12_writeChanges cX12_writeChanges 9 none 6 129 (fun _ : Unit => none) (X12_writeChanges_184 k6 this x1 x3 x4 x5) 184 [some (va_rf (some this)), some (.int x1), none, some (.int x3), some (.int x4), some (.int x5), none, none, none] [] := by
  unfold X12_writeChanges_184
  refine sn_iinc (v := x5) (w := 1) (L' := [some (va_rf (some this)), some (.int x1), none, some (.int x3), some (.int x4), some (.int (x5 + (1 : Int32))), none, none, none]) (pc' := 187) dX12_writeChanges_184 rfl rfl rfl (by decide) rfl ?_
  refine sn_goto (pc' := 6) dX12_writeChanges_187 rfl ?_
  exact sn_weak (le_s (le_s (le_n (le_s (le_s (le_s (le_n (le_n (le_n le_e))))))))) (hk6 this x1 x3 x4 (x5 + (1 : Int32)))
set_option maxRecDepth 100000 in
set_option maxHeartbeats 4000000 in
theorem s_X12_writeChanges_15_st (G : GG) (k6 : Nat → Int32 → Int32 → Int32 → Int32 → MM Unit) (hk6 : ∀ (this : Nat) (x1 : Int32) (x3 : Int32) (x4 : Int32) (x5 : Int32), Sn G yX12_writeChanges cX12_writeChanges 9 none 6 129 (fun _ : Unit => none) (k6 this x1 x3 x4 x5) 6 [some (va_rf (some this)), some (.int x1), none, some (.int x3), some (.int x4), some (.int x5), none, none, none] []) (k15 : Nat → Int32 → Int32 → Int32 → Int32 → Int32 → MM Unit) (hk15 : ∀ (this : Nat) (x1 : Int32) (x3 : Int32) (x4 : Int32) (x5 : Int32) (x6 : Int32), Sn G yX12_writeChanges cX12_writeChanges 9 none 6 129 (fun _ : Unit => none) (k15 this x1 x3 x4 x5 x6) 15 [some (va_rf (some this)), some (.int x1), none, some (.int x3), some (.int x4), some (.int x5), some (.int x6), none, none] []) (this : Nat) (x1 : Int32) (x3 : Int32) (x4 : Int32) (x5 : Int32) (x6 : Int32) : Sn G yX12_writeChanges cX12_writeChanges 9 none 6 129 (fun _ : Unit => none) (X12_writeChanges_15_st k6 k15 this x1 x3 x4 x5 x6) 15 [some (va_rf (some this)), some (.int x1), none, some (.int x3), some (.int x4), some (.int x5), some (.int x6), none, none] [] := by
  unfold X12_writeChanges_15_st
  refine sn_iload (v := x6) (pc' := 17) dX12_writeChanges_15 rfl rfl ?_
  refine sn_aload_n (v := (some this)) (pc' := 18) dX12_writeChanges_17 rfl rfl rfl ?_
  refine sn_gR (k := 8) (pc' := 21) ci_13 rfl (Or.inl tw1286) dX12_writeChanges_18 rfl (fun v1 => ?_)
  refine sn_iload_n (v := x1) (pc' := 22) dX12_writeChanges_21 rfl rfl rfl ?_
  refine sn_bipush (v := (71 : Int32)) (pc' := 24) dX12_writeChanges_22 rfl (by decide) ?_
  refine sn_imul (pc' := 25) dX12_writeChanges_24 rfl ?_
  refine sn_iload (v := x5) (pc' := 27) dX12_writeChanges_25 rfl rfl ?_
  refine sn_iadd (pc' := 28) dX12_writeChanges_27 rfl ?_
  refine sn_aI (pc' := 29) dX12_writeChanges_28 rfl (fun v2 => ?_)
  refine sn_ic_gt (pt := 184) (pf := 32) dX12_writeChanges_29 rfl rfl ?_ ?_
  · exact sn_weak (le_s (le_s (le_n (le_s (le_s (le_s (le_n (le_n (le_n le_e))))))))) (s_X12_writeChanges_184 G k6 hk6 this x1 x3 x4 x5)
  · refine sn_iload_n (v := x1) (pc' := 33) dX12_writeChanges_32 rfl rfl rfl ?_
    refine sn_iload (v := x5) (pc' := 35) dX12_writeChanges_33 rfl rfl ?_
    refine sn_iload (v := x6) (pc' := 37) dX12_writeChanges_35 rfl rfl ?_
    refine sn_cS (st := []) (As := [.int x1, .int x5, .int x6]) (st2 := (fun v => .int v :: [])) (pc' := 40) (c_X12_spot G x1 x5 x6) cw_X12_spot rfl rfl tw1527 tw1528 rfl rfl cat_nil rfl (fun _ => rfl) dX12_writeChanges_37 rfl (fun v3 => ?_)
    refine sn_istore (v := v3) (L' := [some (va_rf (some this)), some (.int x1), none, some (.int x3), some (.int x4), some (.int x5), some (.int x6), some (.int v3), none]) (pc' := 42) dX12_writeChanges_40 rfl rfl rfl ?_
    refine sn_iconst (v := (0 : Int32)) (pc' := 43) dX12_writeChanges_42 rfl (by decide) ?_
    refine sn_istore (v := (0 : Int32)) (L' := [some (va_rf (some this)), some (.int x1), none, some (.int x3), some (.int x4), some (.int x5), some (.int x6), some (.int v3), some (.int (0 : Int32))]) (pc' := 45) dX12_writeChanges_43 rfl rfl rfl ?_
    exact sn_weak (le_s (le_s (le_n (le_s (le_s (le_s (le_s (le_s (le_s le_e))))))))) (s_X12_writeChanges_45 G k6 k15 hk6 hk15 LFU this x1 x3 x4 x5 x6 v3 (0 : Int32))
set_option maxRecDepth 100000 in
set_option maxHeartbeats 4000000 in
theorem s_X12_writeChanges_15 (G : GG) (k6 : Nat → Int32 → Int32 → Int32 → Int32 → MM Unit) (hk6 : ∀ (this : Nat) (x1 : Int32) (x3 : Int32) (x4 : Int32) (x5 : Int32), Sn G yX12_writeChanges cX12_writeChanges 9 none 6 129 (fun _ : Unit => none) (k6 this x1 x3 x4 x5) 6 [some (va_rf (some this)), some (.int x1), none, some (.int x3), some (.int x4), some (.int x5), none, none, none] []) : ∀ (n : Nat) (this : Nat) (x1 : Int32) (x3 : Int32) (x4 : Int32) (x5 : Int32) (x6 : Int32), Sn G yX12_writeChanges cX12_writeChanges 9 none 6 129 (fun _ : Unit => none) (X12_writeChanges_15 k6 n this x1 x3 x4 x5 x6) 15 [some (va_rf (some this)), some (.int x1), none, some (.int x3), some (.int x4), some (.int x5), some (.int x6), none, none] [] := by
  intro n
  induction n with
  | zero => intro this x1 x3 x4 x5 x6; exact sn_mf
  | succ n ih => intro this x1 x3 x4 x5 x6; exact s_X12_writeChanges_15_st G k6 hk6 (X12_writeChanges_15 k6 n) ih this x1 x3 x4 x5 x6
set_option maxRecDepth 100000 in
set_option maxHeartbeats 4000000 in
theorem s_X12_writeChanges_190 (G : GG)   (this : Nat) (x4 : Int32) : Sn G yX12_writeChanges cX12_writeChanges 9 none 6 129 (fun _ : Unit => none) (X12_writeChanges_190  this x4) 190 [some (va_rf (some this)), none, none, none, some (.int x4), none, none, none, none] [] := by
  unfold X12_writeChanges_190
  refine sn_iload (v := x4) (pc' := 192) dX12_writeChanges_190 rfl rfl ?_
  refine sn_if_eq (pt := 201) (pf := 195) dX12_writeChanges_192 rfl rfl ?_ ?_
  · exact sn_vret dX12_writeChanges_201 rfl
  · refine sn_aload_n (v := (some this)) (pc' := 196) dX12_writeChanges_195 rfl rfl rfl ?_
    refine sn_bipush (v := (41 : Int32)) (pc' := 198) dX12_writeChanges_196 rfl (by decide) ?_
    refine sn_cV (r := (some this)) (st := []) (As := [.int (41 : Int32)]) (st2 := (fun _ => [])) (pc' := 201) ci_13 (fun t => c_X12_write G t (41 : Int32)) cw_X12_write rfl rfl tw1633 pw77 tw1635 rfl rfl cat_nil rfl (fun _ => rfl) dX12_writeChanges_198 rfl (fun _ => ?_)
    exact sn_vret dX12_writeChanges_201 rfl
set_option maxRecDepth 100000 in
set_option maxHeartbeats 4000000 in
theorem s_X12_writeChanges_6_st (G : GG)   (k6 : Nat → Int32 → Int32 → Int32 → Int32 → MM Unit) (hk6 : ∀ (this : Nat) (x1 : Int32) (x3 : Int32) (x4 : Int32) (x5 : Int32), Sn G yX12_writeChanges cX12_writeChanges 9 none 6 129 (fun _ : Unit => none) (k6 this x1 x3 x4 x5) 6 [some (va_rf (some this)), some (.int x1), none, some (.int x3), some (.int x4), some (.int x5), none, none, none] []) (this : Nat) (x1 : Int32) (x3 : Int32) (x4 : Int32) (x5 : Int32) : Sn G yX12_writeChanges cX12_writeChanges 9 none 6 129 (fun _ : Unit => none) (X12_writeChanges_6_st  k6 this x1 x3 x4 x5) 6 [some (va_rf (some this)), some (.int x1), none, some (.int x3), some (.int x4), some (.int x5), none, none, none] [] := by
  unfold X12_writeChanges_6_st
  refine sn_iload (v := x5) (pc' := 8) dX12_writeChanges_6 rfl rfl ?_
  refine sn_iload_n (v := x3) (pc' := 9) dX12_writeChanges_8 rfl rfl rfl ?_
  refine sn_ic_gt (pt := 190) (pf := 12) dX12_writeChanges_9 rfl rfl ?_ ?_
  · exact sn_weak (le_s (le_n (le_n (le_n (le_s (le_n (le_n (le_n (le_n le_e))))))))) (s_X12_writeChanges_190 G this x4)
  · refine sn_iconst (v := (1 : Int32)) (pc' := 13) dX12_writeChanges_12 rfl (by decide) ?_
    refine sn_istore (v := (1 : Int32)) (L' := [some (va_rf (some this)), some (.int x1), none, some (.int x3), some (.int x4), some (.int x5), some (.int (1 : Int32)), none, none]) (pc' := 15) dX12_writeChanges_13 rfl rfl rfl ?_
    exact sn_weak (le_s (le_s (le_n (le_s (le_s (le_s (le_s (le_n (le_n le_e))))))))) (s_X12_writeChanges_15 G k6 hk6 LFU this x1 x3 x4 x5 (1 : Int32))
set_option maxRecDepth 100000 in
set_option maxHeartbeats 4000000 in
theorem s_X12_writeChanges_6 (G : GG)   : ∀ (n : Nat) (this : Nat) (x1 : Int32) (x3 : Int32) (x4 : Int32) (x5 : Int32), Sn G yX12_writeChanges cX12_writeChanges 9 none 6 129 (fun _ : Unit => none) (X12_writeChanges_6  n this x1 x3 x4 x5) 6 [some (va_rf (some this)), some (.int x1), none, some (.int x3), some (.int x4), some (.int x5), none, none, none] [] := by
  intro n
  induction n with
  | zero => intro this x1 x3 x4 x5; exact sn_mf
  | succ n ih => intro this x1 x3 x4 x5; exact s_X12_writeChanges_6_st G   (X12_writeChanges_6  n) ih this x1 x3 x4 x5
set_option maxRecDepth 100000 in
set_option maxHeartbeats 4000000 in
theorem s_X12_writeChanges (G : GG) (this : Nat) (a1 : Int32) (a2 : Int32) (a3 : Int32) : Sn G yX12_writeChanges cX12_writeChanges 9 none 6 129 (fun _ : Unit => none) (X12_writeChanges this a1 a2 a3) 0 [some (va_rf (some this)), some (.int a1), some (.int a2), some (.int a3), none, none, none, none, none] [] := by
  unfold X12_writeChanges
  refine sn_iconst (v := (0 : Int32)) (pc' := 1) dX12_writeChanges_0 rfl (by decide) ?_
  refine sn_istore (v := (0 : Int32)) (L' := [some (va_rf (some this)), some (.int a1), some (.int a2), some (.int a3), some (.int (0 : Int32)), none, none, none, none]) (pc' := 3) dX12_writeChanges_1 rfl rfl rfl ?_
  refine sn_iload_n (v := a2) (pc' := 4) dX12_writeChanges_3 rfl rfl rfl ?_
  refine sn_istore (v := a2) (L' := [some (va_rf (some this)), some (.int a1), some (.int a2), some (.int a3), some (.int (0 : Int32)), some (.int a2), none, none, none]) (pc' := 6) dX12_writeChanges_4 rfl rfl rfl ?_
  exact sn_weak (le_s (le_s (le_n (le_s (le_s (le_s (le_n (le_n (le_n le_e))))))))) (s_X12_writeChanges_6 G LFU this a1 a3 (0 : Int32) a2)
theorem c_X12_writeChanges (G : GG) (this : Nat) (a1 : Int32) (a2 : Int32) (a3 : Int32) : Cal G yX12_writeChanges cX12_writeChanges 9 none 6 129 (fun _ : Unit => none) (X12_writeChanges this a1 a2 a3) [.ref this, .int a1, .int a2, .int a3] :=
  Cal.of (by decide) (cat_t (cat_i (cat_i (cat_i cat_nil)))) rfl (sn_weak (le_s (le_s (le_s (le_s (le_z (le_z (le_z (le_z (le_z le_e))))))))) (s_X12_writeChanges G this a1 a2 a3))
theorem cw_X12_writeChanges : CW yX12_writeChanges cX12_writeChanges 9 none 3 := ⟨tw1652, tw15, by decide, by decide +kernel⟩
