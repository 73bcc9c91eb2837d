theorem tw1276 : (Jvm.Cond.code ({ cls := "LeafFormulaModel", name := "<init>", desc := "()V" } : Jvm.MethodName) prog_14_method_52_code (1 : Nat) (Option.none : Option Jvm.ClassFile.FieldType)) ∈ gtbl := gt_of 1369 (by decide +kernel) (by decide +kernel)
theorem tw1277 : (Jvm.Cond.methodLink "LeafFormulaModel" (291 : Nat) ({ cls := "java/lang/Object", name := "<init>", desc := "()V" } : Jvm.MethodName)) ∈ gtbl := gt_of 1370 (by decide +kernel) (by decide +kernel)
theorem tw1294 : (Jvm.Cond.fieldLink "LeafFormulaModel" (236 : Nat) "LeafFormulaModel" "bookOf" "[I") ∈ gtbl := gt_of 1387 (by decide +kernel) (by decide +kernel)
theorem tw1295 : (Jvm.Cond.fieldLink "LeafFormulaModel" (242 : Nat) "LeafFormulaModel" "entries" "[I") ∈ gtbl := gt_of 1388 (by decide +kernel) (by decide +kernel)
theorem tw1296 : (Jvm.Cond.fieldLink "LeafFormulaModel" (245 : Nat) "LeafFormulaModel" "entry" "[I") ∈ gtbl := gt_of 1389 (by decide +kernel) (by decide +kernel)
theorem tw1316 : (Jvm.Cond.fieldLink "LeafFormulaModel" (296 : Nat) "LeafFormulaModel" "ahead" "[I") ∈ gtbl := gt_of 1409 (by decide +kernel) (by decide +kernel)
theorem tw1317 : (Jvm.Cond.fieldLink "LeafFormulaModel" (239 : Nat) "LeafFormulaModel" "times" "[I") ∈ gtbl := gt_of 1410 (by decide +kernel) (by decide +kernel)
theorem tw1318 : (Jvm.Cond.fieldLink "LeafFormulaModel" (248 : Nat) "LeafFormulaModel" "reach" "[I") ∈ gtbl := gt_of 1411 (by decide +kernel) (by decide +kernel)
theorem tw1319 : (Jvm.Cond.fieldLink "LeafFormulaModel" (254 : Nat) "LeafFormulaModel" "isRest" "[Z") ∈ gtbl := gt_of 1412 (by decide +kernel) (by decide +kernel)
theorem tw1323 : (Jvm.Cond.fieldLink "LeafFormulaModel" (299 : Nat) "LeafFormulaModel" "itemFrom" "[I") ∈ gtbl := gt_of 1416 (by decide +kernel) (by decide +kernel)
theorem tw1324 : (Jvm.Cond.fieldLink "LeafFormulaModel" (302 : Nat) "LeafFormulaModel" "itemTo" "[I") ∈ gtbl := gt_of 1417 (by decide +kernel) (by decide +kernel)
theorem tw1325 : (Jvm.Cond.fieldLink "LeafFormulaModel" (305 : Nat) "LeafFormulaModel" "hasOne" "[Z") ∈ gtbl := gt_of 1418 (by decide +kernel) (by decide +kernel)
theorem tw1326 : (Jvm.Cond.fieldLink "LeafFormulaModel" (308 : Nat) "LeafFormulaModel" "hasOther" "[Z") ∈ gtbl := gt_of 1419 (by decide +kernel) (by decide +kernel)
theorem tw1426 : (Jvm.Cond.arrayClass Jvm.ClassFile.FieldType.boolean) ∈ gtbl := gt_of 1519 (by decide +kernel) (by decide +kernel)
theorem tw1618 : (Jvm.Cond.methodLink "LeafFormulaModel" (257 : Nat) ({ cls := "LeafFormulaModel", name := "conjugate", desc := "(II)I" } : Jvm.MethodName)) ∈ gtbl := gt_of 1711 (by decide +kernel) (by decide +kernel)
theorem tw1620 : (Jvm.Cond.instanceMethod ({ cls := "LeafFormulaModel", name := "conjugate", desc := "(II)I" } : Jvm.MethodName)) ∈ gtbl := gt_of 1713 (by decide +kernel) (by decide +kernel)
theorem tw1629 : (Jvm.Cond.code ({ cls := "LeafFormulaModel", name := "writeBook", desc := "(I)V" } : Jvm.MethodName) prog_14_method_38_code (5 : Nat) (Option.none : Option Jvm.ClassFile.FieldType)) ∈ gtbl := gt_of 1722 (by decide +kernel) (by decide +kernel)
theorem tw1630 : (Jvm.Cond.methodLink "LeafFormulaModel" (215 : Nat) ({ cls := "LeafFormulaModel", name := "isLetters", desc := "(I)Z" } : Jvm.MethodName)) ∈ gtbl := gt_of 1723 (by decide +kernel) (by decide +kernel)
theorem tw1631 : (Jvm.Cond.static ({ cls := "LeafFormulaModel", name := "isLetters", desc := "(I)Z" } : Jvm.MethodName)) ∈ gtbl := gt_of 1724 (by decide +kernel) (by decide +kernel)
theorem tw1649 : (Jvm.Cond.methodLink "LeafFormulaModel" (224 : Nat) ({ cls := "LeafFormulaModel", name := "writeChanges", desc := "(III)V" } : Jvm.MethodName)) ∈ gtbl := gt_of 1742 (by decide +kernel) (by decide +kernel)
theorem tw1651 : (Jvm.Cond.instanceMethod ({ cls := "LeafFormulaModel", name := "writeChanges", desc := "(III)V" } : Jvm.MethodName)) ∈ gtbl := gt_of 1744 (by decide +kernel) (by decide +kernel)
theorem tw1656 : (Jvm.Cond.code ({ cls := "LeafFormulaModel", name := "tell", desc := "(I)I" } : Jvm.MethodName) prog_14_method_41_code (2 : Nat) (Option.some Jvm.ClassFile.FieldType.int)) ∈ gtbl := gt_of 1749 (by decide +kernel) (by decide +kernel)
theorem tw1661 : (Jvm.Cond.methodLink "LeafFormulaModel" (265 : Nat) ({ cls := "LeafFormulaModel", name := "writeName", desc := "(II)V" } : Jvm.MethodName)) ∈ gtbl := gt_of 1754 (by decide +kernel) (by decide +kernel)
theorem tw1663 : (Jvm.Cond.instanceMethod ({ cls := "LeafFormulaModel", name := "writeName", desc := "(II)V" } : Jvm.MethodName)) ∈ gtbl := gt_of 1756 (by decide +kernel) (by decide +kernel)
theorem tw1664 : (Jvm.Cond.code ({ cls := "LeafFormulaModel", name := "writeName", desc := "(II)V" } : Jvm.MethodName) prog_14_method_40_code (4 : Nat) (Option.none : Option Jvm.ClassFile.FieldType)) ∈ gtbl := gt_of 1757 (by decide +kernel) (by decide +kernel)
theorem tw1675 : (Jvm.Cond.code ({ cls := "LeafFormulaModel", name := "isFormat", desc := "(I)Z" } : Jvm.MethodName) prog_14_method_42_code (1 : Nat) (Option.some Jvm.ClassFile.FieldType.boolean)) ∈ gtbl := gt_of 1768 (by decide +kernel) (by decide +kernel)
theorem tw1678 : (Jvm.Cond.code ({ cls := "LeafFormulaModel", name := "sheetsOf", desc := "(II)I" } : Jvm.MethodName) prog_14_method_44_code (2 : Nat) (Option.some Jvm.ClassFile.FieldType.int)) ∈ gtbl := gt_of 1771 (by decide +kernel) (by decide +kernel)
theorem tw1679 : (Jvm.Cond.methodLink "LeafFormulaModel" (233 : Nat) ({ cls := "LeafFormulaModel", name := "sheetOf", desc := "(III)I" } : Jvm.MethodName)) ∈ gtbl := gt_of 1772 (by decide +kernel) (by decide +kernel)
theorem tw1680 : (Jvm.Cond.static ({ cls := "LeafFormulaModel", name := "sheetOf", desc := "(III)I" } : Jvm.MethodName)) ∈ gtbl := gt_of 1773 (by decide +kernel) (by decide +kernel)
theorem tw1681 : (Jvm.Cond.code ({ cls := "LeafFormulaModel", name := "sheetOf", desc := "(III)I" } : Jvm.MethodName) prog_14_method_43_code (3 : Nat) (Option.some Jvm.ClassFile.FieldType.int)) ∈ gtbl := gt_of 1774 (by decide +kernel) (by decide +kernel)
theorem tw1682 : (Jvm.Cond.methodLink "LeafFormulaModel" (228 : Nat) ({ cls := "java/lang/Math", name := "min", desc := "(II)I" } : Jvm.MethodName)) ∈ gtbl := gt_of 1775 (by decide +kernel) (by decide +kernel)
theorem tw1689 : (Jvm.Cond.code ({ cls := "LeafFormulaModel", name := "numberOn", desc := "(III)I" } : Jvm.MethodName) prog_14_method_45_code (5 : Nat) (Option.some Jvm.ClassFile.FieldType.int)) ∈ gtbl := gt_of 1782 (by decide +kernel) (by decide +kernel)
theorem tw1702 : (Jvm.Cond.methodLink "LeafFormulaModel" (272 : Nat) ({ cls := "LeafFormulaModel", name := "look", desc := "(I)V" } : Jvm.MethodName)) ∈ gtbl := gt_of 1795 (by decide +kernel) (by decide +kernel)
theorem tw1704 : (Jvm.Cond.instanceMethod ({ cls := "LeafFormulaModel", name := "look", desc := "(I)V" } : Jvm.MethodName)) ∈ gtbl := gt_of 1797 (by decide +kernel) (by decide +kernel)
theorem tw1705 : (Jvm.Cond.code ({ cls := "LeafFormulaModel", name := "look", desc := "(I)V" } : Jvm.MethodName) prog_14_method_46_code (7 : Nat) (Option.none : Option Jvm.ClassFile.FieldType)) ∈ gtbl := gt_of 1798 (by decide +kernel) (by decide +kernel)
theorem tw1706 : (Jvm.Cond.methodLink "LeafFormulaModel" (251 : Nat) ({ cls := "java/lang/Math", name := "max", desc := "(II)I" } : Jvm.MethodName)) ∈ gtbl := gt_of 1799 (by decide +kernel) (by decide +kernel)
theorem tw1707 : (Jvm.Cond.methodLink "LeafFormulaModel" (275 : Nat) ({ cls := "LeafFormulaModel", name := "countTold", desc := "(II)I" } : Jvm.MethodName)) ∈ gtbl := gt_of 1800 (by decide +kernel) (by decide +kernel)
theorem tw1709 : (Jvm.Cond.instanceMethod ({ cls := "LeafFormulaModel", name := "countTold", desc := "(II)I" } : Jvm.MethodName)) ∈ gtbl := gt_of 1802 (by decide +kernel) (by decide +kernel)
theorem tw1710 : (Jvm.Cond.code ({ cls := "LeafFormulaModel", name := "countTold", desc := "(II)I" } : Jvm.MethodName) prog_14_method_50_code (5 : Nat) (Option.some Jvm.ClassFile.FieldType.int)) ∈ gtbl := gt_of 1803 (by decide +kernel) (by decide +kernel)
theorem tw1711 : (Jvm.Cond.methodLink "LeafFormulaModel" (269 : Nat) ({ cls := "LeafFormulaModel", name := "many", desc := "(II)I" } : Jvm.MethodName)) ∈ gtbl := gt_of 1804 (by decide +kernel) (by decide +kernel)
theorem tw1713 : (Jvm.Cond.instanceMethod ({ cls := "LeafFormulaModel", name := "many", desc := "(II)I" } : Jvm.MethodName)) ∈ gtbl := gt_of 1806 (by decide +kernel) (by decide +kernel)
theorem tw1714 : (Jvm.Cond.code ({ cls := "LeafFormulaModel", name := "many", desc := "(II)I" } : Jvm.MethodName) prog_14_method_48_code (3 : Nat) (Option.some Jvm.ClassFile.FieldType.int)) ∈ gtbl := gt_of 1807 (by decide +kernel) (by decide +kernel)
theorem tw1715 : (Jvm.Cond.methodLink "LeafFormulaModel" (260 : Nat) ({ cls := "LeafFormulaModel", name := "isTold", desc := "(III)Z" } : Jvm.MethodName)) ∈ gtbl := gt_of 1808 (by decide +kernel) (by decide +kernel)
theorem tw1717 : (Jvm.Cond.instanceMethod ({ cls := "LeafFormulaModel", name := "isTold", desc := "(III)Z" } : Jvm.MethodName)) ∈ gtbl := gt_of 1810 (by decide +kernel) (by decide +kernel)
theorem tw1718 : (Jvm.Cond.code ({ cls := "LeafFormulaModel", name := "isTold", desc := "(III)Z" } : Jvm.MethodName) prog_14_method_47_code (6 : Nat) (Option.some Jvm.ClassFile.FieldType.boolean)) ∈ gtbl := gt_of 1811 (by decide +kernel) (by decide +kernel)
theorem tw1734 : (Jvm.Cond.code ({ cls := "LeafFormulaModel", name := "writeNote", desc := "(I)V" } : Jvm.MethodName) prog_14_method_51_code (4 : Nat) (Option.none : Option Jvm.ClassFile.FieldType)) ∈ gtbl := gt_of 1827 (by decide +kernel) (by decide +kernel)
theorem tw1736 : (Jvm.Cond.methodLink "LeafFormulaModel" (280 : Nat) ({ cls := "LeafFormulaModel", name := "writeRuns", desc := "(II)V" } : Jvm.MethodName)) ∈ gtbl := gt_of 1829 (by decide +kernel) (by decide +kernel)
theorem tw1738 : (Jvm.Cond.instanceMethod ({ cls := "LeafFormulaModel", name := "writeRuns", desc := "(II)V" } : Jvm.MethodName)) ∈ gtbl := gt_of 1831 (by decide +kernel) (by decide +kernel)
theorem tw1739 : (Jvm.Cond.code ({ cls := "LeafFormulaModel", name := "writeRuns", desc := "(II)V" } : Jvm.MethodName) prog_14_method_49_code (7 : Nat) (Option.none : Option Jvm.ClassFile.FieldType)) ∈ gtbl := gt_of 1832 (by decide +kernel) (by decide +kernel)
theorem pw75 : Cond.selects "LeafFormulaModel" ⟨"LeafFormulaModel", "conjugate", "(II)I"⟩ ⟨"LeafFormulaModel", "conjugate", "(II)I"⟩ ∈ gtbl := gt_of 75 (by decide +kernel) (by decide +kernel)
theorem pw81 : Cond.selects "LeafFormulaModel" ⟨"LeafFormulaModel", "writeChanges", "(III)V"⟩ ⟨"LeafFormulaModel", "writeChanges", "(III)V"⟩ ∈ gtbl := gt_of 81 (by decide +kernel) (by decide +kernel)
theorem pw83 : Cond.selects "LeafFormulaModel" ⟨"LeafFormulaModel", "writeName", "(II)V"⟩ ⟨"LeafFormulaModel", "writeName", "(II)V"⟩ ∈ gtbl := gt_of 83 (by decide +kernel) (by decide +kernel)
theorem pw85 : Cond.selects "LeafFormulaModel" ⟨"LeafFormulaModel", "look", "(I)V"⟩ ⟨"LeafFormulaModel", "look", "(I)V"⟩ ∈ gtbl := gt_of 85 (by decide +kernel) (by decide +kernel)
theorem pw86 : Cond.selects "LeafFormulaModel" ⟨"LeafFormulaModel", "countTold", "(II)I"⟩ ⟨"LeafFormulaModel", "countTold", "(II)I"⟩ ∈ gtbl := gt_of 86 (by decide +kernel) (by decide +kernel)
theorem pw87 : Cond.selects "LeafFormulaModel" ⟨"LeafFormulaModel", "many", "(II)I"⟩ ⟨"LeafFormulaModel", "many", "(II)I"⟩ ∈ gtbl := gt_of 87 (by decide +kernel) (by decide +kernel)
theorem pw88 : Cond.selects "LeafFormulaModel" ⟨"LeafFormulaModel", "isTold", "(III)Z"⟩ ⟨"LeafFormulaModel", "isTold", "(III)Z"⟩ ∈ gtbl := gt_of 88 (by decide +kernel) (by decide +kernel)
theorem pw90 : Cond.selects "LeafFormulaModel" ⟨"LeafFormulaModel", "writeRuns", "(II)V"⟩ ⟨"LeafFormulaModel", "writeRuns", "(II)V"⟩ ∈ gtbl := gt_of 90 (by decide +kernel) (by decide +kernel)
/-! X12_writeBook -/
theorem dX12_writeBook_0 : decode cX12_writeBook 0 = .ok (.aload_n 0, 1) := by decide +kernel
theorem dX12_writeBook_1 : decode cX12_writeBook 1 = .ok (.iconst 0, 1) := by decide +kernel
theorem dX12_writeBook_2 : decode cX12_writeBook 2 = .ok (.putfield 205, 3) := by decide +kernel
theorem dX12_writeBook_5 : decode cX12_writeBook 5 = .ok (.iconst 0, 1) := by decide +kernel
theorem dX12_writeBook_6 : decode cX12_writeBook 6 = .ok (.istore_n 2, 1) := by decide +kernel
theorem dX12_writeBook_7 : decode cX12_writeBook 7 = .ok (.iload_n 2, 1) := by decide +kernel
theorem dX12_writeBook_8 : decode cX12_writeBook 8 = .ok (.aload_n 0, 1) := by decide +kernel
theorem dX12_writeBook_9 : decode cX12_writeBook 9 = .ok (.getfield 17, 3) := by decide +kernel
theorem dX12_writeBook_12 : decode cX12_writeBook 12 = .ok (.iload_n 1, 1) := by decide +kernel
theorem dX12_writeBook_13 : decode cX12_writeBook 13 = .ok (.iaload, 1) := by decide +kernel
theorem dX12_writeBook_14 : decode cX12_writeBook 14 = .ok (.if_icmp .ge 183, 3) := by decide +kernel
theorem dX12_writeBook_17 : decode cX12_writeBook 17 = .ok (.iload_n 1, 1) := by decide +kernel
theorem dX12_writeBook_18 : decode cX12_writeBook 18 = .ok (.bipush 71, 2) := by decide +kernel
theorem dX12_writeBook_20 : decode cX12_writeBook 20 = .ok (.imul, 1) := by decide +kernel
theorem dX12_writeBook_21 : decode cX12_writeBook 21 = .ok (.istore_n 3, 1) := by decide +kernel
theorem dX12_writeBook_22 : decode cX12_writeBook 22 = .ok (.iload_n 2, 1) := by decide +kernel
theorem dX12_writeBook_23 : decode cX12_writeBook 23 = .ok (.istore 4, 2) := by decide +kernel
theorem dX12_writeBook_25 : decode cX12_writeBook 25 = .ok (.iload 4, 2) := by decide +kernel
theorem dX12_writeBook_27 : decode cX12_writeBook 27 = .ok (.iconst 1, 1) := by decide +kernel
theorem dX12_writeBook_28 : decode cX12_writeBook 28 = .ok (.iadd, 1) := by decide +kernel
theorem dX12_writeBook_29 : decode cX12_writeBook 29 = .ok (.aload_n 0, 1) := by decide +kernel
theorem dX12_writeBook_30 : decode cX12_writeBook 30 = .ok (.getfield 17, 3) := by decide +kernel
theorem dX12_writeBook_33 : decode cX12_writeBook 33 = .ok (.iload_n 1, 1) := by decide +kernel
theorem dX12_writeBook_34 : decode cX12_writeBook 34 = .ok (.iaload, 1) := by decide +kernel
theorem dX12_writeBook_35 : decode cX12_writeBook 35 = .ok (.if_icmp .ge 87, 3) := by decide +kernel
theorem dX12_writeBook_38 : decode cX12_writeBook 38 = .ok (.aload_n 0, 1) := by decide +kernel
theorem dX12_writeBook_39 : decode cX12_writeBook 39 = .ok (.getfield 21, 3) := by decide +kernel
theorem dX12_writeBook_42 : decode cX12_writeBook 42 = .ok (.iload_n 3, 1) := by decide +kernel
theorem dX12_writeBook_43 : decode cX12_writeBook 43 = .ok (.iload_n 2, 1) := by decide +kernel
theorem dX12_writeBook_44 : decode cX12_writeBook 44 = .ok (.iadd, 1) := by decide +kernel
theorem dX12_writeBook_45 : decode cX12_writeBook 45 = .ok (.iaload, 1) := by decide +kernel
theorem dX12_writeBook_46 : decode cX12_writeBook 46 = .ok (.invokestatic 215, 3) := by decide +kernel
theorem dX12_writeBook_49 : decode cX12_writeBook 49 = .ok (.ifCond .eq 73, 3) := by decide +kernel
theorem dX12_writeBook_52 : decode cX12_writeBook 52 = .ok (.aload_n 0, 1) := by decide +kernel
theorem dX12_writeBook_53 : decode cX12_writeBook 53 = .ok (.getfield 21, 3) := by decide +kernel
theorem dX12_writeBook_56 : decode cX12_writeBook 56 = .ok (.iload_n 3, 1) := by decide +kernel
theorem dX12_writeBook_57 : decode cX12_writeBook 57 = .ok (.iload 4, 2) := by decide +kernel
theorem dX12_writeBook_59 : decode cX12_writeBook 59 = .ok (.iadd, 1) := by decide +kernel
theorem dX12_writeBook_60 : decode cX12_writeBook 60 = .ok (.iconst 1, 1) := by decide +kernel
theorem dX12_writeBook_61 : decode cX12_writeBook 61 = .ok (.iadd, 1) := by decide +kernel
theorem dX12_writeBook_62 : decode cX12_writeBook 62 = .ok (.iaload, 1) := by decide +kernel
theorem dX12_writeBook_63 : decode cX12_writeBook 63 = .ok (.invokestatic 215, 3) := by decide +kernel
theorem dX12_writeBook_66 : decode cX12_writeBook 66 = .ok (.ifCond .eq 56, 3) := by decide +kernel
theorem dX12_writeBook_69 : decode cX12_writeBook 69 = .ok (.aload_n 0, 1) := by decide +kernel
theorem dX12_writeBook_70 : decode cX12_writeBook 70 = .ok (.getfield 21, 3) := by decide +kernel
theorem dX12_writeBook_73 : decode cX12_writeBook 73 = .ok (.iload_n 3, 1) := by decide +kernel
theorem dX12_writeBook_74 : decode cX12_writeBook 74 = .ok (.iload 4, 2) := by decide +kernel
theorem dX12_writeBook_76 : decode cX12_writeBook 76 = .ok (.iadd, 1) := by decide +kernel
theorem dX12_writeBook_77 : decode cX12_writeBook 77 = .ok (.iconst 1, 1) := by decide +kernel
theorem dX12_writeBook_78 : decode cX12_writeBook 78 = .ok (.iadd, 1) := by decide +kernel
theorem dX12_writeBook_79 : decode cX12_writeBook 79 = .ok (.iaload, 1) := by decide +kernel
theorem dX12_writeBook_80 : decode cX12_writeBook 80 = .ok (.aload_n 0, 1) := by decide +kernel
theorem dX12_writeBook_81 : decode cX12_writeBook 81 = .ok (.getfield 21, 3) := by decide +kernel
theorem dX12_writeBook_84 : decode cX12_writeBook 84 = .ok (.iload_n 3, 1) := by decide +kernel
theorem dX12_writeBook_85 : decode cX12_writeBook 85 = .ok (.iload 4, 2) := by decide +kernel
theorem dX12_writeBook_87 : decode cX12_writeBook 87 = .ok (.iadd, 1) := by decide +kernel
theorem dX12_writeBook_88 : decode cX12_writeBook 88 = .ok (.iaload, 1) := by decide +kernel
theorem dX12_writeBook_89 : decode cX12_writeBook 89 = .ok (.iconst 1, 1) := by decide +kernel
theorem dX12_writeBook_90 : decode cX12_writeBook 90 = .ok (.iadd, 1) := by decide +kernel
theorem dX12_writeBook_91 : decode cX12_writeBook 91 = .ok (.if_icmp .ne 31, 3) := by decide +kernel
theorem dX12_writeBook_94 : decode cX12_writeBook 94 = .ok (.aload_n 0, 1) := by decide +kernel
theorem dX12_writeBook_95 : decode cX12_writeBook 95 = .ok (.getfield 24, 3) := by decide +kernel
theorem dX12_writeBook_98 : decode cX12_writeBook 98 = .ok (.iload_n 3, 1) := by decide +kernel
theorem dX12_writeBook_99 : decode cX12_writeBook 99 = .ok (.iload 4, 2) := by decide +kernel
theorem dX12_writeBook_101 : decode cX12_writeBook 101 = .ok (.iadd, 1) := by decide +kernel
theorem dX12_writeBook_102 : decode cX12_writeBook 102 = .ok (.iconst 1, 1) := by decide +kernel
theorem dX12_writeBook_103 : decode cX12_writeBook 103 = .ok (.iadd, 1) := by decide +kernel
theorem dX12_writeBook_104 : decode cX12_writeBook 104 = .ok (.iaload, 1) := by decide +kernel
theorem dX12_writeBook_105 : decode cX12_writeBook 105 = .ok (.aload_n 0, 1) := by decide +kernel
theorem dX12_writeBook_106 : decode cX12_writeBook 106 = .ok (.getfield 24, 3) := by decide +kernel
theorem dX12_writeBook_109 : decode cX12_writeBook 109 = .ok (.iload_n 3, 1) := by decide +kernel
theorem dX12_writeBook_110 : decode cX12_writeBook 110 = .ok (.iload_n 2, 1) := by decide +kernel
theorem dX12_writeBook_111 : decode cX12_writeBook 111 = .ok (.iadd, 1) := by decide +kernel
theorem dX12_writeBook_112 : decode cX12_writeBook 112 = .ok (.iaload, 1) := by decide +kernel
theorem dX12_writeBook_113 : decode cX12_writeBook 113 = .ok (.if_icmp .ne 9, 3) := by decide +kernel
theorem dX12_writeBook_116 : decode cX12_writeBook 116 = .ok (.iinc 4 1, 3) := by decide +kernel
theorem dX12_writeBook_119 : decode cX12_writeBook 119 = .ok (.goto (-94), 3) := by decide +kernel
theorem dX12_writeBook_122 : decode cX12_writeBook 122 = .ok (.iload_n 2, 1) := by decide +kernel
theorem dX12_writeBook_123 : decode cX12_writeBook 123 = .ok (.ifCond .le 9, 3) := by decide +kernel
theorem dX12_writeBook_126 : decode cX12_writeBook 126 = .ok (.aload_n 0, 1) := by decide +kernel
theorem dX12_writeBook_127 : decode cX12_writeBook 127 = .ok (.bipush 32, 2) := by decide +kernel
theorem dX12_writeBook_129 : decode cX12_writeBook 129 = .ok (.invokevirtual 208, 3) := by decide +kernel
theorem dX12_writeBook_132 : decode cX12_writeBook 132 = .ok (.aload_n 0, 1) := by decide +kernel
theorem dX12_writeBook_133 : decode cX12_writeBook 133 = .ok (.aload_n 0, 1) := by decide +kernel
theorem dX12_writeBook_134 : decode cX12_writeBook 134 = .ok (.getfield 21, 3) := by decide +kernel
theorem dX12_writeBook_137 : decode cX12_writeBook 137 = .ok (.iload_n 3, 1) := by decide +kernel
theorem dX12_writeBook_138 : decode cX12_writeBook 138 = .ok (.iload_n 2, 1) := by decide +kernel
theorem dX12_writeBook_139 : decode cX12_writeBook 139 = .ok (.iadd, 1) := by decide +kernel
theorem dX12_writeBook_140 : decode cX12_writeBook 140 = .ok (.iaload, 1) := by decide +kernel
theorem dX12_writeBook_141 : decode cX12_writeBook 141 = .ok (.invokevirtual 218, 3) := by decide +kernel
theorem dX12_writeBook_144 : decode cX12_writeBook 144 = .ok (.iload 4, 2) := by decide +kernel
theorem dX12_writeBook_146 : decode cX12_writeBook 146 = .ok (.iload_n 2, 1) := by decide +kernel
theorem dX12_writeBook_147 : decode cX12_writeBook 147 = .ok (.if_icmp .le 22, 3) := by decide +kernel
theorem dX12_writeBook_150 : decode cX12_writeBook 150 = .ok (.aload_n 0, 1) := by decide +kernel
theorem dX12_writeBook_151 : decode cX12_writeBook 151 = .ok (.bipush 45, 2) := by decide +kernel
theorem dX12_writeBook_153 : decode cX12_writeBook 153 = .ok (.invokevirtual 208, 3) := by decide +kernel
theorem dX12_writeBook_156 : decode cX12_writeBook 156 = .ok (.aload_n 0, 1) := by decide +kernel
theorem dX12_writeBook_157 : decode cX12_writeBook 157 = .ok (.aload_n 0, 1) := by decide +kernel
theorem dX12_writeBook_158 : decode cX12_writeBook 158 = .ok (.getfield 21, 3) := by decide +kernel
theorem dX12_writeBook_161 : decode cX12_writeBook 161 = .ok (.iload_n 3, 1) := by decide +kernel
theorem dX12_writeBook_162 : decode cX12_writeBook 162 = .ok (.iload 4, 2) := by decide +kernel
theorem dX12_writeBook_164 : decode cX12_writeBook 164 = .ok (.iadd, 1) := by decide +kernel
theorem dX12_writeBook_165 : decode cX12_writeBook 165 = .ok (.iaload, 1) := by decide +kernel
theorem dX12_writeBook_166 : decode cX12_writeBook 166 = .ok (.invokevirtual 218, 3) := by decide +kernel
theorem dX12_writeBook_169 : decode cX12_writeBook 169 = .ok (.aload_n 0, 1) := by decide +kernel
theorem dX12_writeBook_170 : decode cX12_writeBook 170 = .ok (.aload_n 0, 1) := by decide +kernel
theorem dX12_writeBook_171 : decode cX12_writeBook 171 = .ok (.getfield 24, 3) := by decide +kernel
theorem dX12_writeBook_174 : decode cX12_writeBook 174 = .ok (.iload_n 3, 1) := by decide +kernel
theorem dX12_writeBook_175 : decode cX12_writeBook 175 = .ok (.iload_n 2, 1) := by decide +kernel
theorem dX12_writeBook_176 : decode cX12_writeBook 176 = .ok (.iadd, 1) := by decide +kernel
theorem dX12_writeBook_177 : decode cX12_writeBook 177 = .ok (.iaload, 1) := by decide +kernel
theorem dX12_writeBook_178 : decode cX12_writeBook 178 = .ok (.invokevirtual 221, 3) := by decide +kernel
theorem dX12_writeBook_181 : decode cX12_writeBook 181 = .ok (.aload_n 0, 1) := by decide +kernel
theorem dX12_writeBook_182 : decode cX12_writeBook 182 = .ok (.iload_n 1, 1) := by decide +kernel
theorem dX12_writeBook_183 : decode cX12_writeBook 183 = .ok (.iload_n 2, 1) := by decide +kernel
theorem dX12_writeBook_184 : decode cX12_writeBook 184 = .ok (.iload 4, 2) := by decide +kernel
theorem dX12_writeBook_186 : decode cX12_writeBook 186 = .ok (.invokevirtual 224, 3) := by decide +kernel
theorem dX12_writeBook_189 : decode cX12_writeBook 189 = .ok (.iload 4, 2) := by decide +kernel
theorem dX12_writeBook_191 : decode cX12_writeBook 191 = .ok (.iconst 1, 1) := by decide +kernel
theorem dX12_writeBook_192 : decode cX12_writeBook 192 = .ok (.iadd, 1) := by decide +kernel
theorem dX12_writeBook_193 : decode cX12_writeBook 193 = .ok (.istore_n 2, 1) := by decide +kernel
theorem dX12_writeBook_194 : decode cX12_writeBook 194 = .ok (.goto (-187), 3) := by decide +kernel
theorem dX12_writeBook_197 : decode cX12_writeBook 197 = .ok (.return_, 1) := by decide +kernel
def X12_writeBook_169 (k7 : Nat → Int32 → Int32 → MM Unit) (this : Nat) (x1 : Int32) (x2 : Int32) (x3 : Int32) (x4 : Int32) : MM Unit :=
  mb (gR 13 (some this) 8) fun v1 =>
  mb (aI v1 (x3 + x2)) fun v2 =>
  mb (wc 13 (some this) fun t => X12_writeNumber t v2) fun _ =>
  mb (wc 13 (some this) fun t => X12_writeChanges t x1 x2 x4) fun _ =>
  (k7 this x1 (x4 + (1 : Int32)))
def X12_writeBook_132 (k7 : Nat → Int32 → Int32 → MM Unit) (this : Nat) (x1 : Int32) (x2 : Int32) (x3 : Int32) (x4 : Int32) : MM Unit :=
  mb (gR 13 (some this) 7) fun v1 =>
  mb (aI v1 (x3 + x2)) fun v2 =>
  mb (wc 13 (some this) fun t => X12_writeSign t v2) fun _ =>
  if x4 ≤ x2 then ((X12_writeBook_169 k7 this x1 x2 x3 x4)) else (mb (wc 13 (some this) fun t => X12_write t (45 : Int32)) fun _ =>
  mb (gR 13 (some this) 7) fun v3 =>
  mb (aI v3 (x3 + x4)) fun v4 =>
  mb (wc 13 (some this) fun t => X12_writeSign t v4) fun _ =>
  (X12_writeBook_169 k7 this x1 x2 x3 x4))
def X12_writeBook_122 (k7 : Nat → Int32 → Int32 → MM Unit) (this : Nat) (x1 : Int32) (x2 : Int32) (x3 : Int32) (x4 : Int32) : MM Unit :=
  if x2 ≤ 0 then ((X12_writeBook_132 k7 this x1 x2 x3 x4)) else (mb (wc 13 (some this) fun t => X12_write t (32 : Int32)) fun _ =>
  (X12_writeBook_132 k7 this x1 x2 x3 x4))
def X12_writeBook_25_st (k7 : Nat → Int32 → Int32 → MM Unit) (k25 : Nat → Int32 → Int32 → Int32 → Int32 → MM Unit) (this : Nat) (x1 : Int32) (x2 : Int32) (x3 : Int32) (x4 : Int32) : MM Unit :=
  mb (gR 13 (some this) 6) fun v1 =>
  mb (aI v1 x1) fun v2 =>
  if v2 ≤ (x4 + (1 : Int32)) then ((X12_writeBook_122 k7 this x1 x2 x3 x4)) else (mb (gR 13 (some this) 7) fun v3 =>
  mb (aI v3 (x3 + x2)) fun v4 =>
  mb (X12_isLetters v4) fun v5 =>
  if v5 = 0 then ((X12_writeBook_122 k7 this x1 x2 x3 x4)) else (mb (gR 13 (some this) 7) fun v6 =>
  mb (aI v6 ((x3 + x4) + (1 : Int32))) fun v7 =>
  mb (X12_isLetters v7) fun v8 =>
  if v8 = 0 then ((X12_writeBook_122 k7 this x1 x2 x3 x4)) else (mb (gR 13 (some this) 7) fun v9 =>
  mb (aI v9 ((x3 + x4) + (1 : Int32))) fun v10 =>
  mb (gR 13 (some this) 7) fun v11 =>
  mb (aI v11 (x3 + x4)) fun v12 =>
  if v10 = (v12 + (1 : Int32)) then (mb (gR 13 (some this) 8) fun v13 =>
  mb (aI v13 ((x3 + x4) + (1 : Int32))) fun v14 =>
  mb (gR 13 (some this) 8) fun v15 =>
  mb (aI v15 (x3 + x2)) fun v16 =>
  if v14 = v16 then ((k25 this x1 x2 x3 (x4 + (1 : Int32)))) else ((X12_writeBook_122 k7 this x1 x2 x3 x4))) else ((X12_writeBook_122 k7 this x1 x2 x3 x4)))))
def X12_writeBook_25 (k7 : Nat → Int32 → Int32 → MM Unit) : Nat → Nat → Int32 → Int32 → Int32 → Int32 → MM Unit
  | 0 => fun _ _ _ _ _ => mf
  | n + 1 => fun this x1 x2 x3 x4 => X12_writeBook_25_st k7 (X12_writeBook_25 k7 n) this x1 x2 x3 x4
def X12_writeBook_7_st  (k7 : Nat → Int32 → Int32 → MM Unit) (this : Nat) (x1 : Int32) (x2 : Int32) : MM Unit :=
  mb (gR 13 (some this) 6) fun v1 =>
  mb (aI v1 x1) fun v2 =>
  if v2 ≤ x2 then (mr ()) else ((X12_writeBook_25 k7 LFU this x1 x2 (x1 * (71 : Int32)) x2))
def X12_writeBook_7  : Nat → Nat → Int32 → Int32 → MM Unit
  | 0 => fun _ _ _ => mf
  | n + 1 => fun this x1 x2 => X12_writeBook_7_st  (X12_writeBook_7  n) this x1 x2
def X12_writeBook (this : Nat) (a1 : Int32) : MM Unit :=
  mb (pI 13 (some this) 37 (0 : Int32)) fun _ =>
  (X12_writeBook_7 LFU this a1 (0 : Int32))
set_option maxRecDepth 100000 in
set_option maxHeartbeats 4000000 in
theorem s_X12_writeBook_169 (G : GG) (k7 : Nat → Int32 → Int32 → MM Unit) (hk7 : ∀ (this : Nat) (x1 : Int32) (x2 : Int32), Sn G yX12_writeBook cX12_writeBook 5 none 7 157 (fun _ : Unit => none) (k7 this x1 x2) 7 [some (va_rf (some this)), some (.int x1), some (.int x2), none, none] []) (this : Nat) (x1 : Int32) (x2 : Int32) (x3 : Int32) (x4 : Int32) : Sn G yX12_writeBook cX12_writeBook 5 none 7 157 (fun _ : Unit => none) (X12_writeBook_169 k7 this x1 x2 x3 x4) 169 [some (va_rf (some this)), some (.int x1), some (.int x2), some (.int x3), some (.int x4)] [] := by
  unfold X12_writeBook_169
  refine sn_aload_n (v := (some this)) (pc' := 170) dX12_writeBook_169 rfl rfl rfl ?_
  refine sn_aload_n (v := (some this)) (pc' := 171) dX12_writeBook_170 rfl rfl rfl ?_
  refine sn_gR (k := 8) (pc' := 174) ci_13 rfl (Or.inl tw1286) dX12_writeBook_171 rfl (fun v1 => ?_)
  refine sn_iload_n (v := x3) (pc' := 175) dX12_writeBook_174 rfl rfl rfl ?_
  refine sn_iload_n (v := x2) (pc' := 176) dX12_writeBook_175 rfl rfl rfl ?_
  refine sn_iadd (pc' := 177) dX12_writeBook_176 rfl ?_
  refine sn_aI (pc' := 178) dX12_writeBook_177 rfl (fun v2 => ?_)
  refine sn_cV (r := (some this)) (st := []) (As := [.int v2]) (st2 := (fun _ => [])) (pc' := 181) ci_13 (fun t => c_X12_writeNumber G t v2) cw_X12_writeNumber rfl rfl tw1645 pw80 tw1647 rfl rfl cat_nil rfl (fun _ => rfl) dX12_writeBook_178 rfl (fun _ => ?_)
  refine sn_aload_n (v := (some this)) (pc' := 182) dX12_writeBook_181 rfl rfl rfl ?_
  refine sn_iload_n (v := x1) (pc' := 183) dX12_writeBook_182 rfl rfl rfl ?_
  refine sn_iload_n (v := x2) (pc' := 184) dX12_writeBook_183 rfl rfl rfl ?_
  refine sn_iload (v := x4) (pc' := 186) dX12_writeBook_184 rfl rfl ?_
  refine sn_cV (r := (some this)) (st := []) (As := [.int x1, .int x2, .int x4]) (st2 := (fun _ => [])) (pc' := 189) ci_13 (fun t => c_X12_writeChanges G t x1 x2 x4) cw_X12_writeChanges rfl rfl tw1649 pw81 tw1651 rfl rfl cat_nil rfl (fun _ => rfl) dX12_writeBook_186 rfl (fun _ => ?_)
  refine sn_iload (v := x4) (pc' := 191) dX12_writeBook_189 rfl rfl ?_
  refine sn_iconst (v := (1 : Int32)) (pc' := 192) dX12_writeBook_191 rfl (by decide) ?_
  refine sn_iadd (pc' := 193) dX12_writeBook_192 rfl ?_
  refine sn_istore_n (v := (x4 + (1 : Int32))) (L' := [some (va_rf (some this)), some (.int x1), some (.int (x4 + (1 : Int32))), some (.int x3), some (.int x4)]) (pc' := 194) dX12_writeBook_193 rfl rfl rfl rfl ?_
  refine sn_goto (pc' := 7) dX12_writeBook_194 rfl ?_
  exact sn_weak (le_s (le_s (le_s (le_n (le_n le_e))))) (hk7 this x1 (x4 + (1 : Int32)))
set_option maxRecDepth 100000 in
set_option maxHeartbeats 4000000 in
theorem s_X12_writeBook_132 (G : GG) (k7 : Nat → Int32 → Int32 → MM Unit) (hk7 : ∀ (this : Nat) (x1 : Int32) (x2 : Int32), Sn G yX12_writeBook cX12_writeBook 5 none 7 157 (fun _ : Unit => none) (k7 this x1 x2) 7 [some (va_rf (some this)), some (.int x1), some (.int x2), none, none] []) (this : Nat) (x1 : Int32) (x2 : Int32) (x3 : Int32) (x4 : Int32) : Sn G yX12_writeBook cX12_writeBook 5 none 7 157 (fun _ : Unit => none) (X12_writeBook_132 k7 this x1 x2 x3 x4) 132 [some (va_rf (some this)), some (.int x1), some (.int x2), some (.int x3), some (.int x4)] [] := by
  unfold X12_writeBook_132
  refine sn_aload_n (v := (some this)) (pc' := 133) dX12_writeBook_132 rfl rfl rfl ?_
  refine sn_aload_n (v := (some this)) (pc' := 134) dX12_writeBook_133 rfl rfl rfl ?_
  refine sn_gR (k := 7) (pc' := 137) ci_13 rfl (Or.inl tw1285) dX12_writeBook_134 rfl (fun v1 => ?_)
  refine sn_iload_n (v := x3) (pc' := 138) dX12_writeBook_137 rfl rfl rfl ?_
  refine sn_iload_n (v := x2) (pc' := 139) dX12_writeBook_138 rfl rfl rfl ?_
  refine sn_iadd (pc' := 140) dX12_writeBook_139 rfl ?_
  refine sn_aI (pc' := 141) dX12_writeBook_140 rfl (fun v2 => ?_)
  refine sn_cV (r := (some this)) (st := []) (As := [.int v2]) (st2 := (fun _ => [])) (pc' := 144) ci_13 (fun t => c_X12_writeSign G t v2) cw_X12_writeSign rfl rfl tw1637 pw78 tw1639 rfl rfl cat_nil rfl (fun _ => rfl) dX12_writeBook_141 rfl (fun _ => ?_)
  refine sn_iload (v := x4) (pc' := 146) dX12_writeBook_144 rfl rfl ?_
  refine sn_iload_n (v := x2) (pc' := 147) dX12_writeBook_146 rfl rfl rfl ?_
  refine sn_ic_le (pt := 169) (pf := 150) dX12_writeBook_147 rfl rfl ?_ ?_
  · exact sn_weak (le_s (le_s (le_s (le_s (le_s le_e))))) (s_X12_writeBook_169 G k7 hk7 this x1 x2 x3 x4)
  · refine sn_aload_n (v := (some this)) (pc' := 151) dX12_writeBook_150 rfl rfl rfl ?_
    refine sn_bipush (v := (45 : Int32)) (pc' := 153) dX12_writeBook_151 rfl (by decide) ?_
    refine sn_cV (r := (some this)) (st := []) (As := [.int (45 : Int32)]) (st2 := (fun _ => [])) (pc' := 156) ci_13 (fun t => c_X12_write G t (45 : Int32)) cw_X12_write rfl rfl tw1633 pw77 tw1635 rfl rfl cat_nil rfl (fun _ => rfl) dX12_writeBook_153 rfl (fun _ => ?_)
    refine sn_aload_n (v := (some this)) (pc' := 157) dX12_writeBook_156 rfl rfl rfl ?_
    refine sn_aload_n (v := (some this)) (pc' := 158) dX12_writeBook_157 rfl rfl rfl ?_
    refine sn_gR (k := 7) (pc' := 161) ci_13 rfl (Or.inl tw1285) dX12_writeBook_158 rfl (fun v3 => ?_)
    refine sn_iload_n (v := x3) (pc' := 162) dX12_writeBook_161 rfl rfl rfl ?_
    refine sn_iload (v := x4) (pc' := 164) dX12_writeBook_162 rfl rfl ?_
    refine sn_iadd (pc' := 165) dX12_writeBook_164 rfl ?_
    refine sn_aI (pc' := 166) dX12_writeBook_165 rfl (fun v4 => ?_)
    refine sn_cV (r := (some this)) (st := []) (As := [.int v4]) (st2 := (fun _ => [])) (pc' := 169) ci_13 (fun t => c_X12_writeSign G t v4) cw_X12_writeSign rfl rfl tw1637 pw78 tw1639 rfl rfl cat_nil rfl (fun _ => rfl) dX12_writeBook_166 rfl (fun _ => ?_)
    exact sn_weak (le_s (le_s (le_s (le_s (le_s le_e))))) (s_X12_writeBook_169 G k7 hk7 this x1 x2 x3 x4)
set_option maxRecDepth 100000 in
set_option maxHeartbeats 4000000 in
theorem s_X12_writeBook_122 (G : GG) (k7 : Nat → Int32 → Int32 → MM Unit) (hk7 : ∀ (this : Nat) (x1 : Int32) (x2 : Int32), Sn G yX12_writeBook cX12_writeBook 5 none 7 157 (fun _ : Unit => none) (k7 this x1 x2) 7 [some (va_rf (some this)), some (.int x1), some (.int x2), none, none] []) (this : Nat) (x1 : Int32) (x2 : Int32) (x3 : Int32) (x4 : Int32) : Sn G yX12_writeBook cX12_writeBook 5 none 7 157 (fun _ : Unit => none) (X12_writeBook_122 k7 this x1 x2 x3 x4) 122 [some (va_rf (some this)), some (.int x1), some (.int x2), some (.int x3), some (.int x4)] [] := by
  unfold X12_writeBook_122
  refine sn_iload_n (v := x2) (pc' := 123) dX12_writeBook_122 rfl rfl rfl ?_
  refine sn_if_le (pt := 132) (pf := 126) dX12_writeBook_123 rfl rfl ?_ ?_
  · exact sn_weak (le_s (le_s (le_s (le_s (le_s le_e))))) (s_X12_writeBook_132 G k7 hk7 this x1 x2 x3 x4)
  · refine sn_aload_n (v := (some this)) (pc' := 127) dX12_writeBook_126 rfl rfl rfl ?_
    refine sn_bipush (v := (32 : Int32)) (pc' := 129) dX12_writeBook_127 rfl (by decide) ?_
    refine sn_cV (r := (some this)) (st := []) (As := [.int (32 : Int32)]) (st2 := (fun _ => [])) (pc' := 132) ci_13 (fun t => c_X12_write G t (32 : Int32)) cw_X12_write rfl rfl tw1633 pw77 tw1635 rfl rfl cat_nil rfl (fun _ => rfl) dX12_writeBook_129 rfl (fun _ => ?_)
    exact sn_weak (le_s (le_s (le_s (le_s (le_s le_e))))) (s_X12_writeBook_132 G k7 hk7 this x1 x2 x3 x4)
set_option maxRecDepth 100000 in
set_option maxHeartbeats 4000000 in
theorem s_X12_writeBook_25_st (G : GG) (k7 : Nat → Int32 → Int32 → MM Unit) (hk7 : ∀ (this : Nat) (x1 : Int32) (x2 : Int32), Sn G yX12_writeBook cX12_writeBook 5 none 7 157 (fun _ : Unit => none) (k7 this x1 x2) 7 [some (va_rf (some this)), some (.int x1), some (.int x2), none, none] []) (k25 : Nat → Int32 → Int32 → Int32 → Int32 → MM Unit) (hk25 : ∀ (this : Nat) (x1 : Int32) (x2 : Int32) (x3 : Int32) (x4 : Int32), Sn G yX12_writeBook cX12_writeBook 5 none 7 157 (fun _ : Unit => none) (k25 this x1 x2 x3 x4) 25 [some (va_rf (some this)), some (.int x1), some (.int x2), some (.int x3), some (.int x4)] []) (this : Nat) (x1 : Int32) (x2 : Int32) (x3 : Int32) (x4 : Int32) : Sn G yX12_writeBook cX12_writeBook 5 none 7 157 (fun _ : Unit => none) (X12_writeBook_25_st k7 k25 this x1 x2 x3 x4) 25 [some (va_rf (some this)), some (.int x1), some (.int x2), some (.int x3), some (.int x4)] [] := by
  unfold X12_writeBook_25_st
  refine sn_iload (v := x4) (pc' := 27) dX12_writeBook_25 rfl rfl ?_
  refine sn_iconst (v := (1 : Int32)) (pc' := 28) dX12_writeBook_27 rfl (by decide) ?_
  refine sn_iadd (pc' := 29) dX12_writeBook_28 rfl ?_
  refine sn_aload_n (v := (some this)) (pc' := 30) dX12_writeBook_29 rfl rfl rfl ?_
  refine sn_gR (k := 6) (pc' := 33) ci_13 rfl (Or.inl tw1284) dX12_writeBook_30 rfl (fun v1 => ?_)
  refine sn_iload_n (v := x1) (pc' := 34) dX12_writeBook_33 rfl rfl rfl ?_
  refine sn_aI (pc' := 35) dX12_writeBook_34 rfl (fun v2 => ?_)
  refine sn_ic_ge (pt := 122) (pf := 38) dX12_writeBook_35 rfl rfl ?_ ?_
  · exact sn_weak (le_s (le_s (le_s (le_s (le_s le_e))))) (s_X12_writeBook_122 G k7 hk7 this x1 x2 x3 x4)
  · refine sn_aload_n (v := (some this)) (pc' := 39) dX12_writeBook_38 rfl rfl rfl ?_
    refine sn_gR (k := 7) (pc' := 42) ci_13 rfl (Or.inl tw1285) dX12_writeBook_39 rfl (fun v3 => ?_)
    refine sn_iload_n (v := x3) (pc' := 43) dX12_writeBook_42 rfl rfl rfl ?_
    refine sn_iload_n (v := x2) (pc' := 44) dX12_writeBook_43 rfl rfl rfl ?_
    refine sn_iadd (pc' := 45) dX12_writeBook_44 rfl ?_
    refine sn_aI (pc' := 46) dX12_writeBook_45 rfl (fun v4 => ?_)
    refine sn_cS (st := []) (As := [.int v4]) (st2 := (fun v => .int v :: [])) (pc' := 49) (c_X12_isLetters G v4) cw_X12_isLetters rfl rfl tw1630 tw1631 rfl rfl cat_nil rfl (fun _ => rfl) dX12_writeBook_46 rfl (fun v5 => ?_)
    refine sn_if_eq (pt := 122) (pf := 52) dX12_writeBook_49 rfl rfl ?_ ?_
    · exact sn_weak (le_s (le_s (le_s (le_s (le_s le_e))))) (s_X12_writeBook_122 G k7 hk7 this x1 x2 x3 x4)
    · refine sn_aload_n (v := (some this)) (pc' := 53) dX12_writeBook_52 rfl rfl rfl ?_
      refine sn_gR (k := 7) (pc' := 56) ci_13 rfl (Or.inl tw1285) dX12_writeBook_53 rfl (fun v6 => ?_)
      refine sn_iload_n (v := x3) (pc' := 57) dX12_writeBook_56 rfl rfl rfl ?_
      refine sn_iload (v := x4) (pc' := 59) dX12_writeBook_57 rfl rfl ?_
      refine sn_iadd (pc' := 60) dX12_writeBook_59 rfl ?_
      refine sn_iconst (v := (1 : Int32)) (pc' := 61) dX12_writeBook_60 rfl (by decide) ?_
      refine sn_iadd (pc' := 62) dX12_writeBook_61 rfl ?_
      refine sn_aI (pc' := 63) dX12_writeBook_62 rfl (fun v7 => ?_)
      refine sn_cS (st := []) (As := [.int v7]) (st2 := (fun v => .int v :: [])) (pc' := 66) (c_X12_isLetters G v7) cw_X12_isLetters rfl rfl tw1630 tw1631 rfl rfl cat_nil rfl (fun _ => rfl) dX12_writeBook_63 rfl (fun v8 => ?_)
      refine sn_if_eq (pt := 122) (pf := 69) dX12_writeBook_66 rfl rfl ?_ ?_
      · exact sn_weak (le_s (le_s (le_s (le_s (le_s le_e))))) (s_X12_writeBook_122 G k7 hk7 this x1 x2 x3 x4)
      · refine sn_aload_n (v := (some this)) (pc' := 70) dX12_writeBook_69 rfl rfl rfl ?_
        refine sn_gR (k := 7) (pc' := 73) ci_13 rfl (Or.inl tw1285) dX12_writeBook_70 rfl (fun v9 => ?_)
        refine sn_iload_n (v := x3) (pc' := 74) dX12_writeBook_73 rfl rfl rfl ?_
        refine sn_iload (v := x4) (pc' := 76) dX12_writeBook_74 rfl rfl ?_
        refine sn_iadd (pc' := 77) dX12_writeBook_76 rfl ?_
        refine sn_iconst (v := (1 : Int32)) (pc' := 78) dX12_writeBook_77 rfl (by decide) ?_
        refine sn_iadd (pc' := 79) dX12_writeBook_78 rfl ?_
        refine sn_aI (pc' := 80) dX12_writeBook_79 rfl (fun v10 => ?_)
        refine sn_aload_n (v := (some this)) (pc' := 81) dX12_writeBook_80 rfl rfl rfl ?_
        refine sn_gR (k := 7) (pc' := 84) ci_13 rfl (Or.inl tw1285) dX12_writeBook_81 rfl (fun v11 => ?_)
        refine sn_iload_n (v := x3) (pc' := 85) dX12_writeBook_84 rfl rfl rfl ?_
        refine sn_iload (v := x4) (pc' := 87) dX12_writeBook_85 rfl rfl ?_
        refine sn_iadd (pc' := 88) dX12_writeBook_87 rfl ?_
        refine sn_aI (pc' := 89) dX12_writeBook_88 rfl (fun v12 => ?_)
        refine sn_iconst (v := (1 : Int32)) (pc' := 90) dX12_writeBook_89 rfl (by decide) ?_
        refine sn_iadd (pc' := 91) dX12_writeBook_90 rfl ?_
        refine sn_ic_ne (pt := 122) (pf := 94) dX12_writeBook_91 rfl rfl ?_ ?_
        · refine sn_aload_n (v := (some this)) (pc' := 95) dX12_writeBook_94 rfl rfl rfl ?_
          refine sn_gR (k := 8) (pc' := 98) ci_13 rfl (Or.inl tw1286) dX12_writeBook_95 rfl (fun v13 => ?_)
          refine sn_iload_n (v := x3) (pc' := 99) dX12_writeBook_98 rfl rfl rfl ?_
          refine sn_iload (v := x4) (pc' := 101) dX12_writeBook_99 rfl rfl ?_
          refine sn_iadd (pc' := 102) dX12_writeBook_101 rfl ?_
          refine sn_iconst (v := (1 : Int32)) (pc' := 103) dX12_writeBook_102 rfl (by decide) ?_
          refine sn_iadd (pc' := 104) dX12_writeBook_103 rfl ?_
          refine sn_aI (pc' := 105) dX12_writeBook_104 rfl (fun v14 => ?_)
          refine sn_aload_n (v := (some this)) (pc' := 106) dX12_writeBook_105 rfl rfl rfl ?_
          refine sn_gR (k := 8) (pc' := 109) ci_13 rfl (Or.inl tw1286) dX12_writeBook_106 rfl (fun v15 => ?_)
          refine sn_iload_n (v := x3) (pc' := 110) dX12_writeBook_109 rfl rfl rfl ?_
          refine sn_iload_n (v := x2) (pc' := 111) dX12_writeBook_110 rfl rfl rfl ?_
          refine sn_iadd (pc' := 112) dX12_writeBook_111 rfl ?_
          refine sn_aI (pc' := 113) dX12_writeBook_112 rfl (fun v16 => ?_)
          refine sn_ic_ne (pt := 122) (pf := 116) dX12_writeBook_113 rfl rfl ?_ ?_
          · refine sn_iinc (v := x4) (w := 1) (L' := [some (va_rf (some this)), some (.int x1), some (.int x2), some (.int x3), some (.int (x4 + (1 : Int32)))]) (pc' := 119) dX12_writeBook_116 rfl rfl rfl (by decide) rfl ?_
            refine sn_goto (pc' := 25) dX12_writeBook_119 rfl ?_
            exact sn_weak (le_s (le_s (le_s (le_s (le_s le_e))))) (hk25 this x1 x2 x3 (x4 + (1 : Int32)))
          · exact sn_weak (le_s (le_s (le_s (le_s (le_s le_e))))) (s_X12_writeBook_122 G k7 hk7 this x1 x2 x3 x4)
        · exact sn_weak (le_s (le_s (le_s (le_s (le_s le_e))))) (s_X12_writeBook_122 G k7 hk7 this x1 x2 x3 x4)
set_option maxRecDepth 100000 in
set_option maxHeartbeats 4000000 in
theorem s_X12_writeBook_25 (G : GG) (k7 : Nat → Int32 → Int32 → MM Unit) (hk7 : ∀ (this : Nat) (x1 : Int32) (x2 : Int32), Sn G yX12_writeBook cX12_writeBook 5 none 7 157 (fun _ : Unit => none) (k7 this x1 x2) 7 [some (va_rf (some this)), some (.int x1), some (.int x2), none, none] []) : ∀ (n : Nat) (this : Nat) (x1 : Int32) (x2 : Int32) (x3 : Int32) (x4 : Int32), Sn G yX12_writeBook cX12_writeBook 5 none 7 157 (fun _ : Unit => none) (X12_writeBook_25 k7 n this x1 x2 x3 x4) 25 [some (va_rf (some this)), some (.int x1), some (.int x2), some (.int x3), some (.int x4)] [] := by
  intro n
  induction n with
  | zero => intro this x1 x2 x3 x4; exact sn_mf
  | succ n ih => intro this x1 x2 x3 x4; exact s_X12_writeBook_25_st G k7 hk7 (X12_writeBook_25 k7 n) ih this x1 x2 x3 x4
set_option maxRecDepth 100000 in
set_option maxHeartbeats 4000000 in
theorem s_X12_writeBook_7_st (G : GG)   (k7 : Nat → Int32 → Int32 → MM Unit) (hk7 : ∀ (this : Nat) (x1 : Int32) (x2 : Int32), Sn G yX12_writeBook cX12_writeBook 5 none 7 157 (fun _ : Unit => none) (k7 this x1 x2) 7 [some (va_rf (some this)), some (.int x1), some (.int x2), none, none] []) (this : Nat) (x1 : Int32) (x2 : Int32) : Sn G yX12_writeBook cX12_writeBook 5 none 7 157 (fun _ : Unit => none) (X12_writeBook_7_st  k7 this x1 x2) 7 [some (va_rf (some this)), some (.int x1), some (.int x2), none, none] [] := by
  unfold X12_writeBook_7_st
  refine sn_iload_n (v := x2) (pc' := 8) dX12_writeBook_7 rfl rfl rfl ?_
  refine sn_aload_n (v := (some this)) (pc' := 9) dX12_writeBook_8 rfl rfl rfl ?_
  refine sn_gR (k := 6) (pc' := 12) ci_13 rfl (Or.inl tw1284) dX12_writeBook_9 rfl (fun v1 => ?_)
  refine sn_iload_n (v := x1) (pc' := 13) dX12_writeBook_12 rfl rfl rfl ?_
  refine sn_aI (pc' := 14) dX12_writeBook_13 rfl (fun v2 => ?_)
  refine sn_ic_ge (pt := 197) (pf := 17) dX12_writeBook_14 rfl rfl ?_ ?_
  · exact sn_vret dX12_writeBook_197 rfl
  · refine sn_iload_n (v := x1) (pc' := 18) dX12_writeBook_17 rfl rfl rfl ?_
    refine sn_bipush (v := (71 : Int32)) (pc' := 20) dX12_writeBook_18 rfl (by decide) ?_
    refine sn_imul (pc' := 21) dX12_writeBook_20 rfl ?_
    refine sn_istore_n (v := (x1 * (71 : Int32))) (L' := [some (va_rf (some this)), some (.int x1), some (.int x2), some (.int (x1 * (71 : Int32))), none]) (pc' := 22) dX12_writeBook_21 rfl rfl rfl rfl ?_
    refine sn_iload_n (v := x2) (pc' := 23) dX12_writeBook_22 rfl rfl rfl ?_
    refine sn_istore (v := x2) (L' := [some (va_rf (some this)), some (.int x1), some (.int x2), some (.int (x1 * (71 : Int32))), some (.int x2)]) (pc' := 25) dX12_writeBook_23 rfl rfl rfl ?_
    exact sn_weak (le_s (le_s (le_s (le_s (le_s le_e))))) (s_X12_writeBook_25 G k7 hk7 LFU this x1 x2 (x1 * (71 : Int32)) x2)
set_option maxRecDepth 100000 in
set_option maxHeartbeats 4000000 in
theorem s_X12_writeBook_7 (G : GG)   : ∀ (n : Nat) (this : Nat) (x1 : Int32) (x2 : Int32), Sn G yX12_writeBook cX12_writeBook 5 none 7 157 (fun _ : Unit => none) (X12_writeBook_7  n this x1 x2) 7 [some (va_rf (some this)), some (.int x1), some (.int x2), none, none] [] := by
  intro n
  induction n with
  | zero => intro this x1 x2; exact sn_mf
  | succ n ih => intro this x1 x2; exact s_X12_writeBook_7_st G   (X12_writeBook_7  n) ih this x1 x2
set_option maxRecDepth 100000 in
set_option maxHeartbeats 4000000 in
theorem s_X12_writeBook (G : GG) (this : Nat) (a1 : Int32) : Sn G yX12_writeBook cX12_writeBook 5 none 7 157 (fun _ : Unit => none) (X12_writeBook this a1) 0 [some (va_rf (some this)), some (.int a1), none, none, none] [] := by
  unfold X12_writeBook
  refine sn_aload_n (v := (some this)) (pc' := 1) dX12_writeBook_0 rfl rfl rfl ?_
  refine sn_iconst (v := (0 : Int32)) (pc' := 2) dX12_writeBook_1 rfl (by decide) ?_
  refine sn_pI (k := 37) (pc' := 5) ci_13 rfl (Or.inl tw1315) (Or.inl rfl) rfl dX12_writeBook_2 rfl (fun _ => ?_)
  refine sn_iconst (v := (0 : Int32)) (pc' := 6) dX12_writeBook_5 rfl (by decide) ?_
  refine sn_istore_n (v := (0 : Int32)) (L' := [some (va_rf (some this)), some (.int a1), some (.int (0 : Int32)), none, none]) (pc' := 7) dX12_writeBook_6 rfl rfl rfl rfl ?_
  exact sn_weak (le_s (le_s (le_s (le_n (le_n le_e))))) (s_X12_writeBook_7 G LFU this a1 (0 : Int32))
theorem c_X12_writeBook (G : GG) (this : Nat) (a1 : Int32) : Cal G yX12_writeBook cX12_writeBook 5 none 7 157 (fun _ : Unit => none) (X12_writeBook this a1) [.ref this, .int a1] :=
  Cal.of (by decide) (cat_t (cat_i cat_nil)) rfl (sn_weak (le_s (le_s (le_z (le_z (le_z le_e))))) (s_X12_writeBook G this a1))
theorem cw_X12_writeBook : CW yX12_writeBook cX12_writeBook 5 none 1 := ⟨tw1629, tw15, by decide, by decide +kernel⟩
/-! X12_writeName -/
theorem dX12_writeName_0 : decode cX12_writeName 0 = .ok (.iload_n 1, 1) := by decide +kernel
theorem dX12_writeName_1 : decode cX12_writeName 1 = .ok (.sipush 400, 3) := by decide +kernel
theorem dX12_writeName_4 : decode cX12_writeName 4 = .ok (.imul, 1) := by decide +kernel
theorem dX12_writeName_5 : decode cX12_writeName 5 = .ok (.iload_n 2, 1) := by decide +kernel
theorem dX12_writeName_6 : decode cX12_writeName 6 = .ok (.iadd, 1) := by decide +kernel
theorem dX12_writeName_7 : decode cX12_writeName 7 = .ok (.istore_n 3, 1) := by decide +kernel
theorem dX12_writeName_8 : decode cX12_writeName 8 = .ok (.aload_n 0, 1) := by decide +kernel
theorem dX12_writeName_9 : decode cX12_writeName 9 = .ok (.aload_n 0, 1) := by decide +kernel
theorem dX12_writeName_10 : decode cX12_writeName 10 = .ok (.getfield 21, 3) := by decide +kernel
theorem dX12_writeName_13 : decode cX12_writeName 13 = .ok (.iload_n 1, 1) := by decide +kernel
theorem dX12_writeName_14 : decode cX12_writeName 14 = .ok (.bipush 71, 2) := by decide +kernel
theorem dX12_writeName_16 : decode cX12_writeName 16 = .ok (.imul, 1) := by decide +kernel
theorem dX12_writeName_17 : decode cX12_writeName 17 = .ok (.aload_n 0, 1) := by decide +kernel
theorem dX12_writeName_18 : decode cX12_writeName 18 = .ok (.getfield 37, 3) := by decide +kernel
theorem dX12_writeName_21 : decode cX12_writeName 21 = .ok (.iload_n 3, 1) := by decide +kernel
theorem dX12_writeName_22 : decode cX12_writeName 22 = .ok (.iaload, 1) := by decide +kernel
theorem dX12_writeName_23 : decode cX12_writeName 23 = .ok (.iadd, 1) := by decide +kernel
theorem dX12_writeName_24 : decode cX12_writeName 24 = .ok (.iaload, 1) := by decide +kernel
theorem dX12_writeName_25 : decode cX12_writeName 25 = .ok (.invokevirtual 218, 3) := by decide +kernel
theorem dX12_writeName_28 : decode cX12_writeName 28 = .ok (.aload_n 0, 1) := by decide +kernel
theorem dX12_writeName_29 : decode cX12_writeName 29 = .ok (.aload_n 0, 1) := by decide +kernel
theorem dX12_writeName_30 : decode cX12_writeName 30 = .ok (.getfield 40, 3) := by decide +kernel
theorem dX12_writeName_33 : decode cX12_writeName 33 = .ok (.iload_n 3, 1) := by decide +kernel
theorem dX12_writeName_34 : decode cX12_writeName 34 = .ok (.iaload, 1) := by decide +kernel
theorem dX12_writeName_35 : decode cX12_writeName 35 = .ok (.invokevirtual 221, 3) := by decide +kernel
theorem dX12_writeName_38 : decode cX12_writeName 38 = .ok (.aload_n 0, 1) := by decide +kernel
theorem dX12_writeName_39 : decode cX12_writeName 39 = .ok (.getfield 43, 3) := by decide +kernel
theorem dX12_writeName_42 : decode cX12_writeName 42 = .ok (.iload_n 3, 1) := by decide +kernel
theorem dX12_writeName_43 : decode cX12_writeName 43 = .ok (.iaload, 1) := by decide +kernel
theorem dX12_writeName_44 : decode cX12_writeName 44 = .ok (.ifCond .ne 4, 3) := by decide +kernel
theorem dX12_writeName_47 : decode cX12_writeName 47 = .ok (.return_, 1) := by decide +kernel
theorem dX12_writeName_48 : decode cX12_writeName 48 = .ok (.aload_n 0, 1) := by decide +kernel
theorem dX12_writeName_49 : decode cX12_writeName 49 = .ok (.bipush 43, 2) := by decide +kernel
theorem dX12_writeName_51 : decode cX12_writeName 51 = .ok (.invokevirtual 208, 3) := by decide +kernel
theorem dX12_writeName_54 : decode cX12_writeName 54 = .ok (.aload_n 0, 1) := by decide +kernel
theorem dX12_writeName_55 : decode cX12_writeName 55 = .ok (.aload_n 0, 1) := by decide +kernel
theorem dX12_writeName_56 : decode cX12_writeName 56 = .ok (.getfield 43, 3) := by decide +kernel
theorem dX12_writeName_59 : decode cX12_writeName 59 = .ok (.iload_n 3, 1) := by decide +kernel
theorem dX12_writeName_60 : decode cX12_writeName 60 = .ok (.iaload, 1) := by decide +kernel
theorem dX12_writeName_61 : decode cX12_writeName 61 = .ok (.invokevirtual 221, 3) := by decide +kernel
theorem dX12_writeName_64 : decode cX12_writeName 64 = .ok (.return_, 1) := by decide +kernel
def X12_writeName (this : Nat) (a1 : Int32) (a2 : Int32) : MM Unit :=
  mb (gR 13 (some this) 7) fun v1 =>
  mb (gR 13 (some this) 12) fun v2 =>
  mb (aI v2 ((a1 * (400 : Int32)) + a2)) fun v3 =>
  mb (aI v1 ((a1 * (71 : Int32)) + v3)) fun v4 =>
  mb (wc 13 (some this) fun t => X12_writeSign t v4) fun _ =>
  mb (gR 13 (some this) 13) fun v5 =>
  mb (aI v5 ((a1 * (400 : Int32)) + a2)) fun v6 =>
  mb (wc 13 (some this) fun t => X12_writeNumber t v6) fun _ =>
  mb (gR 13 (some this) 14) fun v7 =>
  mb (aI v7 ((a1 * (400 : Int32)) + a2)) fun v8 =>
  if v8 = 0 then (mr ()) else (mb (wc 13 (some this) fun t => X12_write t (43 : Int32)) fun _ =>
  mb (gR 13 (some this) 14) fun v9 =>
  mb (aI v9 ((a1 * (400 : Int32)) + a2)) fun v10 =>
  mb (wc 13 (some this) fun t => X12_writeNumber t v10) fun _ =>
  mr ())
set_option maxRecDepth 100000 in
set_option maxHeartbeats 4000000 in
theorem s_X12_writeName (G : GG) (this : Nat) (a1 : Int32) (a2 : Int32) : Sn G yX12_writeName cX12_writeName 4 none 6 129 (fun _ : Unit => none) (X12_writeName this a1 a2) 0 [some (va_rf (some this)), some (.int a1), some (.int a2), none] [] := by
  unfold X12_writeName
  refine sn_iload_n (v := a1) (pc' := 1) dX12_writeName_0 rfl rfl rfl ?_
  refine sn_sipush (v := (400 : Int32)) (pc' := 4) dX12_writeName_1 rfl (by decide) ?_
  refine sn_imul (pc' := 5) dX12_writeName_4 rfl ?_
  refine sn_iload_n (v := a2) (pc' := 6) dX12_writeName_5 rfl rfl rfl ?_
  refine sn_iadd (pc' := 7) dX12_writeName_6 rfl ?_
  refine sn_istore_n (v := ((a1 * (400 : Int32)) + a2)) (L' := [some (va_rf (some this)), some (.int a1), some (.int a2), some (.int ((a1 * (400 : Int32)) + a2))]) (pc' := 8) dX12_writeName_7 rfl rfl rfl rfl ?_
  refine sn_aload_n (v := (some this)) (pc' := 9) dX12_writeName_8 rfl rfl rfl ?_
  refine sn_aload_n (v := (some this)) (pc' := 10) dX12_writeName_9 rfl rfl rfl ?_
  refine sn_gR (k := 7) (pc' := 13) ci_13 rfl (Or.inl tw1285) dX12_writeName_10 rfl (fun v1 => ?_)
  refine sn_iload_n (v := a1) (pc' := 14) dX12_writeName_13 rfl rfl rfl ?_
  refine sn_bipush (v := (71 : Int32)) (pc' := 16) dX12_writeName_14 rfl (by decide) ?_
  refine sn_imul (pc' := 17) dX12_writeName_16 rfl ?_
  refine sn_aload_n (v := (some this)) (pc' := 18) dX12_writeName_17 rfl rfl rfl ?_
  refine sn_gR (k := 12) (pc' := 21) ci_13 rfl (Or.inl tw1290) dX12_writeName_18 rfl (fun v2 => ?_)
  refine sn_iload_n (v := ((a1 * (400 : Int32)) + a2)) (pc' := 22) dX12_writeName_21 rfl rfl rfl ?_
  refine sn_aI (pc' := 23) dX12_writeName_22 rfl (fun v3 => ?_)
  refine sn_iadd (pc' := 24) dX12_writeName_23 rfl ?_
  refine sn_aI (pc' := 25) dX12_writeName_24 rfl (fun v4 => ?_)
  refine sn_cV (r := (some this)) (st := []) (As := [.int v4]) (st2 := (fun _ => [])) (pc' := 28) ci_13 (fun t => c_X12_writeSign G t v4) cw_X12_writeSign rfl rfl tw1637 pw78 tw1639 rfl rfl cat_nil rfl (fun _ => rfl) dX12_writeName_25 rfl (fun _ => ?_)
  refine sn_aload_n (v := (some this)) (pc' := 29) dX12_writeName_28 rfl rfl rfl ?_
  refine sn_aload_n (v := (some this)) (pc' := 30) dX12_writeName_29 rfl rfl rfl ?_
  refine sn_gR (k := 13) (pc' := 33) ci_13 rfl (Or.inl tw1291) dX12_writeName_30 rfl (fun v5 => ?_)
  refine sn_iload_n (v := ((a1 * (400 : Int32)) + a2)) (pc' := 34) dX12_writeName_33 rfl rfl rfl ?_
  refine sn_aI (pc' := 35) dX12_writeName_34 rfl (fun v6 => ?_)
  refine sn_cV (r := (some this)) (st := []) (As := [.int v6]) (st2 := (fun _ => [])) (pc' := 38) ci_13 (fun t => c_X12_writeNumber G t v6) cw_X12_writeNumber rfl rfl tw1645 pw80 tw1647 rfl rfl cat_nil rfl (fun _ => rfl) dX12_writeName_35 rfl (fun _ => ?_)
  refine sn_aload_n (v := (some this)) (pc' := 39) dX12_writeName_38 rfl rfl rfl ?_
  refine sn_gR (k := 14) (pc' := 42) ci_13 rfl (Or.inl tw1292) dX12_writeName_39 rfl (fun v7 => ?_)
  refine sn_iload_n (v := ((a1 * (400 : Int32)) + a2)) (pc' := 43) dX12_writeName_42 rfl rfl rfl ?_
  refine sn_aI (pc' := 44) dX12_writeName_43 rfl (fun v8 => ?_)
  refine sn_if_ne (pt := 48) (pf := 47) dX12_writeName_44 rfl rfl ?_ ?_
  · exact sn_vret dX12_writeName_47 rfl
  · refine sn_aload_n (v := (some this)) (pc' := 49) dX12_writeName_48 rfl rfl rfl ?_
    refine sn_bipush (v := (43 : Int32)) (pc' := 51) dX12_writeName_49 rfl (by decide) ?_
    refine sn_cV (r := (some this)) (st := []) (As := [.int (43 : Int32)]) (st2 := (fun _ => [])) (pc' := 54) ci_13 (fun t => c_X12_write G t (43 : Int32)) cw_X12_write rfl rfl tw1633 pw77 tw1635 rfl rfl cat_nil rfl (fun _ => rfl) dX12_writeName_51 rfl (fun _ => ?_)
    refine sn_aload_n (v := (some this)) (pc' := 55) dX12_writeName_54 rfl rfl rfl ?_
    refine sn_aload_n (v := (some this)) (pc' := 56) dX12_writeName_55 rfl rfl rfl ?_
    refine sn_gR (k := 14) (pc' := 59) ci_13 rfl (Or.inl tw1292) dX12_writeName_56 rfl (fun v9 => ?_)
    refine sn_iload_n (v := ((a1 * (400 : Int32)) + a2)) (pc' := 60) dX12_writeName_59 rfl rfl rfl ?_
    refine sn_aI (pc' := 61) dX12_writeName_60 rfl (fun v10 => ?_)
    refine sn_cV (r := (some this)) (st := []) (As := [.int v10]) (st2 := (fun _ => [])) (pc' := 64) ci_13 (fun t => c_X12_writeNumber G t v10) cw_X12_writeNumber rfl rfl tw1645 pw80 tw1647 rfl rfl cat_nil rfl (fun _ => rfl) dX12_writeName_61 rfl (fun _ => ?_)
    exact sn_vret dX12_writeName_64 rfl
theorem c_X12_writeName (G : GG) (this : Nat) (a1 : Int32) (a2 : Int32) : Cal G yX12_writeName cX12_writeName 4 none 6 129 (fun _ : Unit => none) (X12_writeName this a1 a2) [.ref this, .int a1, .int a2] :=
  Cal.of (by decide) (cat_t (cat_i (cat_i cat_nil))) rfl (sn_weak (le_s (le_s (le_s (le_z le_e)))) (s_X12_writeName G this a1 a2))
theorem cw_X12_writeName : CW yX12_writeName cX12_writeName 4 none 2 := ⟨tw1664, tw15, by decide, by decide +kernel⟩
/-! X12_tell -/
theorem dX12_tell_0 : decode cX12_tell 0 = .ok (.iload_n 1, 1) := by decide +kernel
theorem dX12_tell_1 : decode cX12_tell 1 = .ok (.iconst 0, 1) := by decide +kernel
theorem dX12_tell_2 : decode cX12_tell 2 = .ok (.aload_n 0, 1) := by decide +kernel
theorem dX12_tell_3 : decode cX12_tell 3 = .ok (.getfield 205, 3) := by decide +kernel
theorem dX12_tell_6 : decode cX12_tell 6 = .ok (.iconst 1, 1) := by decide +kernel
theorem dX12_tell_7 : decode cX12_tell 7 = .ok (.isub, 1) := by decide +kernel
theorem dX12_tell_8 : decode cX12_tell 8 = .ok (.invokestatic 10, 3) := by decide +kernel
theorem dX12_tell_11 : decode cX12_tell 11 = .ok (.ifCond .eq 16, 3) := by decide +kernel
theorem dX12_tell_14 : decode cX12_tell 14 = .ok (.aload_n 0, 1) := by decide +kernel
theorem dX12_tell_15 : decode cX12_tell 15 = .ok (.aload_n 0, 1) := by decide +kernel
theorem dX12_tell_16 : decode cX12_tell 16 = .ok (.getfield 202, 3) := by decide +kernel
theorem dX12_tell_19 : decode cX12_tell 19 = .ok (.iload_n 1, 1) := by decide +kernel
theorem dX12_tell_20 : decode cX12_tell 20 = .ok (.iaload, 1) := by decide +kernel
theorem dX12_tell_21 : decode cX12_tell 21 = .ok (.invokevirtual 199, 3) := by decide +kernel
theorem dX12_tell_24 : decode cX12_tell 24 = .ok (.goto 8, 3) := by decide +kernel
theorem dX12_tell_27 : decode cX12_tell 27 = .ok (.aload_n 0, 1) := by decide +kernel
theorem dX12_tell_28 : decode cX12_tell 28 = .ok (.iconst 1, 1) := by decide +kernel
theorem dX12_tell_29 : decode cX12_tell 29 = .ok (.invokevirtual 193, 3) := by decide +kernel
theorem dX12_tell_32 : decode cX12_tell 32 = .ok (.ireturn, 1) := by decide +kernel
def X12_tell (this : Nat) (a1 : Int32) : MM Int32 :=
  mb (gI 13 (some this) 37) fun v1 =>
  mb (X12_isIn a1 (0 : Int32) (v1 - (1 : Int32))) fun v2 =>
  if v2 = 0 then (mb (wc 13 (some this) fun t => X12_no t (1 : Int32)) fun v3 =>
  mr v3) else (mb (gR 13 (some this) 36) fun v4 =>
  mb (aI v4 a1) fun v5 =>
  mb (wc 13 (some this) fun t => X12_fine t v5) fun v6 =>
  mr v6)
set_option maxRecDepth 100000 in
set_option maxHeartbeats 4000000 in
theorem s_X12_tell (G : GG) (this : Nat) (a1 : Int32) : Sn G yX12_tell cX12_tell 2 (some FieldType.int) 1 22 (fun v : Int32 => some (.int v)) (X12_tell this a1) 0 [some (va_rf (some this)), some (.int a1)] [] := by
  unfold X12_tell
  refine sn_iload_n (v := a1) (pc' := 1) dX12_tell_0 rfl rfl rfl ?_
  refine sn_iconst (v := (0 : Int32)) (pc' := 2) dX12_tell_1 rfl (by decide) ?_
  refine sn_aload_n (v := (some this)) (pc' := 3) dX12_tell_2 rfl rfl rfl ?_
  refine sn_gI (k := 37) (pc' := 6) ci_13 rfl (Or.inl tw1315) dX12_tell_3 rfl (fun v1 => ?_)
  refine sn_iconst (v := (1 : Int32)) (pc' := 7) dX12_tell_6 rfl (by decide) ?_
  refine sn_isub (pc' := 8) dX12_tell_7 rfl ?_
  refine sn_cS (st := []) (As := [.int a1, .int (0 : Int32), .int (v1 - (1 : Int32))]) (st2 := (fun v => .int v :: [])) (pc' := 11) (c_X12_isIn G a1 (0 : Int32) (v1 - (1 : Int32))) cw_X12_isIn rfl rfl tw1443 tw1444 rfl rfl cat_nil rfl (fun _ => rfl) dX12_tell_8 rfl (fun v2 => ?_)
  refine sn_if_eq (pt := 27) (pf := 14) dX12_tell_11 rfl rfl ?_ ?_
  · refine sn_aload_n (v := (some this)) (pc' := 28) dX12_tell_27 rfl rfl rfl ?_
    refine sn_iconst (v := (1 : Int32)) (pc' := 29) dX12_tell_28 rfl (by decide) ?_
    refine sn_cV (r := (some this)) (st := []) (As := [.int (1 : Int32)]) (st2 := (fun v => .int v :: [])) (pc' := 32) ci_13 (fun t => c_X12_no G t (1 : Int32)) cw_X12_no rfl rfl tw1431 pw44 tw1433 rfl rfl cat_nil rfl (fun _ => rfl) dX12_tell_29 rfl (fun v3 => ?_)
    exact sn_iret dX12_tell_32 rfl rfl
  · refine sn_aload_n (v := (some this)) (pc' := 15) dX12_tell_14 rfl rfl rfl ?_
    refine sn_aload_n (v := (some this)) (pc' := 16) dX12_tell_15 rfl rfl rfl ?_
    refine sn_gR (k := 36) (pc' := 19) ci_13 rfl (Or.inl tw1314) dX12_tell_16 rfl (fun v4 => ?_)
    refine sn_iload_n (v := a1) (pc' := 20) dX12_tell_19 rfl rfl rfl ?_
    refine sn_aI (pc' := 21) dX12_tell_20 rfl (fun v5 => ?_)
    refine sn_cV (r := (some this)) (st := []) (As := [.int v5]) (st2 := (fun v => .int v :: [])) (pc' := 24) ci_13 (fun t => c_X12_fine G t v5) cw_X12_fine rfl rfl tw1435 pw45 tw1437 rfl rfl cat_nil rfl (fun _ => rfl) dX12_tell_21 rfl (fun v6 => ?_)
    refine sn_goto (pc' := 32) dX12_tell_24 rfl ?_
    exact sn_iret dX12_tell_32 rfl rfl
theorem c_X12_tell (G : GG) (this : Nat) (a1 : Int32) : Cal G yX12_tell cX12_tell 2 (some FieldType.int) 1 22 (fun v : Int32 => some (.int v)) (X12_tell this a1) [.ref this, .int a1] :=
  Cal.of (by decide) (cat_t (cat_i cat_nil)) rfl (sn_weak (le_s (le_s le_e)) (s_X12_tell G this a1))
theorem cw_X12_tell : CW yX12_tell cX12_tell 2 (some FieldType.int) 1 := ⟨tw1656, tw15, by decide, by decide +kernel⟩
/-! X12_isFormat -/
theorem dX12_isFormat_0 : decode cX12_isFormat 0 = .ok (.iload_n 0, 1) := by decide +kernel
theorem dX12_isFormat_1 : decode cX12_isFormat 1 = .ok (.iconst 2, 1) := by decide +kernel
theorem dX12_isFormat_2 : decode cX12_isFormat 2 = .ok (.if_icmp .eq 14, 3) := by decide +kernel
theorem dX12_isFormat_5 : decode cX12_isFormat 5 = .ok (.iload_n 0, 1) := by decide +kernel
theorem dX12_isFormat_6 : decode cX12_isFormat 6 = .ok (.iconst 4, 1) := by decide +kernel
theorem dX12_isFormat_7 : decode cX12_isFormat 7 = .ok (.if_icmp .eq 9, 3) := by decide +kernel
theorem dX12_isFormat_10 : decode cX12_isFormat 10 = .ok (.iload_n 0, 1) := by decide +kernel
theorem dX12_isFormat_11 : decode cX12_isFormat 11 = .ok (.bipush 8, 2) := by decide +kernel
theorem dX12_isFormat_13 : decode cX12_isFormat 13 = .ok (.if_icmp .ne 7, 3) := by decide +kernel
theorem dX12_isFormat_16 : decode cX12_isFormat 16 = .ok (.iconst 1, 1) := by decide +kernel
theorem dX12_isFormat_17 : decode cX12_isFormat 17 = .ok (.goto 4, 3) := by decide +kernel
theorem dX12_isFormat_20 : decode cX12_isFormat 20 = .ok (.iconst 0, 1) := by decide +kernel
theorem dX12_isFormat_21 : decode cX12_isFormat 21 = .ok (.ireturn, 1) := by decide +kernel
def X12_isFormat (a0 : Int32) : MM Int32 :=
  if a0 = (2 : Int32) then (mr (1 : Int32)) else (if a0 = (4 : Int32) then (mr (1 : Int32)) else (if a0 = (8 : Int32) then (mr (1 : Int32)) else (mr (0 : Int32))))
set_option maxRecDepth 100000 in
set_option maxHeartbeats 4000000 in
theorem s_X12_isFormat (G : GG) (a0 : Int32) : Sn G yX12_isFormat cX12_isFormat 1 (some FieldType.boolean) 0 0 (fun v : Int32 => some (.int v)) (X12_isFormat a0) 0 [some (.int a0)] [] := by
  unfold X12_isFormat
  refine sn_iload_n (v := a0) (pc' := 1) dX12_isFormat_0 rfl rfl rfl ?_
  refine sn_iconst (v := (2 : Int32)) (pc' := 2) dX12_isFormat_1 rfl (by decide) ?_
  refine sn_ic_eq (pt := 16) (pf := 5) dX12_isFormat_2 rfl rfl ?_ ?_
  · refine sn_iconst (v := (1 : Int32)) (pc' := 17) dX12_isFormat_16 rfl (by decide) ?_
    refine sn_goto (pc' := 21) dX12_isFormat_17 rfl ?_
    exact sn_iret dX12_isFormat_21 rfl (by decide)
  · refine sn_iload_n (v := a0) (pc' := 6) dX12_isFormat_5 rfl rfl rfl ?_
    refine sn_iconst (v := (4 : Int32)) (pc' := 7) dX12_isFormat_6 rfl (by decide) ?_
    refine sn_ic_eq (pt := 16) (pf := 10) dX12_isFormat_7 rfl rfl ?_ ?_
    · refine sn_iconst (v := (1 : Int32)) (pc' := 17) dX12_isFormat_16 rfl (by decide) ?_
      refine sn_goto (pc' := 21) dX12_isFormat_17 rfl ?_
      exact sn_iret dX12_isFormat_21 rfl (by decide)
    · refine sn_iload_n (v := a0) (pc' := 11) dX12_isFormat_10 rfl rfl rfl ?_
      refine sn_bipush (v := (8 : Int32)) (pc' := 13) dX12_isFormat_11 rfl (by decide) ?_
      refine sn_ic_ne (pt := 20) (pf := 16) dX12_isFormat_13 rfl rfl ?_ ?_
      · refine sn_iconst (v := (1 : Int32)) (pc' := 17) dX12_isFormat_16 rfl (by decide) ?_
        refine sn_goto (pc' := 21) dX12_isFormat_17 rfl ?_
        exact sn_iret dX12_isFormat_21 rfl (by decide)
      · refine sn_iconst (v := (0 : Int32)) (pc' := 21) dX12_isFormat_20 rfl (by decide) ?_
        exact sn_iret dX12_isFormat_21 rfl (by decide)
theorem c_X12_isFormat (G : GG) (a0 : Int32) : Cal G yX12_isFormat cX12_isFormat 1 (some FieldType.boolean) 0 0 (fun v : Int32 => some (.int v)) (X12_isFormat a0) [.int a0] :=
  Cal.of (by decide) (cat_i cat_nil) rfl (sn_weak (le_s le_e) (s_X12_isFormat G a0))
theorem cw_X12_isFormat : CW yX12_isFormat cX12_isFormat 1 (some FieldType.boolean) 1 := ⟨tw1675, tw15, by decide, by decide +kernel⟩
/-! X12_sheetOf -/
theorem dX12_sheetOf_0 : decode cX12_sheetOf 0 = .ok (.iload_n 1, 1) := by decide +kernel
theorem dX12_sheetOf_1 : decode cX12_sheetOf 1 = .ok (.iconst 1, 1) := by decide +kernel
theorem dX12_sheetOf_2 : decode cX12_sheetOf 2 = .ok (.isub, 1) := by decide +kernel
theorem dX12_sheetOf_3 : decode cX12_sheetOf 3 = .ok (.iload_n 0, 1) := by decide +kernel
theorem dX12_sheetOf_4 : decode cX12_sheetOf 4 = .ok (.iload_n 1, 1) := by decide +kernel
theorem dX12_sheetOf_5 : decode cX12_sheetOf 5 = .ok (.isub, 1) := by decide +kernel
theorem dX12_sheetOf_6 : decode cX12_sheetOf 6 = .ok (.invokestatic 228, 3) := by decide +kernel
theorem dX12_sheetOf_9 : decode cX12_sheetOf 9 = .ok (.iload_n 2, 1) := by decide +kernel
theorem dX12_sheetOf_10 : decode cX12_sheetOf 10 = .ok (.iconst 2, 1) := by decide +kernel
theorem dX12_sheetOf_11 : decode cX12_sheetOf 11 = .ok (.idiv, 1) := by decide +kernel
theorem dX12_sheetOf_12 : decode cX12_sheetOf 12 = .ok (.idiv, 1) := by decide +kernel
theorem dX12_sheetOf_13 : decode cX12_sheetOf 13 = .ok (.ireturn, 1) := by decide +kernel
def X12_sheetOf (a0 : Int32) (a1 : Int32) (a2 : Int32) : MM Int32 :=
  mb (dI a2 (2 : Int32)) fun v1 =>
  mb (dI (if (a0 - a1) < (a1 - (1 : Int32)) then (a0 - a1) else (a1 - (1 : Int32))) v1) fun v2 =>
  mr v2
set_option maxRecDepth 100000 in
set_option maxHeartbeats 4000000 in
theorem s_X12_sheetOf (G : GG) (a0 : Int32) (a1 : Int32) (a2 : Int32) : Sn G yX12_sheetOf cX12_sheetOf 3 (some FieldType.int) 1 13 (fun v : Int32 => some (.int v)) (X12_sheetOf a0 a1 a2) 0 [some (.int a0), some (.int a1), some (.int a2)] [] := by
  unfold X12_sheetOf
  refine sn_iload_n (v := a1) (pc' := 1) dX12_sheetOf_0 rfl rfl rfl ?_
  refine sn_iconst (v := (1 : Int32)) (pc' := 2) dX12_sheetOf_1 rfl (by decide) ?_
  refine sn_isub (pc' := 3) dX12_sheetOf_2 rfl ?_
  refine sn_iload_n (v := a0) (pc' := 4) dX12_sheetOf_3 rfl rfl rfl ?_
  refine sn_iload_n (v := a1) (pc' := 5) dX12_sheetOf_4 rfl rfl rfl ?_
  refine sn_isub (pc' := 6) dX12_sheetOf_5 rfl ?_
  refine sn_min (pc' := 9) rfl tw1682 tw423 tw4 tw424 cat_nil rfl dX12_sheetOf_6 rfl ?_
  refine sn_iload_n (v := a2) (pc' := 10) dX12_sheetOf_9 rfl rfl rfl ?_
  refine sn_iconst (v := (2 : Int32)) (pc' := 11) dX12_sheetOf_10 rfl (by decide) ?_
  refine sn_dI (pc' := 12) dX12_sheetOf_11 rfl (fun v1 => ?_)
  refine sn_dI (pc' := 13) dX12_sheetOf_12 rfl (fun v2 => ?_)
  exact sn_iret dX12_sheetOf_13 rfl rfl
theorem c_X12_sheetOf (G : GG) (a0 : Int32) (a1 : Int32) (a2 : Int32) : Cal G yX12_sheetOf cX12_sheetOf 3 (some FieldType.int) 1 13 (fun v : Int32 => some (.int v)) (X12_sheetOf a0 a1 a2) [.int a0, .int a1, .int a2] :=
  Cal.of (by decide) (cat_i (cat_i (cat_i cat_nil))) rfl (sn_weak (le_s (le_s (le_s le_e))) (s_X12_sheetOf G a0 a1 a2))
theorem cw_X12_sheetOf : CW yX12_sheetOf cX12_sheetOf 3 (some FieldType.int) 3 := ⟨tw1681, tw15, by decide, by decide +kernel⟩
/-! X12_sheetsOf -/
theorem dX12_sheetsOf_0 : decode cX12_sheetsOf 0 = .ok (.iload_n 0, 1) := by decide +kernel
theorem dX12_sheetsOf_1 : decode cX12_sheetsOf 1 = .ok (.iload_n 0, 1) := by decide +kernel
theorem dX12_sheetsOf_2 : decode cX12_sheetsOf 2 = .ok (.iconst 1, 1) := by decide +kernel
theorem dX12_sheetsOf_3 : decode cX12_sheetsOf 3 = .ok (.iadd, 1) := by decide +kernel
theorem dX12_sheetsOf_4 : decode cX12_sheetsOf 4 = .ok (.iconst 2, 1) := by decide +kernel
theorem dX12_sheetsOf_5 : decode cX12_sheetsOf 5 = .ok (.idiv, 1) := by decide +kernel
theorem dX12_sheetsOf_6 : decode cX12_sheetsOf 6 = .ok (.iload_n 1, 1) := by decide +kernel
theorem dX12_sheetsOf_7 : decode cX12_sheetsOf 7 = .ok (.invokestatic 233, 3) := by decide +kernel
theorem dX12_sheetsOf_10 : decode cX12_sheetsOf 10 = .ok (.iconst 1, 1) := by decide +kernel
theorem dX12_sheetsOf_11 : decode cX12_sheetsOf 11 = .ok (.iadd, 1) := by decide +kernel
theorem dX12_sheetsOf_12 : decode cX12_sheetsOf 12 = .ok (.ireturn, 1) := by decide +kernel
def X12_sheetsOf (a0 : Int32) (a1 : Int32) : MM Int32 :=
  mb (dI (a0 + (1 : Int32)) (2 : Int32)) fun v1 =>
  mb (X12_sheetOf a0 v1 a1) fun v2 =>
  mr (v2 + (1 : Int32))
set_option maxRecDepth 100000 in
set_option maxHeartbeats 4000000 in
theorem s_X12_sheetsOf (G : GG) (a0 : Int32) (a1 : Int32) : Sn G yX12_sheetsOf cX12_sheetsOf 2 (some FieldType.int) 2 35 (fun v : Int32 => some (.int v)) (X12_sheetsOf a0 a1) 0 [some (.int a0), some (.int a1)] [] := by
  unfold X12_sheetsOf
  refine sn_iload_n (v := a0) (pc' := 1) dX12_sheetsOf_0 rfl rfl rfl ?_
  refine sn_iload_n (v := a0) (pc' := 2) dX12_sheetsOf_1 rfl rfl rfl ?_
  refine sn_iconst (v := (1 : Int32)) (pc' := 3) dX12_sheetsOf_2 rfl (by decide) ?_
  refine sn_iadd (pc' := 4) dX12_sheetsOf_3 rfl ?_
  refine sn_iconst (v := (2 : Int32)) (pc' := 5) dX12_sheetsOf_4 rfl (by decide) ?_
  refine sn_dI (pc' := 6) dX12_sheetsOf_5 rfl (fun v1 => ?_)
  refine sn_iload_n (v := a1) (pc' := 7) dX12_sheetsOf_6 rfl rfl rfl ?_
  refine sn_cS (st := []) (As := [.int a0, .int v1, .int a1]) (st2 := (fun v => .int v :: [])) (pc' := 10) (c_X12_sheetOf G a0 v1 a1) cw_X12_sheetOf rfl rfl tw1679 tw1680 rfl rfl cat_nil rfl (fun _ => rfl) dX12_sheetsOf_7 rfl (fun v2 => ?_)
  refine sn_iconst (v := (1 : Int32)) (pc' := 11) dX12_sheetsOf_10 rfl (by decide) ?_
  refine sn_iadd (pc' := 12) dX12_sheetsOf_11 rfl ?_
  exact sn_iret dX12_sheetsOf_12 rfl rfl
theorem c_X12_sheetsOf (G : GG) (a0 : Int32) (a1 : Int32) : Cal G yX12_sheetsOf cX12_sheetsOf 2 (some FieldType.int) 2 35 (fun v : Int32 => some (.int v)) (X12_sheetsOf a0 a1) [.int a0, .int a1] :=
  Cal.of (by decide) (cat_i (cat_i cat_nil)) rfl (sn_weak (le_s (le_s le_e)) (s_X12_sheetsOf G a0 a1))
theorem cw_X12_sheetsOf : CW yX12_sheetsOf cX12_sheetsOf 2 (some FieldType.int) 2 := ⟨tw1678, tw15, by decide, by decide +kernel⟩
/-! X12_numberOn -/
theorem dX12_numberOn_0 : decode cX12_numberOn 0 = .ok (.iconst 0, 1) := by decide +kernel
theorem dX12_numberOn_1 : decode cX12_numberOn 1 = .ok (.istore_n 3, 1) := by decide +kernel
theorem dX12_numberOn_2 : decode cX12_numberOn 2 = .ok (.iconst 1, 1) := by decide +kernel
theorem dX12_numberOn_3 : decode cX12_numberOn 3 = .ok (.istore 4, 2) := by decide +kernel
theorem dX12_numberOn_5 : decode cX12_numberOn 5 = .ok (.iload 4, 2) := by decide +kernel
theorem dX12_numberOn_7 : decode cX12_numberOn 7 = .ok (.iload_n 1, 1) := by decide +kernel
theorem dX12_numberOn_8 : decode cX12_numberOn 8 = .ok (.if_icmp .gt 33, 3) := by decide +kernel
theorem dX12_numberOn_11 : decode cX12_numberOn 11 = .ok (.iload_n 3, 1) := by decide +kernel
theorem dX12_numberOn_12 : decode cX12_numberOn 12 = .ok (.iload_n 0, 1) := by decide +kernel
theorem dX12_numberOn_13 : decode cX12_numberOn 13 = .ok (.iload 4, 2) := by decide +kernel
theorem dX12_numberOn_15 : decode cX12_numberOn 15 = .ok (.iload_n 2, 1) := by decide +kernel
theorem dX12_numberOn_16 : decode cX12_numberOn 16 = .ok (.invokestatic 233, 3) := by decide +kernel
theorem dX12_numberOn_19 : decode cX12_numberOn 19 = .ok (.iload_n 0, 1) := by decide +kernel
theorem dX12_numberOn_20 : decode cX12_numberOn 20 = .ok (.iload_n 1, 1) := by decide +kernel
theorem dX12_numberOn_21 : decode cX12_numberOn 21 = .ok (.iload_n 2, 1) := by decide +kernel
theorem dX12_numberOn_22 : decode cX12_numberOn 22 = .ok (.invokestatic 233, 3) := by decide +kernel
theorem dX12_numberOn_25 : decode cX12_numberOn 25 = .ok (.if_icmp .ne 7, 3) := by decide +kernel
theorem dX12_numberOn_28 : decode cX12_numberOn 28 = .ok (.iconst 1, 1) := by decide +kernel
theorem dX12_numberOn_29 : decode cX12_numberOn 29 = .ok (.goto 4, 3) := by decide +kernel
theorem dX12_numberOn_32 : decode cX12_numberOn 32 = .ok (.iconst 0, 1) := by decide +kernel
theorem dX12_numberOn_33 : decode cX12_numberOn 33 = .ok (.iadd, 1) := by decide +kernel
theorem dX12_numberOn_34 : decode cX12_numberOn 34 = .ok (.istore_n 3, 1) := by decide +kernel
theorem dX12_numberOn_35 : decode cX12_numberOn 35 = .ok (.iinc 4 1, 3) := by decide +kernel
theorem dX12_numberOn_38 : decode cX12_numberOn 38 = .ok (.goto (-33), 3) := by decide +kernel
theorem dX12_numberOn_41 : decode cX12_numberOn 41 = .ok (.iload_n 3, 1) := by decide +kernel
theorem dX12_numberOn_42 : decode cX12_numberOn 42 = .ok (.ireturn, 1) := by decide +kernel
def X12_numberOn_33 (k5 : Int32 → Int32 → Int32 → Int32 → Int32 → MM Int32) (x0 : Int32) (x1 : Int32) (x2 : Int32) (x4 : Int32) (y0 : Int32) (y1 : Int32) : MM Int32 :=
  (k5 x0 x1 x2 (y1 + y0) (x4 + (1 : Int32)))
def X12_numberOn_5_st  (k5 : Int32 → Int32 → Int32 → Int32 → Int32 → MM Int32) (x0 : Int32) (x1 : Int32) (x2 : Int32) (x3 : Int32) (x4 : Int32) : MM Int32 :=
  if x1 < x4 then (mr x3) else (mb (X12_sheetOf x0 x4 x2) fun v1 =>
  mb (X12_sheetOf x0 x1 x2) fun v2 =>
  if v1 = v2 then ((X12_numberOn_33 k5 x0 x1 x2 x4 (1 : Int32) x3)) else ((X12_numberOn_33 k5 x0 x1 x2 x4 (0 : Int32) x3)))
def X12_numberOn_5  : Nat → Int32 → Int32 → Int32 → Int32 → Int32 → MM Int32
  | 0 => fun _ _ _ _ _ => mf
  | n + 1 => fun x0 x1 x2 x3 x4 => X12_numberOn_5_st  (X12_numberOn_5  n) x0 x1 x2 x3 x4
def X12_numberOn (a0 : Int32) (a1 : Int32) (a2 : Int32) : MM Int32 :=
  (X12_numberOn_5 LFU a0 a1 a2 (0 : Int32) (1 : Int32))
set_option maxRecDepth 100000 in
set_option maxHeartbeats 4000000 in
theorem s_X12_numberOn_33 (G : GG) (k5 : Int32 → Int32 → Int32 → Int32 → Int32 → MM Int32) (hk5 : ∀ (x0 : Int32) (x1 : Int32) (x2 : Int32) (x3 : Int32) (x4 : Int32), Sn G yX12_numberOn cX12_numberOn 5 (some FieldType.int) 2 35 (fun v : Int32 => some (.int v)) (k5 x0 x1 x2 x3 x4) 5 [some (.int x0), some (.int x1), some (.int x2), some (.int x3), some (.int x4)] []) (x0 : Int32) (x1 : Int32) (x2 : Int32) (x4 : Int32) (y0 : Int32) (y1 : Int32) : Sn G yX12_numberOn cX12_numberOn 5 (some FieldType.int) 2 35 (fun v : Int32 => some (.int v)) (X12_numberOn_33 k5 x0 x1 x2 x4 y0 y1) 33 [some (.int x0), some (.int x1), some (.int x2), none, some (.int x4)] [.int y0, .int y1] := by
  unfold X12_numberOn_33
  refine sn_iadd (pc' := 34) dX12_numberOn_33 rfl ?_
  refine sn_istore_n (v := (y1 + y0)) (L' := [some (.int x0), some (.int x1), some (.int x2), some (.int (y1 + y0)), some (.int x4)]) (pc' := 35) dX12_numberOn_34 rfl rfl rfl rfl ?_
  refine sn_iinc (v := x4) (w := 1) (L' := [some (.int x0), some (.int x1), some (.int x2), some (.int (y1 + y0)), some (.int (x4 + (1 : Int32)))]) (pc' := 38) dX12_numberOn_35 rfl rfl rfl (by decide) rfl ?_
  refine sn_goto (pc' := 5) dX12_numberOn_38 rfl ?_
  exact sn_weak (le_s (le_s (le_s (le_s (le_s le_e))))) (hk5 x0 x1 x2 (y1 + y0) (x4 + (1 : Int32)))
set_option maxRecDepth 100000 in
set_option maxHeartbeats 4000000 in
theorem s_X12_numberOn_5_st (G : GG)   (k5 : Int32 → Int32 → Int32 → Int32 → Int32 → MM Int32) (hk5 : ∀ (x0 : Int32) (x1 : Int32) (x2 : Int32) (x3 : Int32) (x4 : Int32), Sn G yX12_numberOn cX12_numberOn 5 (some FieldType.int) 2 35 (fun v : Int32 => some (.int v)) (k5 x0 x1 x2 x3 x4) 5 [some (.int x0), some (.int x1), some (.int x2), some (.int x3), some (.int x4)] []) (x0 : Int32) (x1 : Int32) (x2 : Int32) (x3 : Int32) (x4 : Int32) : Sn G yX12_numberOn cX12_numberOn 5 (some FieldType.int) 2 35 (fun v : Int32 => some (.int v)) (X12_numberOn_5_st  k5 x0 x1 x2 x3 x4) 5 [some (.int x0), some (.int x1), some (.int x2), some (.int x3), some (.int x4)] [] := by
  unfold X12_numberOn_5_st
  refine sn_iload (v := x4) (pc' := 7) dX12_numberOn_5 rfl rfl ?_
  refine sn_iload_n (v := x1) (pc' := 8) dX12_numberOn_7 rfl rfl rfl ?_
  refine sn_ic_gt (pt := 41) (pf := 11) dX12_numberOn_8 rfl rfl ?_ ?_
  · refine sn_iload_n (v := x3) (pc' := 42) dX12_numberOn_41 rfl rfl rfl ?_
    exact sn_iret dX12_numberOn_42 rfl rfl
  · refine sn_iload_n (v := x3) (pc' := 12) dX12_numberOn_11 rfl rfl rfl ?_
    refine sn_iload_n (v := x0) (pc' := 13) dX12_numberOn_12 rfl rfl rfl ?_
    refine sn_iload (v := x4) (pc' := 15) dX12_numberOn_13 rfl rfl ?_
    refine sn_iload_n (v := x2) (pc' := 16) dX12_numberOn_15 rfl rfl rfl ?_
    refine sn_cS (st := [.int x3]) (As := [.int x0, .int x4, .int x2]) (st2 := (fun v => .int v :: [.int x3])) (pc' := 19) (c_X12_sheetOf G x0 x4 x2) cw_X12_sheetOf rfl rfl tw1679 tw1680 rfl rfl (cat_i cat_nil) rfl (fun _ => rfl) dX12_numberOn_16 rfl (fun v1 => ?_)
    refine sn_iload_n (v := x0) (pc' := 20) dX12_numberOn_19 rfl rfl rfl ?_
    refine sn_iload_n (v := x1) (pc' := 21) dX12_numberOn_20 rfl rfl rfl ?_
    refine sn_iload_n (v := x2) (pc' := 22) dX12_numberOn_21 rfl rfl rfl ?_
    refine sn_cS (st := [.int v1, .int x3]) (As := [.int x0, .int x1, .int x2]) (st2 := (fun v => .int v :: [.int v1, .int x3])) (pc' := 25) (c_X12_sheetOf G x0 x1 x2) cw_X12_sheetOf rfl rfl tw1679 tw1680 rfl rfl (cat_i (cat_i cat_nil)) rfl (fun _ => rfl) dX12_numberOn_22 rfl (fun v2 => ?_)
    refine sn_ic_ne (pt := 32) (pf := 28) dX12_numberOn_25 rfl rfl ?_ ?_
    · refine sn_iconst (v := (1 : Int32)) (pc' := 29) dX12_numberOn_28 rfl (by decide) ?_
      refine sn_goto (pc' := 33) dX12_numberOn_29 rfl ?_
      exact sn_weak (le_s (le_s (le_s (le_n (le_s le_e))))) (s_X12_numberOn_33 G k5 hk5 x0 x1 x2 x4 (1 : Int32) x3)
    · refine sn_iconst (v := (0 : Int32)) (pc' := 33) dX12_numberOn_32 rfl (by decide) ?_
      exact sn_weak (le_s (le_s (le_s (le_n (le_s le_e))))) (s_X12_numberOn_33 G k5 hk5 x0 x1 x2 x4 (0 : Int32) x3)
set_option maxRecDepth 100000 in
set_option maxHeartbeats 4000000 in
theorem s_X12_numberOn_5 (G : GG)   : ∀ (n : Nat) (x0 : Int32) (x1 : Int32) (x2 : Int32) (x3 : Int32) (x4 : Int32), Sn G yX12_numberOn cX12_numberOn 5 (some FieldType.int) 2 35 (fun v : Int32 => some (.int v)) (X12_numberOn_5  n x0 x1 x2 x3 x4) 5 [some (.int x0), some (.int x1), some (.int x2), some (.int x3), some (.int x4)] [] := by
  intro n
  induction n with
  | zero => intro x0 x1 x2 x3 x4; exact sn_mf
  | succ n ih => intro x0 x1 x2 x3 x4; exact s_X12_numberOn_5_st G   (X12_numberOn_5  n) ih x0 x1 x2 x3 x4
set_option maxRecDepth 100000 in
set_option maxHeartbeats 4000000 in
theorem s_X12_numberOn (G : GG) (a0 : Int32) (a1 : Int32) (a2 : Int32) : Sn G yX12_numberOn cX12_numberOn 5 (some FieldType.int) 2 35 (fun v : Int32 => some (.int v)) (X12_numberOn a0 a1 a2) 0 [some (.int a0), some (.int a1), some (.int a2), none, none] [] := by
  unfold X12_numberOn
  refine sn_iconst (v := (0 : Int32)) (pc' := 1) dX12_numberOn_0 rfl (by decide) ?_
  refine sn_istore_n (v := (0 : Int32)) (L' := [some (.int a0), some (.int a1), some (.int a2), some (.int (0 : Int32)), none]) (pc' := 2) dX12_numberOn_1 rfl rfl rfl rfl ?_
  refine sn_iconst (v := (1 : Int32)) (pc' := 3) dX12_numberOn_2 rfl (by decide) ?_
  refine sn_istore (v := (1 : Int32)) (L' := [some (.int a0), some (.int a1), some (.int a2), some (.int (0 : Int32)), some (.int (1 : Int32))]) (pc' := 5) dX12_numberOn_3 rfl rfl rfl ?_
  exact sn_weak (le_s (le_s (le_s (le_s (le_s le_e))))) (s_X12_numberOn_5 G LFU a0 a1 a2 (0 : Int32) (1 : Int32))
theorem c_X12_numberOn (G : GG) (a0 : Int32) (a1 : Int32) (a2 : Int32) : Cal G yX12_numberOn cX12_numberOn 5 (some FieldType.int) 2 35 (fun v : Int32 => some (.int v)) (X12_numberOn a0 a1 a2) [.int a0, .int a1, .int a2] :=
  Cal.of (by decide) (cat_i (cat_i (cat_i cat_nil))) rfl (sn_weak (le_s (le_s (le_s (le_z (le_z le_e))))) (s_X12_numberOn G a0 a1 a2))
theorem cw_X12_numberOn : CW yX12_numberOn cX12_numberOn 5 (some FieldType.int) 3 := ⟨tw1689, tw15, by decide, by decide +kernel⟩
/-! X12_look -/
theorem dX12_look_0 : decode cX12_look 0 = .ok (.aload_n 0, 1) := by decide +kernel
theorem dX12_look_1 : decode cX12_look 1 = .ok (.getfield 236, 3) := by decide +kernel
theorem dX12_look_4 : decode cX12_look 4 = .ok (.iload_n 1, 1) := by decide +kernel
theorem dX12_look_5 : decode cX12_look 5 = .ok (.iaload, 1) := by decide +kernel
theorem dX12_look_6 : decode cX12_look 6 = .ok (.istore_n 2, 1) := by decide +kernel
theorem dX12_look_7 : decode cX12_look 7 = .ok (.iload_n 1, 1) := by decide +kernel
theorem dX12_look_8 : decode cX12_look 8 = .ok (.sipush 400, 3) := by decide +kernel
theorem dX12_look_11 : decode cX12_look 11 = .ok (.imul, 1) := by decide +kernel
theorem dX12_look_12 : decode cX12_look 12 = .ok (.istore_n 3, 1) := by decide +kernel
theorem dX12_look_13 : decode cX12_look 13 = .ok (.iconst 0, 1) := by decide +kernel
theorem dX12_look_14 : decode cX12_look 14 = .ok (.istore 4, 2) := by decide +kernel
theorem dX12_look_16 : decode cX12_look 16 = .ok (.iload 4, 2) := by decide +kernel
theorem dX12_look_18 : decode cX12_look 18 = .ok (.aload_n 0, 1) := by decide +kernel
theorem dX12_look_19 : decode cX12_look 19 = .ok (.getfield 46, 3) := by decide +kernel
theorem dX12_look_22 : decode cX12_look 22 = .ok (.iload_n 2, 1) := by decide +kernel
theorem dX12_look_23 : decode cX12_look 23 = .ok (.iaload, 1) := by decide +kernel
theorem dX12_look_24 : decode cX12_look 24 = .ok (.if_icmp .ge 17, 3) := by decide +kernel
theorem dX12_look_27 : decode cX12_look 27 = .ok (.aload_n 0, 1) := by decide +kernel
theorem dX12_look_28 : decode cX12_look 28 = .ok (.getfield 239, 3) := by decide +kernel
theorem dX12_look_31 : decode cX12_look 31 = .ok (.iload 4, 2) := by decide +kernel
theorem dX12_look_33 : decode cX12_look 33 = .ok (.iconst 0, 1) := by decide +kernel
theorem dX12_look_34 : decode cX12_look 34 = .ok (.iastore, 1) := by decide +kernel
theorem dX12_look_35 : decode cX12_look 35 = .ok (.iinc 4 1, 3) := by decide +kernel
theorem dX12_look_38 : decode cX12_look 38 = .ok (.goto (-22), 3) := by decide +kernel
theorem dX12_look_41 : decode cX12_look 41 = .ok (.iconst 0, 1) := by decide +kernel
theorem dX12_look_42 : decode cX12_look 42 = .ok (.istore 4, 2) := by decide +kernel
theorem dX12_look_44 : decode cX12_look 44 = .ok (.aload_n 0, 1) := by decide +kernel
theorem dX12_look_45 : decode cX12_look 45 = .ok (.getfield 242, 3) := by decide +kernel
theorem dX12_look_48 : decode cX12_look 48 = .ok (.iload_n 1, 1) := by decide +kernel
theorem dX12_look_49 : decode cX12_look 49 = .ok (.iaload, 1) := by decide +kernel
theorem dX12_look_50 : decode cX12_look 50 = .ok (.iconst 1, 1) := by decide +kernel
theorem dX12_look_51 : decode cX12_look 51 = .ok (.isub, 1) := by decide +kernel
theorem dX12_look_52 : decode cX12_look 52 = .ok (.istore 5, 2) := by decide +kernel
theorem dX12_look_54 : decode cX12_look 54 = .ok (.iload 5, 2) := by decide +kernel
theorem dX12_look_56 : decode cX12_look 56 = .ok (.ifCond .lt 119, 3) := by decide +kernel
theorem dX12_look_59 : decode cX12_look 59 = .ok (.aload_n 0, 1) := by decide +kernel
theorem dX12_look_60 : decode cX12_look 60 = .ok (.getfield 239, 3) := by decide +kernel
theorem dX12_look_63 : decode cX12_look 63 = .ok (.aload_n 0, 1) := by decide +kernel
theorem dX12_look_64 : decode cX12_look 64 = .ok (.getfield 245, 3) := by decide +kernel
theorem dX12_look_67 : decode cX12_look 67 = .ok (.iload_n 3, 1) := by decide +kernel
theorem dX12_look_68 : decode cX12_look 68 = .ok (.iload 5, 2) := by decide +kernel
theorem dX12_look_70 : decode cX12_look 70 = .ok (.iadd, 1) := by decide +kernel
theorem dX12_look_71 : decode cX12_look 71 = .ok (.iaload, 1) := by decide +kernel
theorem dX12_look_72 : decode cX12_look 72 = .ok (.dup2, 1) := by decide +kernel
theorem dX12_look_73 : decode cX12_look 73 = .ok (.iaload, 1) := by decide +kernel
theorem dX12_look_74 : decode cX12_look 74 = .ok (.iconst 1, 1) := by decide +kernel
theorem dX12_look_75 : decode cX12_look 75 = .ok (.iadd, 1) := by decide +kernel
theorem dX12_look_76 : decode cX12_look 76 = .ok (.iastore, 1) := by decide +kernel
theorem dX12_look_77 : decode cX12_look 77 = .ok (.aload_n 0, 1) := by decide +kernel
theorem dX12_look_78 : decode cX12_look 78 = .ok (.getfield 248, 3) := by decide +kernel
theorem dX12_look_81 : decode cX12_look 81 = .ok (.iload 5, 2) := by decide +kernel
theorem dX12_look_83 : decode cX12_look 83 = .ok (.iconst 1, 1) := by decide +kernel
theorem dX12_look_84 : decode cX12_look 84 = .ok (.iastore, 1) := by decide +kernel
theorem dX12_look_85 : decode cX12_look 85 = .ok (.iload 5, 2) := by decide +kernel
theorem dX12_look_87 : decode cX12_look 87 = .ok (.iconst 1, 1) := by decide +kernel
theorem dX12_look_88 : decode cX12_look 88 = .ok (.iadd, 1) := by decide +kernel
theorem dX12_look_89 : decode cX12_look 89 = .ok (.istore 6, 2) := by decide +kernel
theorem dX12_look_91 : decode cX12_look 91 = .ok (.iload 6, 2) := by decide +kernel
theorem dX12_look_93 : decode cX12_look 93 = .ok (.aload_n 0, 1) := by decide +kernel
theorem dX12_look_94 : decode cX12_look 94 = .ok (.getfield 242, 3) := by decide +kernel
theorem dX12_look_97 : decode cX12_look 97 = .ok (.iload_n 1, 1) := by decide +kernel
theorem dX12_look_98 : decode cX12_look 98 = .ok (.iaload, 1) := by decide +kernel
theorem dX12_look_99 : decode cX12_look 99 = .ok (.if_icmp .ge 56, 3) := by decide +kernel
theorem dX12_look_102 : decode cX12_look 102 = .ok (.aload_n 0, 1) := by decide +kernel
theorem dX12_look_103 : decode cX12_look 103 = .ok (.getfield 245, 3) := by decide +kernel
theorem dX12_look_106 : decode cX12_look 106 = .ok (.iload_n 3, 1) := by decide +kernel
theorem dX12_look_107 : decode cX12_look 107 = .ok (.iload 6, 2) := by decide +kernel
theorem dX12_look_109 : decode cX12_look 109 = .ok (.iadd, 1) := by decide +kernel
theorem dX12_look_110 : decode cX12_look 110 = .ok (.iaload, 1) := by decide +kernel
theorem dX12_look_111 : decode cX12_look 111 = .ok (.aload_n 0, 1) := by decide +kernel
theorem dX12_look_112 : decode cX12_look 112 = .ok (.getfield 245, 3) := by decide +kernel
theorem dX12_look_115 : decode cX12_look 115 = .ok (.iload_n 3, 1) := by decide +kernel
theorem dX12_look_116 : decode cX12_look 116 = .ok (.iload 5, 2) := by decide +kernel
theorem dX12_look_118 : decode cX12_look 118 = .ok (.iadd, 1) := by decide +kernel
theorem dX12_look_119 : decode cX12_look 119 = .ok (.iaload, 1) := by decide +kernel
theorem dX12_look_120 : decode cX12_look 120 = .ok (.if_icmp .le 29, 3) := by decide +kernel
theorem dX12_look_123 : decode cX12_look 123 = .ok (.aload_n 0, 1) := by decide +kernel
theorem dX12_look_124 : decode cX12_look 124 = .ok (.getfield 248, 3) := by decide +kernel
theorem dX12_look_127 : decode cX12_look 127 = .ok (.iload 5, 2) := by decide +kernel
theorem dX12_look_129 : decode cX12_look 129 = .ok (.aload_n 0, 1) := by decide +kernel
theorem dX12_look_130 : decode cX12_look 130 = .ok (.getfield 248, 3) := by decide +kernel
theorem dX12_look_133 : decode cX12_look 133 = .ok (.iload 5, 2) := by decide +kernel
theorem dX12_look_135 : decode cX12_look 135 = .ok (.iaload, 1) := by decide +kernel
theorem dX12_look_136 : decode cX12_look 136 = .ok (.aload_n 0, 1) := by decide +kernel
theorem dX12_look_137 : decode cX12_look 137 = .ok (.getfield 248, 3) := by decide +kernel
theorem dX12_look_140 : decode cX12_look 140 = .ok (.iload 6, 2) := by decide +kernel
theorem dX12_look_142 : decode cX12_look 142 = .ok (.iaload, 1) := by decide +kernel
theorem dX12_look_143 : decode cX12_look 143 = .ok (.iconst 1, 1) := by decide +kernel
theorem dX12_look_144 : decode cX12_look 144 = .ok (.iadd, 1) := by decide +kernel
theorem dX12_look_145 : decode cX12_look 145 = .ok (.invokestatic 251, 3) := by decide +kernel
theorem dX12_look_148 : decode cX12_look 148 = .ok (.iastore, 1) := by decide +kernel
theorem dX12_look_149 : decode cX12_look 149 = .ok (.iinc 6 1, 3) := by decide +kernel
theorem dX12_look_152 : decode cX12_look 152 = .ok (.goto (-61), 3) := by decide +kernel
theorem dX12_look_155 : decode cX12_look 155 = .ok (.iload 4, 2) := by decide +kernel
theorem dX12_look_157 : decode cX12_look 157 = .ok (.aload_n 0, 1) := by decide +kernel
theorem dX12_look_158 : decode cX12_look 158 = .ok (.getfield 248, 3) := by decide +kernel
theorem dX12_look_161 : decode cX12_look 161 = .ok (.iload 5, 2) := by decide +kernel
theorem dX12_look_163 : decode cX12_look 163 = .ok (.iaload, 1) := by decide +kernel
theorem dX12_look_164 : decode cX12_look 164 = .ok (.invokestatic 251, 3) := by decide +kernel
theorem dX12_look_167 : decode cX12_look 167 = .ok (.istore 4, 2) := by decide +kernel
theorem dX12_look_169 : decode cX12_look 169 = .ok (.iinc 5 (-1), 3) := by decide +kernel
theorem dX12_look_172 : decode cX12_look 172 = .ok (.goto (-118), 3) := by decide +kernel
theorem dX12_look_175 : decode cX12_look 175 = .ok (.iconst (-1), 1) := by decide +kernel
theorem dX12_look_176 : decode cX12_look 176 = .ok (.istore 5, 2) := by decide +kernel
theorem dX12_look_178 : decode cX12_look 178 = .ok (.iconst 0, 1) := by decide +kernel
theorem dX12_look_179 : decode cX12_look 179 = .ok (.istore 6, 2) := by decide +kernel
theorem dX12_look_181 : decode cX12_look 181 = .ok (.iload 6, 2) := by decide +kernel
theorem dX12_look_183 : decode cX12_look 183 = .ok (.aload_n 0, 1) := by decide +kernel
theorem dX12_look_184 : decode cX12_look 184 = .ok (.getfield 242, 3) := by decide +kernel
theorem dX12_look_187 : decode cX12_look 187 = .ok (.iload_n 1, 1) := by decide +kernel
theorem dX12_look_188 : decode cX12_look 188 = .ok (.iaload, 1) := by decide +kernel
theorem dX12_look_189 : decode cX12_look 189 = .ok (.if_icmp .ge 74, 3) := by decide +kernel
theorem dX12_look_192 : decode cX12_look 192 = .ok (.aload_n 0, 1) := by decide +kernel
theorem dX12_look_193 : decode cX12_look 193 = .ok (.getfield 254, 3) := by decide +kernel
theorem dX12_look_196 : decode cX12_look 196 = .ok (.iload 6, 2) := by decide +kernel
theorem dX12_look_198 : decode cX12_look 198 = .ok (.aload_n 0, 1) := by decide +kernel
theorem dX12_look_199 : decode cX12_look 199 = .ok (.getfield 248, 3) := by decide +kernel
theorem dX12_look_202 : decode cX12_look 202 = .ok (.iload 6, 2) := by decide +kernel
theorem dX12_look_204 : decode cX12_look 204 = .ok (.iaload, 1) := by decide +kernel
theorem dX12_look_205 : decode cX12_look 205 = .ok (.iload 4, 2) := by decide +kernel
theorem dX12_look_207 : decode cX12_look 207 = .ok (.if_icmp .ne 21, 3) := by decide +kernel
theorem dX12_look_210 : decode cX12_look 210 = .ok (.aload_n 0, 1) := by decide +kernel
theorem dX12_look_211 : decode cX12_look 211 = .ok (.getfield 245, 3) := by decide +kernel
theorem dX12_look_214 : decode cX12_look 214 = .ok (.iload_n 3, 1) := by decide +kernel
theorem dX12_look_215 : decode cX12_look 215 = .ok (.iload 6, 2) := by decide +kernel
theorem dX12_look_217 : decode cX12_look 217 = .ok (.iadd, 1) := by decide +kernel
theorem dX12_look_218 : decode cX12_look 218 = .ok (.iaload, 1) := by decide +kernel
theorem dX12_look_219 : decode cX12_look 219 = .ok (.iload 5, 2) := by decide +kernel
theorem dX12_look_221 : decode cX12_look 221 = .ok (.if_icmp .le 7, 3) := by decide +kernel
theorem dX12_look_224 : decode cX12_look 224 = .ok (.iconst 1, 1) := by decide +kernel
theorem dX12_look_225 : decode cX12_look 225 = .ok (.goto 4, 3) := by decide +kernel
theorem dX12_look_228 : decode cX12_look 228 = .ok (.iconst 0, 1) := by decide +kernel
theorem dX12_look_229 : decode cX12_look 229 = .ok (.bastore, 1) := by decide +kernel
theorem dX12_look_230 : decode cX12_look 230 = .ok (.aload_n 0, 1) := by decide +kernel
theorem dX12_look_231 : decode cX12_look 231 = .ok (.getfield 254, 3) := by decide +kernel
theorem dX12_look_234 : decode cX12_look 234 = .ok (.iload 6, 2) := by decide +kernel
theorem dX12_look_236 : decode cX12_look 236 = .ok (.baload, 1) := by decide +kernel
theorem dX12_look_237 : decode cX12_look 237 = .ok (.ifCond .ne 6, 3) := by decide +kernel
theorem dX12_look_240 : decode cX12_look 240 = .ok (.goto 17, 3) := by decide +kernel
theorem dX12_look_243 : decode cX12_look 243 = .ok (.aload_n 0, 1) := by decide +kernel
theorem dX12_look_244 : decode cX12_look 244 = .ok (.getfield 245, 3) := by decide +kernel
theorem dX12_look_247 : decode cX12_look 247 = .ok (.iload_n 3, 1) := by decide +kernel
theorem dX12_look_248 : decode cX12_look 248 = .ok (.iload 6, 2) := by decide +kernel
theorem dX12_look_250 : decode cX12_look 250 = .ok (.iadd, 1) := by decide +kernel
theorem dX12_look_251 : decode cX12_look 251 = .ok (.iaload, 1) := by decide +kernel
theorem dX12_look_252 : decode cX12_look 252 = .ok (.istore 5, 2) := by decide +kernel
theorem dX12_look_254 : decode cX12_look 254 = .ok (.iinc 4 (-1), 3) := by decide +kernel
theorem dX12_look_257 : decode cX12_look 257 = .ok (.iinc 6 1, 3) := by decide +kernel
theorem dX12_look_260 : decode cX12_look 260 = .ok (.goto (-79), 3) := by decide +kernel
theorem dX12_look_263 : decode cX12_look 263 = .ok (.return_, 1) := by decide +kernel
def X12_look_149 (k54 : Nat → Int32 → Int32 → Int32 → Int32 → MM Unit) (k91 : Nat → Int32 → Int32 → Int32 → Int32 → Int32 → MM Unit) (this : Nat) (x1 : Int32) (x3 : Int32) (x4 : Int32) (x5 : Int32) (x6 : Int32) : MM Unit :=
  (k91 this x1 x3 x4 x5 (x6 + (1 : Int32)))
def X12_look_155 (k54 : Nat → Int32 → Int32 → Int32 → Int32 → MM Unit) (this : Nat) (x1 : Int32) (x3 : Int32) (x4 : Int32) (x5 : Int32) : MM Unit :=
  mb (gR 13 (some this) 40) fun v1 =>
  mb (aI v1 x5) fun v2 =>
  (k54 this x1 x3 (if x4 < v2 then v2 else x4) (x5 + (-1 : Int32)))
def X12_look_91_st (k54 : Nat → Int32 → Int32 → Int32 → Int32 → MM Unit) (k91 : Nat → Int32 → Int32 → Int32 → Int32 → Int32 → MM Unit) (this : Nat) (x1 : Int32) (x3 : Int32) (x4 : Int32) (x5 : Int32) (x6 : Int32) : MM Unit :=
  mb (gR 13 (some this) 17) fun v1 =>
  mb (aI v1 x1) fun v2 =>
  if v2 ≤ x6 then ((X12_look_155 k54 this x1 x3 x4 x5)) else (mb (gR 13 (some this) 18) fun v3 =>
  mb (aI v3 (x3 + x6)) fun v4 =>
  mb (gR 13 (some this) 18) fun v5 =>
  mb (aI v5 (x3 + x5)) fun v6 =>
  if v4 ≤ v6 then ((X12_look_149 k54 k91 this x1 x3 x4 x5 x6)) else (mb (gR 13 (some this) 40) fun v7 =>
  mb (gR 13 (some this) 40) fun v8 =>
  mb (aI v8 x5) fun v9 =>
  mb (gR 13 (some this) 40) fun v10 =>
  mb (aI v10 x6) fun v11 =>
  mb (sI v7 x5 (if v9 < (v11 + (1 : Int32)) then (v11 + (1 : Int32)) else v9)) fun _ =>
  (X12_look_149 k54 k91 this x1 x3 x4 x5 x6)))
def X12_look_91 (k54 : Nat → Int32 → Int32 → Int32 → Int32 → MM Unit) : Nat → Nat → Int32 → Int32 → Int32 → Int32 → Int32 → MM Unit
  | 0 => fun _ _ _ _ _ _ => mf
  | n + 1 => fun this x1 x3 x4 x5 x6 => X12_look_91_st k54 (X12_look_91 k54 n) this x1 x3 x4 x5 x6
def X12_look_257 (k181 : Nat → Int32 → Int32 → Int32 → Int32 → Int32 → MM Unit) (this : Nat) (x1 : Int32) (x3 : Int32) (x4 : Int32) (x5 : Int32) (x6 : Int32) : MM Unit :=
  (k181 this x1 x3 x4 x5 (x6 + (1 : Int32)))
def X12_look_229 (k181 : Nat → Int32 → Int32 → Int32 → Int32 → Int32 → MM Unit) (this : Nat) (x1 : Int32) (x3 : Int32) (x4 : Int32) (x5 : Int32) (x6 : Int32) (y0 : Int32) (y1 : Int32) (y2 : Option Nat) : MM Unit :=
  mb (sB y2 y1 y0) fun _ =>
  mb (gR 13 (some this) 41) fun v1 =>
  mb (aB v1 x6) fun v2 =>
  if v2 = 0 then ((X12_look_257 k181 this x1 x3 x4 x5 x6)) else (mb (gR 13 (some this) 18) fun v3 =>
  mb (aI v3 (x3 + x6)) fun v4 =>
  (X12_look_257 k181 this x1 x3 (x4 + (-1 : Int32)) v4 x6))
def X12_look_228 (k181 : Nat → Int32 → Int32 → Int32 → Int32 → Int32 → MM Unit) (this : Nat) (x1 : Int32) (x3 : Int32) (x4 : Int32) (x5 : Int32) (x6 : Int32) (y0 : Int32) (y1 : Option Nat) : MM Unit :=
  (X12_look_229 k181 this x1 x3 x4 x5 x6 (0 : Int32) y0 y1)
def X12_look_181_st  (k181 : Nat → Int32 → Int32 → Int32 → Int32 → Int32 → MM Unit) (this : Nat) (x1 : Int32) (x3 : Int32) (x4 : Int32) (x5 : Int32) (x6 : Int32) : MM Unit :=
  mb (gR 13 (some this) 17) fun v1 =>
  mb (aI v1 x1) fun v2 =>
  if v2 ≤ x6 then (mr ()) else (mb (gR 13 (some this) 41) fun v3 =>
  mb (gR 13 (some this) 40) fun v4 =>
  mb (aI v4 x6) fun v5 =>
  if v5 = x4 then (mb (gR 13 (some this) 18) fun v6 =>
  mb (aI v6 (x3 + x6)) fun v7 =>
  if v7 ≤ x5 then ((X12_look_228 k181 this x1 x3 x4 x5 x6 x6 v3)) else ((X12_look_229 k181 this x1 x3 x4 x5 x6 (1 : Int32) x6 v3))) else ((X12_look_228 k181 this x1 x3 x4 x5 x6 x6 v3)))
def X12_look_181  : Nat → Nat → Int32 → Int32 → Int32 → Int32 → Int32 → MM Unit
  | 0 => fun _ _ _ _ _ _ => mf
  | n + 1 => fun this x1 x3 x4 x5 x6 => X12_look_181_st  (X12_look_181  n) this x1 x3 x4 x5 x6
def X12_look_175  (this : Nat) (x1 : Int32) (x3 : Int32) (x4 : Int32) : MM Unit :=
  (X12_look_181 LFU this x1 x3 x4 (-1 : Int32) (0 : Int32))
def X12_look_54_st  (k54 : Nat → Int32 → Int32 → Int32 → Int32 → MM Unit) (this : Nat) (x1 : Int32) (x3 : Int32) (x4 : Int32) (x5 : Int32) : MM Unit :=
  if x5 < 0 then ((X12_look_175 this x1 x3 x4)) else (mb (gR 13 (some this) 39) fun v1 =>
  mb (gR 13 (some this) 18) fun v2 =>
  mb (aI v2 (x3 + x5)) fun v3 =>
  mb (aI v1 v3) fun v4 =>
  mb (sI v1 v3 (v4 + (1 : Int32))) fun _ =>
  mb (gR 13 (some this) 40) fun v5 =>
  mb (sI v5 x5 (1 : Int32)) fun _ =>
  (X12_look_91 k54 LFU this x1 x3 x4 x5 (x5 + (1 : Int32))))
def X12_look_54  : Nat → Nat → Int32 → Int32 → Int32 → Int32 → MM Unit
  | 0 => fun _ _ _ _ _ => mf
  | n + 1 => fun this x1 x3 x4 x5 => X12_look_54_st  (X12_look_54  n) this x1 x3 x4 x5
def X12_look_41  (this : Nat) (x1 : Int32) (x3 : Int32) : MM Unit :=
  mb (gR 13 (some this) 17) fun v1 =>
  mb (aI v1 x1) fun v2 =>
  (X12_look_54 LFU this x1 x3 (0 : Int32) (v2 - (1 : Int32)))
def X12_look_16_st  (k16 : Nat → Int32 → Int32 → Int32 → Int32 → MM Unit) (this : Nat) (x1 : Int32) (x2 : Int32) (x3 : Int32) (x4 : Int32) : MM Unit :=
  mb (gR 13 (some this) 11) fun v1 =>
  mb (aI v1 x2) fun v2 =>
  if v2 ≤ x4 then ((X12_look_41 this x1 x3)) else (mb (gR 13 (some this) 39) fun v3 =>
  mb (sI v3 x4 (0 : Int32)) fun _ =>
  (k16 this x1 x2 x3 (x4 + (1 : Int32))))
def X12_look_16  : Nat → Nat → Int32 → Int32 → Int32 → Int32 → MM Unit
  | 0 => fun _ _ _ _ _ => mf
  | n + 1 => fun this x1 x2 x3 x4 => X12_look_16_st  (X12_look_16  n) this x1 x2 x3 x4
def X12_look (this : Nat) (a1 : Int32) : MM Unit :=
  mb (gR 13 (some this) 16) fun v1 =>
  mb (aI v1 a1) fun v2 =>
  (X12_look_16 LFU this a1 v2 (a1 * (400 : Int32)) (0 : Int32))
set_option maxRecDepth 100000 in
set_option maxHeartbeats 4000000 in
theorem s_X12_look_149 (G : GG) (k54 : Nat → Int32 → Int32 → Int32 → Int32 → MM Unit) (k91 : Nat → Int32 → Int32 → Int32 → Int32 → Int32 → MM Unit) (hk54 : ∀ (this : Nat) (x1 : Int32) (x3 : Int32) (x4 : Int32) (x5 : Int32), Sn G yX12_look cX12_look 7 none 1 15 (fun _ : Unit => none) (k54 this x1 x3 x4 x5) 54 [some (va_rf (some this)), some (.int x1), none, some (.int x3), some (.int x4), some (.int x5), none] []) (hk91 : ∀ (this : Nat) (x1 : Int32) (x3 : Int32) (x4 : Int32) (x5 : Int32) (x6 : Int32), Sn G yX12_look cX12_look 7 none 1 15 (fun _ : Unit => none) (k91 this x1 x3 x4 x5 x6) 91 [some (va_rf (some this)), some (.int x1), none, some (.int x3), some (.int x4), some (.int x5), some (.int x6)] []) (this : Nat) (x1 : Int32) (x3 : Int32) (x4 : Int32) (x5 : Int32) (x6 : Int32) : Sn G yX12_look cX12_look 7 none 1 15 (fun _ : Unit => none) (X12_look_149 k54 k91 this x1 x3 x4 x5 x6) 149 [some (va_rf (some this)), some (.int x1), none, some (.int x3), some (.int x4), some (.int x5), some (.int x6)] [] := by
  unfold X12_look_149
  refine sn_iinc (v := x6) (w := 1) (L' := [some (va_rf (some this)), some (.int x1), none, some (.int x3), some (.int x4), some (.int x5), some (.int (x6 + (1 : Int32)))]) (pc' := 152) dX12_look_149 rfl rfl rfl (by decide) rfl ?_
  refine sn_goto (pc' := 91) dX12_look_152 rfl ?_
  exact sn_weak (le_s (le_s (le_n (le_s (le_s (le_s (le_s le_e))))))) (hk91 this x1 x3 x4 x5 (x6 + (1 : Int32)))
set_option maxRecDepth 100000 in
set_option maxHeartbeats 4000000 in
theorem s_X12_look_155 (G : GG) (k54 : Nat → Int32 → Int32 → Int32 → Int32 → MM Unit) (hk54 : ∀ (this : Nat) (x1 : Int32) (x3 : Int32) (x4 : Int32) (x5 : Int32), Sn G yX12_look cX12_look 7 none 1 15 (fun _ : Unit => none) (k54 this x1 x3 x4 x5) 54 [some (va_rf (some this)), some (.int x1), none, some (.int x3), some (.int x4), some (.int x5), none] []) (this : Nat) (x1 : Int32) (x3 : Int32) (x4 : Int32) (x5 : Int32) : Sn G yX12_look cX12_look 7 none 1 15 (fun _ : Unit => none) (X12_look_155 k54 this x1 x3 x4 x5) 155 [some (va_rf (some this)), some (.int x1), none, some (.int x3), some (.int x4), some (.int x5), none] [] := by
  unfold X12_look_155
  refine sn_iload (v := x4) (pc' := 157) dX12_look_155 rfl rfl ?_
  refine sn_aload_n (v := (some this)) (pc' := 158) dX12_look_157 rfl rfl rfl ?_
  refine sn_gR (k := 40) (pc' := 161) ci_13 rfl (Or.inl tw1318) dX12_look_158 rfl (fun v1 => ?_)
  refine sn_iload (v := x5) (pc' := 163) dX12_look_161 rfl rfl ?_
  refine sn_aI (pc' := 164) dX12_look_163 rfl (fun v2 => ?_)
  refine sn_max (pc' := 167) rfl tw1706 tw48 tw4 tw49 cat_nil rfl dX12_look_164 rfl ?_
  refine sn_istore (v := (if x4 < v2 then v2 else x4)) (L' := [some (va_rf (some this)), some (.int x1), none, some (.int x3), some (.int (if x4 < v2 then v2 else x4)), some (.int x5), none]) (pc' := 169) dX12_look_167 rfl rfl rfl ?_
  refine sn_iinc (v := x5) (w := -1) (L' := [some (va_rf (some this)), some (.int x1), none, some (.int x3), some (.int (if x4 < v2 then v2 else x4)), some (.int (x5 + (-1 : Int32))), none]) (pc' := 172) dX12_look_169 rfl rfl rfl (by decide) rfl ?_
  refine sn_goto (pc' := 54) dX12_look_172 rfl ?_
  exact sn_weak (le_s (le_s (le_n (le_s (le_s (le_s (le_n le_e))))))) (hk54 this x1 x3 (if x4 < v2 then v2 else x4) (x5 + (-1 : Int32)))
set_option maxRecDepth 100000 in
set_option maxHeartbeats 4000000 in
theorem s_X12_look_91_st (G : GG) (k54 : Nat → Int32 → Int32 → Int32 → Int32 → MM Unit) (hk54 : ∀ (this : Nat) (x1 : Int32) (x3 : Int32) (x4 : Int32) (x5 : Int32), Sn G yX12_look cX12_look 7 none 1 15 (fun _ : Unit => none) (k54 this x1 x3 x4 x5) 54 [some (va_rf (some this)), some (.int x1), none, some (.int x3), some (.int x4), some (.int x5), none] []) (k91 : Nat → Int32 → Int32 → Int32 → Int32 → Int32 → MM Unit) (hk91 : ∀ (this : Nat) (x1 : Int32) (x3 : Int32) (x4 : Int32) (x5 : Int32) (x6 : Int32), Sn G yX12_look cX12_look 7 none 1 15 (fun _ : Unit => none) (k91 this x1 x3 x4 x5 x6) 91 [some (va_rf (some this)), some (.int x1), none, some (.int x3), some (.int x4), some (.int x5), some (.int x6)] []) (this : Nat) (x1 : Int32) (x3 : Int32) (x4 : Int32) (x5 : Int32) (x6 : Int32) : Sn G yX12_look cX12_look 7 none 1 15 (fun _ : Unit => none) (X12_look_91_st k54 k91 this x1 x3 x4 x5 x6) 91 [some (va_rf (some this)), some (.int x1), none, some (.int x3), some (.int x4), some (.int x5), some (.int x6)] [] := by
  unfold X12_look_91_st
  refine sn_iload (v := x6) (pc' := 93) dX12_look_91 rfl rfl ?_
  refine sn_aload_n (v := (some this)) (pc' := 94) dX12_look_93 rfl rfl rfl ?_
  refine sn_gR (k := 17) (pc' := 97) ci_13 rfl (Or.inl tw1295) dX12_look_94 rfl (fun v1 => ?_)
  refine sn_iload_n (v := x1) (pc' := 98) dX12_look_97 rfl rfl rfl ?_
  refine sn_aI (pc' := 99) dX12_look_98 rfl (fun v2 => ?_)
  refine sn_ic_ge (pt := 155) (pf := 102) dX12_look_99 rfl rfl ?_ ?_
  · exact sn_weak (le_s (le_s (le_n (le_s (le_s (le_s (le_n le_e))))))) (s_X12_look_155 G k54 hk54 this x1 x3 x4 x5)
  · refine sn_aload_n (v := (some this)) (pc' := 103) dX12_look_102 rfl rfl rfl ?_
    refine sn_gR (k := 18) (pc' := 106) ci_13 rfl (Or.inl tw1296) dX12_look_103 rfl (fun v3 => ?_)
    refine sn_iload_n (v := x3) (pc' := 107) dX12_look_106 rfl rfl rfl ?_
    refine sn_iload (v := x6) (pc' := 109) dX12_look_107 rfl rfl ?_
    refine sn_iadd (pc' := 110) dX12_look_109 rfl ?_
    refine sn_aI (pc' := 111) dX12_look_110 rfl (fun v4 => ?_)
    refine sn_aload_n (v := (some this)) (pc' := 112) dX12_look_111 rfl rfl rfl ?_
    refine sn_gR (k := 18) (pc' := 115) ci_13 rfl (Or.inl tw1296) dX12_look_112 rfl (fun v5 => ?_)
    refine sn_iload_n (v := x3) (pc' := 116) dX12_look_115 rfl rfl rfl ?_
    refine sn_iload (v := x5) (pc' := 118) dX12_look_116 rfl rfl ?_
    refine sn_iadd (pc' := 119) dX12_look_118 rfl ?_
    refine sn_aI (pc' := 120) dX12_look_119 rfl (fun v6 => ?_)
    refine sn_ic_le (pt := 149) (pf := 123) dX12_look_120 rfl rfl ?_ ?_
    · exact sn_weak (le_s (le_s (le_n (le_s (le_s (le_s (le_s le_e))))))) (s_X12_look_149 G k54 k91 hk54 hk91 this x1 x3 x4 x5 x6)
    · refine sn_aload_n (v := (some this)) (pc' := 124) dX12_look_123 rfl rfl rfl ?_
      refine sn_gR (k := 40) (pc' := 127) ci_13 rfl (Or.inl tw1318) dX12_look_124 rfl (fun v7 => ?_)
      refine sn_iload (v := x5) (pc' := 129) dX12_look_127 rfl rfl ?_
      refine sn_aload_n (v := (some this)) (pc' := 130) dX12_look_129 rfl rfl rfl ?_
      refine sn_gR (k := 40) (pc' := 133) ci_13 rfl (Or.inl tw1318) dX12_look_130 rfl (fun v8 => ?_)
      refine sn_iload (v := x5) (pc' := 135) dX12_look_133 rfl rfl ?_
      refine sn_aI (pc' := 136) dX12_look_135 rfl (fun v9 => ?_)
      refine sn_aload_n (v := (some this)) (pc' := 137) dX12_look_136 rfl rfl rfl ?_
      refine sn_gR (k := 40) (pc' := 140) ci_13 rfl (Or.inl tw1318) dX12_look_137 rfl (fun v10 => ?_)
      refine sn_iload (v := x6) (pc' := 142) dX12_look_140 rfl rfl ?_
      refine sn_aI (pc' := 143) dX12_look_142 rfl (fun v11 => ?_)
      refine sn_iconst (v := (1 : Int32)) (pc' := 144) dX12_look_143 rfl (by decide) ?_
      refine sn_iadd (pc' := 145) dX12_look_144 rfl ?_
      refine sn_max (pc' := 148) rfl tw1706 tw48 tw4 tw49 (cat_i (cat_q cat_nil)) rfl dX12_look_145 rfl ?_
      refine sn_sI (pc' := 149) dX12_look_148 rfl (fun _ => ?_)
      exact sn_weak (le_s (le_s (le_n (le_s (le_s (le_s (le_s le_e))))))) (s_X12_look_149 G k54 k91 hk54 hk91 this x1 x3 x4 x5 x6)
set_option maxRecDepth 100000 in
set_option maxHeartbeats 4000000 in
theorem s_X12_look_91 (G : GG) (k54 : Nat → Int32 → Int32 → Int32 → Int32 → MM Unit) (hk54 : ∀ (this : Nat) (x1 : Int32) (x3 : Int32) (x4 : Int32) (x5 : Int32), Sn G yX12_look cX12_look 7 none 1 15 (fun _ : Unit => none) (k54 this x1 x3 x4 x5) 54 [some (va_rf (some this)), some (.int x1), none, some (.int x3), some (.int x4), some (.int x5), none] []) : ∀ (n : Nat) (this : Nat) (x1 : Int32) (x3 : Int32) (x4 : Int32) (x5 : Int32) (x6 : Int32), Sn G yX12_look cX12_look 7 none 1 15 (fun _ : Unit => none) (X12_look_91 k54 n this x1 x3 x4 x5 x6) 91 [some (va_rf (some this)), some (.int x1), none, some (.int x3), some (.int x4), some (.int x5), some (.int x6)] [] := by
  intro n
  induction n with
  | zero => intro this x1 x3 x4 x5 x6; exact sn_mf
  | succ n ih => intro this x1 x3 x4 x5 x6; exact s_X12_look_91_st G k54 hk54 (X12_look_91 k54 n) ih this x1 x3 x4 x5 x6
set_option maxRecDepth 100000 in
set_option maxHeartbeats 4000000 in
theorem s_X12_look_257 (G : GG) (k181 : Nat → Int32 → Int32 → Int32 → Int32 → Int32 → MM Unit) (hk181 : ∀ (this : Nat) (x1 : Int32) (x3 : Int32) (x4 : Int32) (x5 : Int32) (x6 : Int32), Sn G yX12_look cX12_look 7 none 1 15 (fun _ : Unit => none) (k181 this x1 x3 x4 x5 x6) 181 [some (va_rf (some this)), some (.int x1), none, some (.int x3), some (.int x4), some (.int x5), some (.int x6)] []) (this : Nat) (x1 : Int32) (x3 : Int32) (x4 : Int32) (x5 : Int32) (x6 : Int32) : Sn G yX12_look cX12_look 7 none 1 15 (fun _ : Unit => none) (X12_look_257 k181 this x1 x3 x4 x5 x6) 257 [some (va_rf (some this)), some (.int x1), none, some (.int x3), some (.int x4), some (.int x5), some (.int x6)] [] := by
  unfold X12_look_257
  refine sn_iinc (v := x6) (w := 1) (L' := [some (va_rf (some this)), some (.int x1), none, some (.int x3), some (.int x4), some (.int x5), some (.int (x6 + (1 : Int32)))]) (pc' := 260) dX12_look_257 rfl rfl rfl (by decide) rfl ?_
  refine sn_goto (pc' := 181) dX12_look_260 rfl ?_
  exact sn_weak (le_s (le_s (le_n (le_s (le_s (le_s (le_s le_e))))))) (hk181 this x1 x3 x4 x5 (x6 + (1 : Int32)))
set_option maxRecDepth 100000 in
set_option maxHeartbeats 4000000 in
theorem s_X12_look_229 (G : GG) (k181 : Nat → Int32 → Int32 → Int32 → Int32 → Int32 → MM Unit) (hk181 : ∀ (this : Nat) (x1 : Int32) (x3 : Int32) (x4 : Int32) (x5 : Int32) (x6 : Int32), Sn G yX12_look cX12_look 7 none 1 15 (fun _ : Unit => none) (k181 this x1 x3 x4 x5 x6) 181 [some (va_rf (some this)), some (.int x1), none, some (.int x3), some (.int x4), some (.int x5), some (.int x6)] []) (this : Nat) (x1 : Int32) (x3 : Int32) (x4 : Int32) (x5 : Int32) (x6 : Int32) (y0 : Int32) (y1 : Int32) (y2 : Option Nat) : Sn G yX12_look cX12_look 7 none 1 15 (fun _ : Unit => none) (X12_look_229 k181 this x1 x3 x4 x5 x6 y0 y1 y2) 229 [some (va_rf (some this)), some (.int x1), none, some (.int x3), some (.int x4), some (.int x5), some (.int x6)] [.int y0, .int y1, va_rf y2] := by
  unfold X12_look_229
  refine sn_sB (pc' := 230) dX12_look_229 rfl (fun _ => ?_)
  refine sn_aload_n (v := (some this)) (pc' := 231) dX12_look_230 rfl rfl rfl ?_
  refine sn_gR (k := 41) (pc' := 234) ci_13 rfl (Or.inl tw1319) dX12_look_231 rfl (fun v1 => ?_)
  refine sn_iload (v := x6) (pc' := 236) dX12_look_234 rfl rfl ?_
  refine sn_aB (pc' := 237) dX12_look_236 rfl (fun v2 => ?_)
  refine sn_if_ne (pt := 243) (pf := 240) dX12_look_237 rfl rfl ?_ ?_
  · refine sn_goto (pc' := 257) dX12_look_240 rfl ?_
    exact sn_weak (le_s (le_s (le_n (le_s (le_s (le_s (le_s le_e))))))) (s_X12_look_257 G k181 hk181 this x1 x3 x4 x5 x6)
  · refine sn_aload_n (v := (some this)) (pc' := 244) dX12_look_243 rfl rfl rfl ?_
    refine sn_gR (k := 18) (pc' := 247) ci_13 rfl (Or.inl tw1296) dX12_look_244 rfl (fun v3 => ?_)
    refine sn_iload_n (v := x3) (pc' := 248) dX12_look_247 rfl rfl rfl ?_
    refine sn_iload (v := x6) (pc' := 250) dX12_look_248 rfl rfl ?_
    refine sn_iadd (pc' := 251) dX12_look_250 rfl ?_
    refine sn_aI (pc' := 252) dX12_look_251 rfl (fun v4 => ?_)
    refine sn_istore (v := v4) (L' := [some (va_rf (some this)), some (.int x1), none, some (.int x3), some (.int x4), some (.int v4), some (.int x6)]) (pc' := 254) dX12_look_252 rfl rfl rfl ?_
    refine sn_iinc (v := x4) (w := -1) (L' := [some (va_rf (some this)), some (.int x1), none, some (.int x3), some (.int (x4 + (-1 : Int32))), some (.int v4), some (.int x6)]) (pc' := 257) dX12_look_254 rfl rfl rfl (by decide) rfl ?_
    exact sn_weak (le_s (le_s (le_n (le_s (le_s (le_s (le_s le_e))))))) (s_X12_look_257 G k181 hk181 this x1 x3 (x4 + (-1 : Int32)) v4 x6)
set_option maxRecDepth 100000 in
set_option maxHeartbeats 4000000 in
theorem s_X12_look_228 (G : GG) (k181 : Nat → Int32 → Int32 → Int32 → Int32 → Int32 → MM Unit) (hk181 : ∀ (this : Nat) (x1 : Int32) (x3 : Int32) (x4 : Int32) (x5 : Int32) (x6 : Int32), Sn G yX12_look cX12_look 7 none 1 15 (fun _ : Unit => none) (k181 this x1 x3 x4 x5 x6) 181 [some (va_rf (some this)), some (.int x1), none, some (.int x3), some (.int x4), some (.int x5), some (.int x6)] []) (this : Nat) (x1 : Int32) (x3 : Int32) (x4 : Int32) (x5 : Int32) (x6 : Int32) (y0 : Int32) (y1 : Option Nat) : Sn G yX12_look cX12_look 7 none 1 15 (fun _ : Unit => none) (X12_look_228 k181 this x1 x3 x4 x5 x6 y0 y1) 228 [some (va_rf (some this)), some (.int x1), none, some (.int x3), some (.int x4), some (.int x5), some (.int x6)] [.int y0, va_rf y1] := by
  unfold X12_look_228
  refine sn_iconst (v := (0 : Int32)) (pc' := 229) dX12_look_228 rfl (by decide) ?_
  exact sn_weak (le_s (le_s (le_n (le_s (le_s (le_s (le_s le_e))))))) (s_X12_look_229 G k181 hk181 this x1 x3 x4 x5 x6 (0 : Int32) y0 y1)
set_option maxRecDepth 100000 in
set_option maxHeartbeats 4000000 in
theorem s_X12_look_181_st (G : GG)   (k181 : Nat → Int32 → Int32 → Int32 → Int32 → Int32 → MM Unit) (hk181 : ∀ (this : Nat) (x1 : Int32) (x3 : Int32) (x4 : Int32) (x5 : Int32) (x6 : Int32), Sn G yX12_look cX12_look 7 none 1 15 (fun _ : Unit => none) (k181 this x1 x3 x4 x5 x6) 181 [some (va_rf (some this)), some (.int x1), none, some (.int x3), some (.int x4), some (.int x5), some (.int x6)] []) (this : Nat) (x1 : Int32) (x3 : Int32) (x4 : Int32) (x5 : Int32) (x6 : Int32) : Sn G yX12_look cX12_look 7 none 1 15 (fun _ : Unit => none) (X12_look_181_st  k181 this x1 x3 x4 x5 x6) 181 [some (va_rf (some this)), some (.int x1), none, some (.int x3), some (.int x4), some (.int x5), some (.int x6)] [] := by
  unfold X12_look_181_st
  refine sn_iload (v := x6) (pc' := 183) dX12_look_181 rfl rfl ?_
  refine sn_aload_n (v := (some this)) (pc' := 184) dX12_look_183 rfl rfl rfl ?_
  refine sn_gR (k := 17) (pc' := 187) ci_13 rfl (Or.inl tw1295) dX12_look_184 rfl (fun v1 => ?_)
  refine sn_iload_n (v := x1) (pc' := 188) dX12_look_187 rfl rfl rfl ?_
  refine sn_aI (pc' := 189) dX12_look_188 rfl (fun v2 => ?_)
  refine sn_ic_ge (pt := 263) (pf := 192) dX12_look_189 rfl rfl ?_ ?_
  · exact sn_vret dX12_look_263 rfl
  · refine sn_aload_n (v := (some this)) (pc' := 193) dX12_look_192 rfl rfl rfl ?_
    refine sn_gR (k := 41) (pc' := 196) ci_13 rfl (Or.inl tw1319) dX12_look_193 rfl (fun v3 => ?_)
    refine sn_iload (v := x6) (pc' := 198) dX12_look_196 rfl rfl ?_
    refine sn_aload_n (v := (some this)) (pc' := 199) dX12_look_198 rfl rfl rfl ?_
    refine sn_gR (k := 40) (pc' := 202) ci_13 rfl (Or.inl tw1318) dX12_look_199 rfl (fun v4 => ?_)
    refine sn_iload (v := x6) (pc' := 204) dX12_look_202 rfl rfl ?_
    refine sn_aI (pc' := 205) dX12_look_204 rfl (fun v5 => ?_)
    refine sn_iload (v := x4) (pc' := 207) dX12_look_205 rfl rfl ?_
    refine sn_ic_ne (pt := 228) (pf := 210) dX12_look_207 rfl rfl ?_ ?_
    · refine sn_aload_n (v := (some this)) (pc' := 211) dX12_look_210 rfl rfl rfl ?_
      refine sn_gR (k := 18) (pc' := 214) ci_13 rfl (Or.inl tw1296) dX12_look_211 rfl (fun v6 => ?_)
      refine sn_iload_n (v := x3) (pc' := 215) dX12_look_214 rfl rfl rfl ?_
      refine sn_iload (v := x6) (pc' := 217) dX12_look_215 rfl rfl ?_
      refine sn_iadd (pc' := 218) dX12_look_217 rfl ?_
      refine sn_aI (pc' := 219) dX12_look_218 rfl (fun v7 => ?_)
      refine sn_iload (v := x5) (pc' := 221) dX12_look_219 rfl rfl ?_
      refine sn_ic_le (pt := 228) (pf := 224) dX12_look_221 rfl rfl ?_ ?_
      · exact sn_weak (le_s (le_s (le_n (le_s (le_s (le_s (le_s le_e))))))) (s_X12_look_228 G k181 hk181 this x1 x3 x4 x5 x6 x6 v3)
      · refine sn_iconst (v := (1 : Int32)) (pc' := 225) dX12_look_224 rfl (by decide) ?_
        refine sn_goto (pc' := 229) dX12_look_225 rfl ?_
        exact sn_weak (le_s (le_s (le_n (le_s (le_s (le_s (le_s le_e))))))) (s_X12_look_229 G k181 hk181 this x1 x3 x4 x5 x6 (1 : Int32) x6 v3)
    · exact sn_weak (le_s (le_s (le_n (le_s (le_s (le_s (le_s le_e))))))) (s_X12_look_228 G k181 hk181 this x1 x3 x4 x5 x6 x6 v3)
set_option maxRecDepth 100000 in
set_option maxHeartbeats 4000000 in
theorem s_X12_look_181 (G : GG)   : ∀ (n : Nat) (this : Nat) (x1 : Int32) (x3 : Int32) (x4 : Int32) (x5 : Int32) (x6 : Int32), Sn G yX12_look cX12_look 7 none 1 15 (fun _ : Unit => none) (X12_look_181  n this x1 x3 x4 x5 x6) 181 [some (va_rf (some this)), some (.int x1), none, some (.int x3), some (.int x4), some (.int x5), some (.int x6)] [] := by
  intro n
  induction n with
  | zero => intro this x1 x3 x4 x5 x6; exact sn_mf
  | succ n ih => intro this x1 x3 x4 x5 x6; exact s_X12_look_181_st G   (X12_look_181  n) ih this x1 x3 x4 x5 x6
set_option maxRecDepth 100000 in
set_option maxHeartbeats 4000000 in
theorem s_X12_look_175 (G : GG)   (this : Nat) (x1 : Int32) (x3 : Int32) (x4 : Int32) : Sn G yX12_look cX12_look 7 none 1 15 (fun _ : Unit => none) (X12_look_175  this x1 x3 x4) 175 [some (va_rf (some this)), some (.int x1), none, some (.int x3), some (.int x4), none, none] [] := by
  unfold X12_look_175
  refine sn_iconst (v := (-1 : Int32)) (pc' := 176) dX12_look_175 rfl (by decide) ?_
  refine sn_istore (v := (-1 : Int32)) (L' := [some (va_rf (some this)), some (.int x1), none, some (.int x3), some (.int x4), some (.int (-1 : Int32)), none]) (pc' := 178) dX12_look_176 rfl rfl rfl ?_
  refine sn_iconst (v := (0 : Int32)) (pc' := 179) dX12_look_178 rfl (by decide) ?_
  refine sn_istore (v := (0 : Int32)) (L' := [some (va_rf (some this)), some (.int x1), none, some (.int x3), some (.int x4), some (.int (-1 : Int32)), some (.int (0 : Int32))]) (pc' := 181) dX12_look_179 rfl rfl rfl ?_
  exact sn_weak (le_s (le_s (le_n (le_s (le_s (le_s (le_s le_e))))))) (s_X12_look_181 G LFU this x1 x3 x4 (-1 : Int32) (0 : Int32))
set_option maxRecDepth 100000 in
set_option maxHeartbeats 4000000 in
theorem s_X12_look_54_st (G : GG)   (k54 : Nat → Int32 → Int32 → Int32 → Int32 → MM Unit) (hk54 : ∀ (this : Nat) (x1 : Int32) (x3 : Int32) (x4 : Int32) (x5 : Int32), Sn G yX12_look cX12_look 7 none 1 15 (fun _ : Unit => none) (k54 this x1 x3 x4 x5) 54 [some (va_rf (some this)), some (.int x1), none, some (.int x3), some (.int x4), some (.int x5), none] []) (this : Nat) (x1 : Int32) (x3 : Int32) (x4 : Int32) (x5 : Int32) : Sn G yX12_look cX12_look 7 none 1 15 (fun _ : Unit => none) (X12_look_54_st  k54 this x1 x3 x4 x5) 54 [some (va_rf (some this)), some (.int x1), none, some (.int x3), some (.int x4), some (.int x5), none] [] := by
  unfold X12_look_54_st
  refine sn_iload (v := x5) (pc' := 56) dX12_look_54 rfl rfl ?_
  refine sn_if_lt (pt := 175) (pf := 59) dX12_look_56 rfl rfl ?_ ?_
  · exact sn_weak (le_s (le_s (le_n (le_s (le_s (le_n (le_n le_e))))))) (s_X12_look_175 G this x1 x3 x4)
  · refine sn_aload_n (v := (some this)) (pc' := 60) dX12_look_59 rfl rfl rfl ?_
    refine sn_gR (k := 39) (pc' := 63) ci_13 rfl (Or.inl tw1317) dX12_look_60 rfl (fun v1 => ?_)
    refine sn_aload_n (v := (some this)) (pc' := 64) dX12_look_63 rfl rfl rfl ?_
    refine sn_gR (k := 18) (pc' := 67) ci_13 rfl (Or.inl tw1296) dX12_look_64 rfl (fun v2 => ?_)
    refine sn_iload_n (v := x3) (pc' := 68) dX12_look_67 rfl rfl rfl ?_
    refine sn_iload (v := x5) (pc' := 70) dX12_look_68 rfl rfl ?_
    refine sn_iadd (pc' := 71) dX12_look_70 rfl ?_
    refine sn_aI (pc' := 72) dX12_look_71 rfl (fun v3 => ?_)
    refine sn_dup2 (pc' := 73) dX12_look_72 rfl rfl (cat_rf _) ?_
    refine sn_aI (pc' := 74) dX12_look_73 rfl (fun v4 => ?_)
    refine sn_iconst (v := (1 : Int32)) (pc' := 75) dX12_look_74 rfl (by decide) ?_
    refine sn_iadd (pc' := 76) dX12_look_75 rfl ?_
    refine sn_sI (pc' := 77) dX12_look_76 rfl (fun _ => ?_)
    refine sn_aload_n (v := (some this)) (pc' := 78) dX12_look_77 rfl rfl rfl ?_
    refine sn_gR (k := 40) (pc' := 81) ci_13 rfl (Or.inl tw1318) dX12_look_78 rfl (fun v5 => ?_)
    refine sn_iload (v := x5) (pc' := 83) dX12_look_81 rfl rfl ?_
    refine sn_iconst (v := (1 : Int32)) (pc' := 84) dX12_look_83 rfl (by decide) ?_
    refine sn_sI (pc' := 85) dX12_look_84 rfl (fun _ => ?_)
    refine sn_iload (v := x5) (pc' := 87) dX12_look_85 rfl rfl ?_
    refine sn_iconst (v := (1 : Int32)) (pc' := 88) dX12_look_87 rfl (by decide) ?_
    refine sn_iadd (pc' := 89) dX12_look_88 rfl ?_
    refine sn_istore (v := (x5 + (1 : Int32))) (L' := [some (va_rf (some this)), some (.int x1), none, some (.int x3), some (.int x4), some (.int x5), some (.int (x5 + (1 : Int32)))]) (pc' := 91) dX12_look_89 rfl rfl rfl ?_
    exact sn_weak (le_s (le_s (le_n (le_s (le_s (le_s (le_s le_e))))))) (s_X12_look_91 G k54 hk54 LFU this x1 x3 x4 x5 (x5 + (1 : Int32)))
set_option maxRecDepth 100000 in
set_option maxHeartbeats 4000000 in
theorem s_X12_look_54 (G : GG)   : ∀ (n : Nat) (this : Nat) (x1 : Int32) (x3 : Int32) (x4 : Int32) (x5 : Int32), Sn G yX12_look cX12_look 7 none 1 15 (fun _ : Unit => none) (X12_look_54  n this x1 x3 x4 x5) 54 [some (va_rf (some this)), some (.int x1), none, some (.int x3), some (.int x4), some (.int x5), none] [] := by
  intro n
  induction n with
  | zero => intro this x1 x3 x4 x5; exact sn_mf
  | succ n ih => intro this x1 x3 x4 x5; exact s_X12_look_54_st G   (X12_look_54  n) ih this x1 x3 x4 x5
set_option maxRecDepth 100000 in
set_option maxHeartbeats 4000000 in
theorem s_X12_look_41 (G : GG)   (this : Nat) (x1 : Int32) (x3 : Int32) : Sn G yX12_look cX12_look 7 none 1 15 (fun _ : Unit => none) (X12_look_41  this x1 x3) 41 [some (va_rf (some this)), some (.int x1), none, some (.int x3), none, none, none] [] := by
  unfold X12_look_41
  refine sn_iconst (v := (0 : Int32)) (pc' := 42) dX12_look_41 rfl (by decide) ?_
  refine sn_istore (v := (0 : Int32)) (L' := [some (va_rf (some this)), some (.int x1), none, some (.int x3), some (.int (0 : Int32)), none, none]) (pc' := 44) dX12_look_42 rfl rfl rfl ?_
  refine sn_aload_n (v := (some this)) (pc' := 45) dX12_look_44 rfl rfl rfl ?_
  refine sn_gR (k := 17) (pc' := 48) ci_13 rfl (Or.inl tw1295) dX12_look_45 rfl (fun v1 => ?_)
  refine sn_iload_n (v := x1) (pc' := 49) dX12_look_48 rfl rfl rfl ?_
  refine sn_aI (pc' := 50) dX12_look_49 rfl (fun v2 => ?_)
  refine sn_iconst (v := (1 : Int32)) (pc' := 51) dX12_look_50 rfl (by decide) ?_
  refine sn_isub (pc' := 52) dX12_look_51 rfl ?_
  refine sn_istore (v := (v2 - (1 : Int32))) (L' := [some (va_rf (some this)), some (.int x1), none, some (.int x3), some (.int (0 : Int32)), some (.int (v2 - (1 : Int32))), none]) (pc' := 54) dX12_look_52 rfl rfl rfl ?_
  exact sn_weak (le_s (le_s (le_n (le_s (le_s (le_s (le_n le_e))))))) (s_X12_look_54 G LFU this x1 x3 (0 : Int32) (v2 - (1 : Int32)))
set_option maxRecDepth 100000 in
set_option maxHeartbeats 4000000 in
theorem s_X12_look_16_st (G : GG)   (k16 : Nat → Int32 → Int32 → Int32 → Int32 → MM Unit) (hk16 : ∀ (this : Nat) (x1 : Int32) (x2 : Int32) (x3 : Int32) (x4 : Int32), Sn G yX12_look cX12_look 7 none 1 15 (fun _ : Unit => none) (k16 this x1 x2 x3 x4) 16 [some (va_rf (some this)), some (.int x1), some (.int x2), some (.int x3), some (.int x4), none, none] []) (this : Nat) (x1 : Int32) (x2 : Int32) (x3 : Int32) (x4 : Int32) : Sn G yX12_look cX12_look 7 none 1 15 (fun _ : Unit => none) (X12_look_16_st  k16 this x1 x2 x3 x4) 16 [some (va_rf (some this)), some (.int x1), some (.int x2), some (.int x3), some (.int x4), none, none] [] := by
  unfold X12_look_16_st
  refine sn_iload (v := x4) (pc' := 18) dX12_look_16 rfl rfl ?_
  refine sn_aload_n (v := (some this)) (pc' := 19) dX12_look_18 rfl rfl rfl ?_
  refine sn_gR (k := 11) (pc' := 22) ci_13 rfl (Or.inl tw1289) dX12_look_19 rfl (fun v1 => ?_)
  refine sn_iload_n (v := x2) (pc' := 23) dX12_look_22 rfl rfl rfl ?_
  refine sn_aI (pc' := 24) dX12_look_23 rfl (fun v2 => ?_)
  refine sn_ic_ge (pt := 41) (pf := 27) dX12_look_24 rfl rfl ?_ ?_
  · exact sn_weak (le_s (le_s (le_n (le_s (le_n (le_n (le_n le_e))))))) (s_X12_look_41 G this x1 x3)
  · refine sn_aload_n (v := (some this)) (pc' := 28) dX12_look_27 rfl rfl rfl ?_
    refine sn_gR (k := 39) (pc' := 31) ci_13 rfl (Or.inl tw1317) dX12_look_28 rfl (fun v3 => ?_)
    refine sn_iload (v := x4) (pc' := 33) dX12_look_31 rfl rfl ?_
    refine sn_iconst (v := (0 : Int32)) (pc' := 34) dX12_look_33 rfl (by decide) ?_
    refine sn_sI (pc' := 35) dX12_look_34 rfl (fun _ => ?_)
    refine sn_iinc (v := x4) (w := 1) (L' := [some (va_rf (some this)), some (.int x1), some (.int x2), some (.int x3), some (.int (x4 + (1 : Int32))), none, none]) (pc' := 38) dX12_look_35 rfl rfl rfl (by decide) rfl ?_
    refine sn_goto (pc' := 16) dX12_look_38 rfl ?_
    exact sn_weak (le_s (le_s (le_s (le_s (le_s (le_n (le_n le_e))))))) (hk16 this x1 x2 x3 (x4 + (1 : Int32)))
set_option maxRecDepth 100000 in
set_option maxHeartbeats 4000000 in
theorem s_X12_look_16 (G : GG)   : ∀ (n : Nat) (this : Nat) (x1 : Int32) (x2 : Int32) (x3 : Int32) (x4 : Int32), Sn G yX12_look cX12_look 7 none 1 15 (fun _ : Unit => none) (X12_look_16  n this x1 x2 x3 x4) 16 [some (va_rf (some this)), some (.int x1), some (.int x2), some (.int x3), some (.int x4), none, none] [] := by
  intro n
  induction n with
  | zero => intro this x1 x2 x3 x4; exact sn_mf
  | succ n ih => intro this x1 x2 x3 x4; exact s_X12_look_16_st G   (X12_look_16  n) ih this x1 x2 x3 x4
set_option maxRecDepth 100000 in
set_option maxHeartbeats 4000000 in
theorem s_X12_look (G : GG) (this : Nat) (a1 : Int32) : Sn G yX12_look cX12_look 7 none 1 15 (fun _ : Unit => none) (X12_look this a1) 0 [some (va_rf (some this)), some (.int a1), none, none, none, none, none] [] := by
  unfold X12_look
  refine sn_aload_n (v := (some this)) (pc' := 1) dX12_look_0 rfl rfl rfl ?_
  refine sn_gR (k := 16) (pc' := 4) ci_13 rfl (Or.inl tw1294) dX12_look_1 rfl (fun v1 => ?_)
  refine sn_iload_n (v := a1) (pc' := 5) dX12_look_4 rfl rfl rfl ?_
  refine sn_aI (pc' := 6) dX12_look_5 rfl (fun v2 => ?_)
  refine sn_istore_n (v := v2) (L' := [some (va_rf (some this)), some (.int a1), some (.int v2), none, none, none, none]) (pc' := 7) dX12_look_6 rfl rfl rfl rfl ?_
  refine sn_iload_n (v := a1) (pc' := 8) dX12_look_7 rfl rfl rfl ?_
  refine sn_sipush (v := (400 : Int32)) (pc' := 11) dX12_look_8 rfl (by decide) ?_
  refine sn_imul (pc' := 12) dX12_look_11 rfl ?_
  refine sn_istore_n (v := (a1 * (400 : Int32))) (L' := [some (va_rf (some this)), some (.int a1), some (.int v2), some (.int (a1 * (400 : Int32))), none, none, none]) (pc' := 13) dX12_look_12 rfl rfl rfl rfl ?_
  refine sn_iconst (v := (0 : Int32)) (pc' := 14) dX12_look_13 rfl (by decide) ?_
  refine sn_istore (v := (0 : Int32)) (L' := [some (va_rf (some this)), some (.int a1), some (.int v2), some (.int (a1 * (400 : Int32))), some (.int (0 : Int32)), none, none]) (pc' := 16) dX12_look_14 rfl rfl rfl ?_
  exact sn_weak (le_s (le_s (le_s (le_s (le_s (le_n (le_n le_e))))))) (s_X12_look_16 G LFU this a1 v2 (a1 * (400 : Int32)) (0 : Int32))
theorem c_X12_look (G : GG) (this : Nat) (a1 : Int32) : Cal G yX12_look cX12_look 7 none 1 15 (fun _ : Unit => none) (X12_look this a1) [.ref this, .int a1] :=
  Cal.of (by decide) (cat_t (cat_i cat_nil)) rfl (sn_weak (le_s (le_s (le_z (le_z (le_z (le_z (le_z le_e))))))) (s_X12_look G this a1))
theorem cw_X12_look : CW yX12_look cX12_look 7 none 1 := ⟨tw1705, tw15, by decide, by decide +kernel⟩
/-! X12_isTold -/
theorem dX12_isTold_0 : decode cX12_isTold 0 = .ok (.aload_n 0, 1) := by decide +kernel
theorem dX12_isTold_1 : decode cX12_isTold 1 = .ok (.getfield 236, 3) := by decide +kernel
theorem dX12_isTold_4 : decode cX12_isTold 4 = .ok (.iload_n 1, 1) := by decide +kernel
theorem dX12_isTold_5 : decode cX12_isTold 5 = .ok (.iaload, 1) := by decide +kernel
theorem dX12_isTold_6 : decode cX12_isTold 6 = .ok (.istore 4, 2) := by decide +kernel
theorem dX12_isTold_8 : decode cX12_isTold 8 = .ok (.iload_n 2, 1) := by decide +kernel
theorem dX12_isTold_9 : decode cX12_isTold 9 = .ok (.iconst 2, 1) := by decide +kernel
theorem dX12_isTold_10 : decode cX12_isTold 10 = .ok (.if_icmp .ne 18, 3) := by decide +kernel
theorem dX12_isTold_13 : decode cX12_isTold 13 = .ok (.aload_n 0, 1) := by decide +kernel
theorem dX12_isTold_14 : decode cX12_isTold 14 = .ok (.getfield 239, 3) := by decide +kernel
theorem dX12_isTold_17 : decode cX12_isTold 17 = .ok (.iload_n 3, 1) := by decide +kernel
theorem dX12_isTold_18 : decode cX12_isTold 18 = .ok (.iaload, 1) := by decide +kernel
theorem dX12_isTold_19 : decode cX12_isTold 19 = .ok (.ifCond .ne 7, 3) := by decide +kernel
theorem dX12_isTold_22 : decode cX12_isTold 22 = .ok (.iconst 1, 1) := by decide +kernel
theorem dX12_isTold_23 : decode cX12_isTold 23 = .ok (.goto 4, 3) := by decide +kernel
theorem dX12_isTold_26 : decode cX12_isTold 26 = .ok (.iconst 0, 1) := by decide +kernel
theorem dX12_isTold_27 : decode cX12_isTold 27 = .ok (.ireturn, 1) := by decide +kernel
theorem dX12_isTold_28 : decode cX12_isTold 28 = .ok (.iload_n 2, 1) := by decide +kernel
theorem dX12_isTold_29 : decode cX12_isTold 29 = .ok (.iconst 3, 1) := by decide +kernel
theorem dX12_isTold_30 : decode cX12_isTold 30 = .ok (.if_icmp .ne 19, 3) := by decide +kernel
theorem dX12_isTold_33 : decode cX12_isTold 33 = .ok (.aload_n 0, 1) := by decide +kernel
theorem dX12_isTold_34 : decode cX12_isTold 34 = .ok (.getfield 239, 3) := by decide +kernel
theorem dX12_isTold_37 : decode cX12_isTold 37 = .ok (.iload_n 3, 1) := by decide +kernel
theorem dX12_isTold_38 : decode cX12_isTold 38 = .ok (.iaload, 1) := by decide +kernel
theorem dX12_isTold_39 : decode cX12_isTold 39 = .ok (.iconst 1, 1) := by decide +kernel
theorem dX12_isTold_40 : decode cX12_isTold 40 = .ok (.if_icmp .le 7, 3) := by decide +kernel
theorem dX12_isTold_43 : decode cX12_isTold 43 = .ok (.iconst 1, 1) := by decide +kernel
theorem dX12_isTold_44 : decode cX12_isTold 44 = .ok (.goto 4, 3) := by decide +kernel
theorem dX12_isTold_47 : decode cX12_isTold 47 = .ok (.iconst 0, 1) := by decide +kernel
theorem dX12_isTold_48 : decode cX12_isTold 48 = .ok (.ireturn, 1) := by decide +kernel
theorem dX12_isTold_49 : decode cX12_isTold 49 = .ok (.iload_n 2, 1) := by decide +kernel
theorem dX12_isTold_50 : decode cX12_isTold 50 = .ok (.iconst 4, 1) := by decide +kernel
theorem dX12_isTold_51 : decode cX12_isTold 51 = .ok (.if_icmp .ne 18, 3) := by decide +kernel
theorem dX12_isTold_54 : decode cX12_isTold 54 = .ok (.aload_n 0, 1) := by decide +kernel
theorem dX12_isTold_55 : decode cX12_isTold 55 = .ok (.getfield 254, 3) := by decide +kernel
theorem dX12_isTold_58 : decode cX12_isTold 58 = .ok (.iload_n 3, 1) := by decide +kernel
theorem dX12_isTold_59 : decode cX12_isTold 59 = .ok (.baload, 1) := by decide +kernel
theorem dX12_isTold_60 : decode cX12_isTold 60 = .ok (.ifCond .ne 7, 3) := by decide +kernel
theorem dX12_isTold_63 : decode cX12_isTold 63 = .ok (.iconst 1, 1) := by decide +kernel
theorem dX12_isTold_64 : decode cX12_isTold 64 = .ok (.goto 4, 3) := by decide +kernel
theorem dX12_isTold_67 : decode cX12_isTold 67 = .ok (.iconst 0, 1) := by decide +kernel
theorem dX12_isTold_68 : decode cX12_isTold 68 = .ok (.ireturn, 1) := by decide +kernel
theorem dX12_isTold_69 : decode cX12_isTold 69 = .ok (.aload_n 0, 1) := by decide +kernel
theorem dX12_isTold_70 : decode cX12_isTold 70 = .ok (.iload 4, 2) := by decide +kernel
theorem dX12_isTold_72 : decode cX12_isTold 72 = .ok (.iload_n 3, 1) := by decide +kernel
theorem dX12_isTold_73 : decode cX12_isTold 73 = .ok (.invokevirtual 257, 3) := by decide +kernel
theorem dX12_isTold_76 : decode cX12_isTold 76 = .ok (.istore 5, 2) := by decide +kernel
theorem dX12_isTold_78 : decode cX12_isTold 78 = .ok (.aload_n 0, 1) := by decide +kernel
theorem dX12_isTold_79 : decode cX12_isTold 79 = .ok (.getfield 239, 3) := by decide +kernel
theorem dX12_isTold_82 : decode cX12_isTold 82 = .ok (.iload_n 3, 1) := by decide +kernel
theorem dX12_isTold_83 : decode cX12_isTold 83 = .ok (.iaload, 1) := by decide +kernel
theorem dX12_isTold_84 : decode cX12_isTold 84 = .ok (.ifCond .le 22, 3) := by decide +kernel
theorem dX12_isTold_87 : decode cX12_isTold 87 = .ok (.iload 5, 2) := by decide +kernel
theorem dX12_isTold_89 : decode cX12_isTold 89 = .ok (.ifCond .lt 17, 3) := by decide +kernel
theorem dX12_isTold_92 : decode cX12_isTold 92 = .ok (.aload_n 0, 1) := by decide +kernel
theorem dX12_isTold_93 : decode cX12_isTold 93 = .ok (.getfield 239, 3) := by decide +kernel
theorem dX12_isTold_96 : decode cX12_isTold 96 = .ok (.iload 5, 2) := by decide +kernel
theorem dX12_isTold_98 : decode cX12_isTold 98 = .ok (.iaload, 1) := by decide +kernel
theorem dX12_isTold_99 : decode cX12_isTold 99 = .ok (.ifCond .ne 7, 3) := by decide +kernel
theorem dX12_isTold_102 : decode cX12_isTold 102 = .ok (.iconst 1, 1) := by decide +kernel
theorem dX12_isTold_103 : decode cX12_isTold 103 = .ok (.goto 4, 3) := by decide +kernel
theorem dX12_isTold_106 : decode cX12_isTold 106 = .ok (.iconst 0, 1) := by decide +kernel
theorem dX12_isTold_107 : decode cX12_isTold 107 = .ok (.ireturn, 1) := by decide +kernel
def X12_isTold (this : Nat) (a1 : Int32) (a2 : Int32) (a3 : Int32) : MM Int32 :=
  mb (gR 13 (some this) 16) fun v1 =>
  mb (aI v1 a1) fun v2 =>
  if a2 = (2 : Int32) then (mb (gR 13 (some this) 39) fun v3 =>
  mb (aI v3 a3) fun v4 =>
  if v4 = 0 then (mr (1 : Int32)) else (mr (0 : Int32))) else (if a2 = (3 : Int32) then (mb (gR 13 (some this) 39) fun v5 =>
  mb (aI v5 a3) fun v6 =>
  if v6 ≤ (1 : Int32) then (mr (0 : Int32)) else (mr (1 : Int32))) else (if a2 = (4 : Int32) then (mb (gR 13 (some this) 41) fun v7 =>
  mb (aB v7 a3) fun v8 =>
  if v8 = 0 then (mr (1 : Int32)) else (mr (0 : Int32))) else (mb (wc 13 (some this) fun t => X12_conjugate t v2 a3) fun v9 =>
  mb (gR 13 (some this) 39) fun v10 =>
  mb (aI v10 a3) fun v11 =>
  if v11 ≤ 0 then (mr (0 : Int32)) else (if v9 < 0 then (mr (0 : Int32)) else (mb (gR 13 (some this) 39) fun v12 =>
  mb (aI v12 v9) fun v13 =>
  if v13 = 0 then (mr (1 : Int32)) else (mr (0 : Int32)))))))
set_option maxRecDepth 100000 in
set_option maxHeartbeats 4000000 in
theorem s_X12_isTold (G : GG) (this : Nat) (a1 : Int32) (a2 : Int32) (a3 : Int32) : Sn G yX12_isTold cX12_isTold 6 (some FieldType.boolean) 3 71 (fun v : Int32 => some (.int v)) (X12_isTold this a1 a2 a3) 0 [some (va_rf (some this)), some (.int a1), some (.int a2), some (.int a3), none, none] [] := by
  unfold X12_isTold
  refine sn_aload_n (v := (some this)) (pc' := 1) dX12_isTold_0 rfl rfl rfl ?_
  refine sn_gR (k := 16) (pc' := 4) ci_13 rfl (Or.inl tw1294) dX12_isTold_1 rfl (fun v1 => ?_)
  refine sn_iload_n (v := a1) (pc' := 5) dX12_isTold_4 rfl rfl rfl ?_
  refine sn_aI (pc' := 6) dX12_isTold_5 rfl (fun v2 => ?_)
  refine sn_istore (v := v2) (L' := [some (va_rf (some this)), some (.int a1), some (.int a2), some (.int a3), some (.int v2), none]) (pc' := 8) dX12_isTold_6 rfl rfl rfl ?_
  refine sn_iload_n (v := a2) (pc' := 9) dX12_isTold_8 rfl rfl rfl ?_
  refine sn_iconst (v := (2 : Int32)) (pc' := 10) dX12_isTold_9 rfl (by decide) ?_
  refine sn_ic_ne (pt := 28) (pf := 13) dX12_isTold_10 rfl rfl ?_ ?_
  · refine sn_aload_n (v := (some this)) (pc' := 14) dX12_isTold_13 rfl rfl rfl ?_
    refine sn_gR (k := 39) (pc' := 17) ci_13 rfl (Or.inl tw1317) dX12_isTold_14 rfl (fun v3 => ?_)
    refine sn_iload_n (v := a3) (pc' := 18) dX12_isTold_17 rfl rfl rfl ?_
    refine sn_aI (pc' := 19) dX12_isTold_18 rfl (fun v4 => ?_)
    refine sn_if_ne (pt := 26) (pf := 22) dX12_isTold_19 rfl rfl ?_ ?_
    · refine sn_iconst (v := (1 : Int32)) (pc' := 23) dX12_isTold_22 rfl (by decide) ?_
      refine sn_goto (pc' := 27) dX12_isTold_23 rfl ?_
      exact sn_iret dX12_isTold_27 rfl (by decide)
    · refine sn_iconst (v := (0 : Int32)) (pc' := 27) dX12_isTold_26 rfl (by decide) ?_
      exact sn_iret dX12_isTold_27 rfl (by decide)
  · refine sn_iload_n (v := a2) (pc' := 29) dX12_isTold_28 rfl rfl rfl ?_
    refine sn_iconst (v := (3 : Int32)) (pc' := 30) dX12_isTold_29 rfl (by decide) ?_
    refine sn_ic_ne (pt := 49) (pf := 33) dX12_isTold_30 rfl rfl ?_ ?_
    · refine sn_aload_n (v := (some this)) (pc' := 34) dX12_isTold_33 rfl rfl rfl ?_
      refine sn_gR (k := 39) (pc' := 37) ci_13 rfl (Or.inl tw1317) dX12_isTold_34 rfl (fun v5 => ?_)
      refine sn_iload_n (v := a3) (pc' := 38) dX12_isTold_37 rfl rfl rfl ?_
      refine sn_aI (pc' := 39) dX12_isTold_38 rfl (fun v6 => ?_)
      refine sn_iconst (v := (1 : Int32)) (pc' := 40) dX12_isTold_39 rfl (by decide) ?_
      refine sn_ic_le (pt := 47) (pf := 43) dX12_isTold_40 rfl rfl ?_ ?_
      · refine sn_iconst (v := (0 : Int32)) (pc' := 48) dX12_isTold_47 rfl (by decide) ?_
        exact sn_iret dX12_isTold_48 rfl (by decide)
      · refine sn_iconst (v := (1 : Int32)) (pc' := 44) dX12_isTold_43 rfl (by decide) ?_
        refine sn_goto (pc' := 48) dX12_isTold_44 rfl ?_
        exact sn_iret dX12_isTold_48 rfl (by decide)
    · refine sn_iload_n (v := a2) (pc' := 50) dX12_isTold_49 rfl rfl rfl ?_
      refine sn_iconst (v := (4 : Int32)) (pc' := 51) dX12_isTold_50 rfl (by decide) ?_
      refine sn_ic_ne (pt := 69) (pf := 54) dX12_isTold_51 rfl rfl ?_ ?_
      · refine sn_aload_n (v := (some this)) (pc' := 55) dX12_isTold_54 rfl rfl rfl ?_
        refine sn_gR (k := 41) (pc' := 58) ci_13 rfl (Or.inl tw1319) dX12_isTold_55 rfl (fun v7 => ?_)
        refine sn_iload_n (v := a3) (pc' := 59) dX12_isTold_58 rfl rfl rfl ?_
        refine sn_aB (pc' := 60) dX12_isTold_59 rfl (fun v8 => ?_)
        refine sn_if_ne (pt := 67) (pf := 63) dX12_isTold_60 rfl rfl ?_ ?_
        · refine sn_iconst (v := (1 : Int32)) (pc' := 64) dX12_isTold_63 rfl (by decide) ?_
          refine sn_goto (pc' := 68) dX12_isTold_64 rfl ?_
          exact sn_iret dX12_isTold_68 rfl (by decide)
        · refine sn_iconst (v := (0 : Int32)) (pc' := 68) dX12_isTold_67 rfl (by decide) ?_
          exact sn_iret dX12_isTold_68 rfl (by decide)
      · refine sn_aload_n (v := (some this)) (pc' := 70) dX12_isTold_69 rfl rfl rfl ?_
        refine sn_iload (v := v2) (pc' := 72) dX12_isTold_70 rfl rfl ?_
        refine sn_iload_n (v := a3) (pc' := 73) dX12_isTold_72 rfl rfl rfl ?_
        refine sn_cV (r := (some this)) (st := []) (As := [.int v2, .int a3]) (st2 := (fun v => .int v :: [])) (pc' := 76) ci_13 (fun t => c_X12_conjugate G t v2 a3) cw_X12_conjugate rfl rfl tw1618 pw75 tw1620 rfl rfl cat_nil rfl (fun _ => rfl) dX12_isTold_73 rfl (fun v9 => ?_)
        refine sn_istore (v := v9) (L' := [some (va_rf (some this)), some (.int a1), some (.int a2), some (.int a3), some (.int v2), some (.int v9)]) (pc' := 78) dX12_isTold_76 rfl rfl rfl ?_
        refine sn_aload_n (v := (some this)) (pc' := 79) dX12_isTold_78 rfl rfl rfl ?_
        refine sn_gR (k := 39) (pc' := 82) ci_13 rfl (Or.inl tw1317) dX12_isTold_79 rfl (fun v10 => ?_)
        refine sn_iload_n (v := a3) (pc' := 83) dX12_isTold_82 rfl rfl rfl ?_
        refine sn_aI (pc' := 84) dX12_isTold_83 rfl (fun v11 => ?_)
        refine sn_if_le (pt := 106) (pf := 87) dX12_isTold_84 rfl rfl ?_ ?_
        · refine sn_iconst (v := (0 : Int32)) (pc' := 107) dX12_isTold_106 rfl (by decide) ?_
          exact sn_iret dX12_isTold_107 rfl (by decide)
        · refine sn_iload (v := v9) (pc' := 89) dX12_isTold_87 rfl rfl ?_
          refine sn_if_lt (pt := 106) (pf := 92) dX12_isTold_89 rfl rfl ?_ ?_
          · refine sn_iconst (v := (0 : Int32)) (pc' := 107) dX12_isTold_106 rfl (by decide) ?_
            exact sn_iret dX12_isTold_107 rfl (by decide)
          · refine sn_aload_n (v := (some this)) (pc' := 93) dX12_isTold_92 rfl rfl rfl ?_
            refine sn_gR (k := 39) (pc' := 96) ci_13 rfl (Or.inl tw1317) dX12_isTold_93 rfl (fun v12 => ?_)
            refine sn_iload (v := v9) (pc' := 98) dX12_isTold_96 rfl rfl ?_
            refine sn_aI (pc' := 99) dX12_isTold_98 rfl (fun v13 => ?_)
            refine sn_if_ne (pt := 106) (pf := 102) dX12_isTold_99 rfl rfl ?_ ?_
            · refine sn_iconst (v := (1 : Int32)) (pc' := 103) dX12_isTold_102 rfl (by decide) ?_
              refine sn_goto (pc' := 107) dX12_isTold_103 rfl ?_
              exact sn_iret dX12_isTold_107 rfl (by decide)
            · refine sn_iconst (v := (0 : Int32)) (pc' := 107) dX12_isTold_106 rfl (by decide) ?_
              exact sn_iret dX12_isTold_107 rfl (by decide)
theorem c_X12_isTold (G : GG) (this : Nat) (a1 : Int32) (a2 : Int32) (a3 : Int32) : Cal G yX12_isTold cX12_isTold 6 (some FieldType.boolean) 3 71 (fun v : Int32 => some (.int v)) (X12_isTold this a1 a2 a3) [.ref this, .int a1, .int a2, .int a3] :=
  Cal.of (by decide) (cat_t (cat_i (cat_i (cat_i cat_nil)))) rfl (sn_weak (le_s (le_s (le_s (le_s (le_z (le_z le_e)))))) (s_X12_isTold G this a1 a2 a3))
theorem cw_X12_isTold : CW yX12_isTold cX12_isTold 6 (some FieldType.boolean) 3 := ⟨tw1718, tw15, by decide, by decide +kernel⟩
/-! X12_many -/
theorem dX12_many_0 : decode cX12_many 0 = .ok (.iload_n 2, 1) := by decide +kernel
theorem dX12_many_1 : decode cX12_many 1 = .ok (.iconst 4, 1) := by decide +kernel
theorem dX12_many_2 : decode cX12_many 2 = .ok (.if_icmp .ne 12, 3) := by decide +kernel
theorem dX12_many_5 : decode cX12_many 5 = .ok (.aload_n 0, 1) := by decide +kernel
theorem dX12_many_6 : decode cX12_many 6 = .ok (.getfield 242, 3) := by decide +kernel
theorem dX12_many_9 : decode cX12_many 9 = .ok (.iload_n 1, 1) := by decide +kernel
theorem dX12_many_10 : decode cX12_many 10 = .ok (.iaload, 1) := by decide +kernel
theorem dX12_many_11 : decode cX12_many 11 = .ok (.goto 14, 3) := by decide +kernel
theorem dX12_many_14 : decode cX12_many 14 = .ok (.aload_n 0, 1) := by decide +kernel
theorem dX12_many_15 : decode cX12_many 15 = .ok (.getfield 46, 3) := by decide +kernel
theorem dX12_many_18 : decode cX12_many 18 = .ok (.aload_n 0, 1) := by decide +kernel
theorem dX12_many_19 : decode cX12_many 19 = .ok (.getfield 236, 3) := by decide +kernel
theorem dX12_many_22 : decode cX12_many 22 = .ok (.iload_n 1, 1) := by decide +kernel
theorem dX12_many_23 : decode cX12_many 23 = .ok (.iaload, 1) := by decide +kernel
theorem dX12_many_24 : decode cX12_many 24 = .ok (.iaload, 1) := by decide +kernel
theorem dX12_many_25 : decode cX12_many 25 = .ok (.ireturn, 1) := by decide +kernel
def X12_many (this : Nat) (a1 : Int32) (a2 : Int32) : MM Int32 :=
  if a2 = (4 : Int32) then (mb (gR 13 (some this) 17) fun v1 =>
  mb (aI v1 a1) fun v2 =>
  mr v2) else (mb (gR 13 (some this) 11) fun v3 =>
  mb (gR 13 (some this) 16) fun v4 =>
  mb (aI v4 a1) fun v5 =>
  mb (aI v3 v5) fun v6 =>
  mr v6)
set_option maxRecDepth 100000 in
set_option maxHeartbeats 4000000 in
theorem s_X12_many (G : GG) (this : Nat) (a1 : Int32) (a2 : Int32) : Sn G yX12_many cX12_many 3 (some FieldType.int) 0 0 (fun v : Int32 => some (.int v)) (X12_many this a1 a2) 0 [some (va_rf (some this)), some (.int a1), some (.int a2)] [] := by
  unfold X12_many
  refine sn_iload_n (v := a2) (pc' := 1) dX12_many_0 rfl rfl rfl ?_
  refine sn_iconst (v := (4 : Int32)) (pc' := 2) dX12_many_1 rfl (by decide) ?_
  refine sn_ic_ne (pt := 14) (pf := 5) dX12_many_2 rfl rfl ?_ ?_
  · refine sn_aload_n (v := (some this)) (pc' := 6) dX12_many_5 rfl rfl rfl ?_
    refine sn_gR (k := 17) (pc' := 9) ci_13 rfl (Or.inl tw1295) dX12_many_6 rfl (fun v1 => ?_)
    refine sn_iload_n (v := a1) (pc' := 10) dX12_many_9 rfl rfl rfl ?_
    refine sn_aI (pc' := 11) dX12_many_10 rfl (fun v2 => ?_)
    refine sn_goto (pc' := 25) dX12_many_11 rfl ?_
    exact sn_iret dX12_many_25 rfl rfl
  · refine sn_aload_n (v := (some this)) (pc' := 15) dX12_many_14 rfl rfl rfl ?_
    refine sn_gR (k := 11) (pc' := 18) ci_13 rfl (Or.inl tw1289) dX12_many_15 rfl (fun v3 => ?_)
    refine sn_aload_n (v := (some this)) (pc' := 19) dX12_many_18 rfl rfl rfl ?_
    refine sn_gR (k := 16) (pc' := 22) ci_13 rfl (Or.inl tw1294) dX12_many_19 rfl (fun v4 => ?_)
    refine sn_iload_n (v := a1) (pc' := 23) dX12_many_22 rfl rfl rfl ?_
    refine sn_aI (pc' := 24) dX12_many_23 rfl (fun v5 => ?_)
    refine sn_aI (pc' := 25) dX12_many_24 rfl (fun v6 => ?_)
    exact sn_iret dX12_many_25 rfl rfl
theorem c_X12_many (G : GG) (this : Nat) (a1 : Int32) (a2 : Int32) : Cal G yX12_many cX12_many 3 (some FieldType.int) 0 0 (fun v : Int32 => some (.int v)) (X12_many this a1 a2) [.ref this, .int a1, .int a2] :=
  Cal.of (by decide) (cat_t (cat_i (cat_i cat_nil))) rfl (sn_weak (le_s (le_s (le_s le_e))) (s_X12_many G this a1 a2))
theorem cw_X12_many : CW yX12_many cX12_many 3 (some FieldType.int) 2 := ⟨tw1714, tw15, by decide, by decide +kernel⟩
/-! X12_writeRuns -/
theorem dX12_writeRuns_0 : decode cX12_writeRuns 0 = .ok (.aload_n 0, 1) := by decide +kernel
theorem dX12_writeRuns_1 : decode cX12_writeRuns 1 = .ok (.getfield 236, 3) := by decide +kernel
theorem dX12_writeRuns_4 : decode cX12_writeRuns 4 = .ok (.iload_n 1, 1) := by decide +kernel
theorem dX12_writeRuns_5 : decode cX12_writeRuns 5 = .ok (.iaload, 1) := by decide +kernel
theorem dX12_writeRuns_6 : decode cX12_writeRuns 6 = .ok (.istore_n 3, 1) := by decide +kernel
theorem dX12_writeRuns_7 : decode cX12_writeRuns 7 = .ok (.iconst 0, 1) := by decide +kernel
theorem dX12_writeRuns_8 : decode cX12_writeRuns 8 = .ok (.istore 4, 2) := by decide +kernel
theorem dX12_writeRuns_10 : decode cX12_writeRuns 10 = .ok (.iconst 0, 1) := by decide +kernel
theorem dX12_writeRuns_11 : decode cX12_writeRuns 11 = .ok (.istore 5, 2) := by decide +kernel
theorem dX12_writeRuns_13 : decode cX12_writeRuns 13 = .ok (.iload 5, 2) := by decide +kernel
theorem dX12_writeRuns_15 : decode cX12_writeRuns 15 = .ok (.aload_n 0, 1) := by decide +kernel
theorem dX12_writeRuns_16 : decode cX12_writeRuns 16 = .ok (.getfield 46, 3) := by decide +kernel
theorem dX12_writeRuns_19 : decode cX12_writeRuns 19 = .ok (.iload_n 3, 1) := by decide +kernel
theorem dX12_writeRuns_20 : decode cX12_writeRuns 20 = .ok (.iaload, 1) := by decide +kernel
theorem dX12_writeRuns_21 : decode cX12_writeRuns 21 = .ok (.if_icmp .ge 107, 3) := by decide +kernel
theorem dX12_writeRuns_24 : decode cX12_writeRuns 24 = .ok (.aload_n 0, 1) := by decide +kernel
theorem dX12_writeRuns_25 : decode cX12_writeRuns 25 = .ok (.iload_n 1, 1) := by decide +kernel
theorem dX12_writeRuns_26 : decode cX12_writeRuns 26 = .ok (.iload_n 2, 1) := by decide +kernel
theorem dX12_writeRuns_27 : decode cX12_writeRuns 27 = .ok (.iload 5, 2) := by decide +kernel
theorem dX12_writeRuns_29 : decode cX12_writeRuns 29 = .ok (.invokevirtual 260, 3) := by decide +kernel
theorem dX12_writeRuns_32 : decode cX12_writeRuns 32 = .ok (.ifCond .ne 9, 3) := by decide +kernel
theorem dX12_writeRuns_35 : decode cX12_writeRuns 35 = .ok (.iinc 5 1, 3) := by decide +kernel
theorem dX12_writeRuns_38 : decode cX12_writeRuns 38 = .ok (.goto (-25), 3) := by decide +kernel
theorem dX12_writeRuns_41 : decode cX12_writeRuns 41 = .ok (.iload 5, 2) := by decide +kernel
theorem dX12_writeRuns_43 : decode cX12_writeRuns 43 = .ok (.istore 6, 2) := by decide +kernel
theorem dX12_writeRuns_45 : decode cX12_writeRuns 45 = .ok (.iload 6, 2) := by decide +kernel
theorem dX12_writeRuns_47 : decode cX12_writeRuns 47 = .ok (.iconst 1, 1) := by decide +kernel
theorem dX12_writeRuns_48 : decode cX12_writeRuns 48 = .ok (.iadd, 1) := by decide +kernel
theorem dX12_writeRuns_49 : decode cX12_writeRuns 49 = .ok (.aload_n 0, 1) := by decide +kernel
theorem dX12_writeRuns_50 : decode cX12_writeRuns 50 = .ok (.getfield 46, 3) := by decide +kernel
theorem dX12_writeRuns_53 : decode cX12_writeRuns 53 = .ok (.iload_n 3, 1) := by decide +kernel
theorem dX12_writeRuns_54 : decode cX12_writeRuns 54 = .ok (.iaload, 1) := by decide +kernel
theorem dX12_writeRuns_55 : decode cX12_writeRuns 55 = .ok (.if_icmp .ge 22, 3) := by decide +kernel
theorem dX12_writeRuns_58 : decode cX12_writeRuns 58 = .ok (.aload_n 0, 1) := by decide +kernel
theorem dX12_writeRuns_59 : decode cX12_writeRuns 59 = .ok (.iload_n 1, 1) := by decide +kernel
theorem dX12_writeRuns_60 : decode cX12_writeRuns 60 = .ok (.iload_n 2, 1) := by decide +kernel
theorem dX12_writeRuns_61 : decode cX12_writeRuns 61 = .ok (.iload 6, 2) := by decide +kernel
theorem dX12_writeRuns_63 : decode cX12_writeRuns 63 = .ok (.iconst 1, 1) := by decide +kernel
theorem dX12_writeRuns_64 : decode cX12_writeRuns 64 = .ok (.iadd, 1) := by decide +kernel
theorem dX12_writeRuns_65 : decode cX12_writeRuns 65 = .ok (.invokevirtual 260, 3) := by decide +kernel
theorem dX12_writeRuns_68 : decode cX12_writeRuns 68 = .ok (.ifCond .eq 9, 3) := by decide +kernel
theorem dX12_writeRuns_71 : decode cX12_writeRuns 71 = .ok (.iinc 6 1, 3) := by decide +kernel
theorem dX12_writeRuns_74 : decode cX12_writeRuns 74 = .ok (.goto (-29), 3) := by decide +kernel
theorem dX12_writeRuns_77 : decode cX12_writeRuns 77 = .ok (.iload 4, 2) := by decide +kernel
theorem dX12_writeRuns_79 : decode cX12_writeRuns 79 = .ok (.ifCond .eq 10, 3) := by decide +kernel
theorem dX12_writeRuns_82 : decode cX12_writeRuns 82 = .ok (.aload_n 0, 1) := by decide +kernel
theorem dX12_writeRuns_83 : decode cX12_writeRuns 83 = .ok (.ldc_w 263, 3) := by decide +kernel
theorem dX12_writeRuns_86 : decode cX12_writeRuns 86 = .ok (.invokevirtual 211, 3) := by decide +kernel
theorem dX12_writeRuns_89 : decode cX12_writeRuns 89 = .ok (.iconst 1, 1) := by decide +kernel
theorem dX12_writeRuns_90 : decode cX12_writeRuns 90 = .ok (.istore 4, 2) := by decide +kernel
theorem dX12_writeRuns_92 : decode cX12_writeRuns 92 = .ok (.aload_n 0, 1) := by decide +kernel
theorem dX12_writeRuns_93 : decode cX12_writeRuns 93 = .ok (.iload_n 3, 1) := by decide +kernel
theorem dX12_writeRuns_94 : decode cX12_writeRuns 94 = .ok (.iload 5, 2) := by decide +kernel
theorem dX12_writeRuns_96 : decode cX12_writeRuns 96 = .ok (.invokevirtual 265, 3) := by decide +kernel
theorem dX12_writeRuns_99 : decode cX12_writeRuns 99 = .ok (.iload 6, 2) := by decide +kernel
theorem dX12_writeRuns_101 : decode cX12_writeRuns 101 = .ok (.iload 5, 2) := by decide +kernel
theorem dX12_writeRuns_103 : decode cX12_writeRuns 103 = .ok (.if_icmp .le 16, 3) := by decide +kernel
theorem dX12_writeRuns_106 : decode cX12_writeRuns 106 = .ok (.aload_n 0, 1) := by decide +kernel
theorem dX12_writeRuns_107 : decode cX12_writeRuns 107 = .ok (.bipush 45, 2) := by decide +kernel
theorem dX12_writeRuns_109 : decode cX12_writeRuns 109 = .ok (.invokevirtual 208, 3) := by decide +kernel
theorem dX12_writeRuns_112 : decode cX12_writeRuns 112 = .ok (.aload_n 0, 1) := by decide +kernel
theorem dX12_writeRuns_113 : decode cX12_writeRuns 113 = .ok (.iload_n 3, 1) := by decide +kernel
theorem dX12_writeRuns_114 : decode cX12_writeRuns 114 = .ok (.iload 6, 2) := by decide +kernel
theorem dX12_writeRuns_116 : decode cX12_writeRuns 116 = .ok (.invokevirtual 265, 3) := by decide +kernel
theorem dX12_writeRuns_119 : decode cX12_writeRuns 119 = .ok (.iload 6, 2) := by decide +kernel
theorem dX12_writeRuns_121 : decode cX12_writeRuns 121 = .ok (.iconst 1, 1) := by decide +kernel
theorem dX12_writeRuns_122 : decode cX12_writeRuns 122 = .ok (.iadd, 1) := by decide +kernel
theorem dX12_writeRuns_123 : decode cX12_writeRuns 123 = .ok (.istore 5, 2) := by decide +kernel
theorem dX12_writeRuns_125 : decode cX12_writeRuns 125 = .ok (.goto (-112), 3) := by decide +kernel
theorem dX12_writeRuns_128 : decode cX12_writeRuns 128 = .ok (.return_, 1) := by decide +kernel
def X12_writeRuns_119 (k13 : Nat → Int32 → Int32 → Int32 → Int32 → Int32 → MM Unit) (this : Nat) (x1 : Int32) (x2 : Int32) (x3 : Int32) (x4 : Int32) (x6 : Int32) : MM Unit :=
  (k13 this x1 x2 x3 x4 (x6 + (1 : Int32)))
def X12_writeRuns_89 (k13 : Nat → Int32 → Int32 → Int32 → Int32 → Int32 → MM Unit) (this : Nat) (x1 : Int32) (x2 : Int32) (x3 : Int32) (x5 : Int32) (x6 : Int32) : MM Unit :=
  mb (wc 13 (some this) fun t => X12_writeName t x3 x5) fun _ =>
  if x6 ≤ x5 then ((X12_writeRuns_119 k13 this x1 x2 x3 (1 : Int32) x6)) else (mb (wc 13 (some this) fun t => X12_write t (45 : Int32)) fun _ =>
  mb (wc 13 (some this) fun t => X12_writeName t x3 x6) fun _ =>
  (X12_writeRuns_119 k13 this x1 x2 x3 (1 : Int32) x6))
def X12_writeRuns_77 (k13 : Nat → Int32 → Int32 → Int32 → Int32 → Int32 → MM Unit) (this : Nat) (x1 : Int32) (x2 : Int32) (x3 : Int32) (x4 : Int32) (x5 : Int32) (x6 : Int32) : MM Unit :=
  if x4 = 0 then ((X12_writeRuns_89 k13 this x1 x2 x3 x5 x6)) else (mb (kR 14) fun v1 =>
  mb (wc 13 (some this) fun t => X12_writeWord t v1) fun _ =>
  (X12_writeRuns_89 k13 this x1 x2 x3 x5 x6))
def X12_writeRuns_45_st (k13 : Nat → Int32 → Int32 → Int32 → Int32 → Int32 → MM Unit) (k45 : Nat → Int32 → Int32 → Int32 → Int32 → Int32 → Int32 → MM Unit) (this : Nat) (x1 : Int32) (x2 : Int32) (x3 : Int32) (x4 : Int32) (x5 : Int32) (x6 : Int32) : MM Unit :=
  mb (gR 13 (some this) 11) fun v1 =>
  mb (aI v1 x3) fun v2 =>
  if v2 ≤ (x6 + (1 : Int32)) then ((X12_writeRuns_77 k13 this x1 x2 x3 x4 x5 x6)) else (mb (wc 13 (some this) fun t => X12_isTold t x1 x2 (x6 + (1 : Int32))) fun v3 =>
  if v3 = 0 then ((X12_writeRuns_77 k13 this x1 x2 x3 x4 x5 x6)) else ((k45 this x1 x2 x3 x4 x5 (x6 + (1 : Int32)))))
def X12_writeRuns_45 (k13 : Nat → Int32 → Int32 → Int32 → Int32 → Int32 → MM Unit) : Nat → Nat → Int32 → Int32 → Int32 → Int32 → Int32 → Int32 → MM Unit
  | 0 => fun _ _ _ _ _ _ _ => mf
  | n + 1 => fun this x1 x2 x3 x4 x5 x6 => X12_writeRuns_45_st k13 (X12_writeRuns_45 k13 n) this x1 x2 x3 x4 x5 x6
def X12_writeRuns_13_st  (k13 : Nat → Int32 → Int32 → Int32 → Int32 → Int32 → MM Unit) (this : Nat) (x1 : Int32) (x2 : Int32) (x3 : Int32) (x4 : Int32) (x5 : Int32) : MM Unit :=
  mb (gR 13 (some this) 11) fun v1 =>
  mb (aI v1 x3) fun v2 =>
  if v2 ≤ x5 then (mr ()) else (mb (wc 13 (some this) fun t => X12_isTold t x1 x2 x5) fun v3 =>
  if v3 = 0 then ((k13 this x1 x2 x3 x4 (x5 + (1 : Int32)))) else ((X12_writeRuns_45 k13 LFU this x1 x2 x3 x4 x5 x5)))
def X12_writeRuns_13  : Nat → Nat → Int32 → Int32 → Int32 → Int32 → Int32 → MM Unit
  | 0 => fun _ _ _ _ _ _ => mf
  | n + 1 => fun this x1 x2 x3 x4 x5 => X12_writeRuns_13_st  (X12_writeRuns_13  n) this x1 x2 x3 x4 x5
def X12_writeRuns (this : Nat) (a1 : Int32) (a2 : Int32) : MM Unit :=
  mb (gR 13 (some this) 16) fun v1 =>
  mb (aI v1 a1) fun v2 =>
  (X12_writeRuns_13 LFU this a1 a2 v2 (0 : Int32) (0 : Int32))
set_option maxRecDepth 100000 in
set_option maxHeartbeats 4000000 in
theorem s_X12_writeRuns_119 (G : GG) (k13 : Nat → Int32 → Int32 → Int32 → Int32 → Int32 → MM Unit) (hk13 : ∀ (this : Nat) (x1 : Int32) (x2 : Int32) (x3 : Int32) (x4 : Int32) (x5 : Int32), Sn G yX12_writeRuns cX12_writeRuns 7 none 7 152 (fun _ : Unit => none) (k13 this x1 x2 x3 x4 x5) 13 [some (va_rf (some this)), some (.int x1), some (.int x2), some (.int x3), some (.int x4), some (.int x5), none] []) (this : Nat) (x1 : Int32) (x2 : Int32) (x3 : Int32) (x4 : Int32) (x6 : Int32) : Sn G yX12_writeRuns cX12_writeRuns 7 none 7 152 (fun _ : Unit => none) (X12_writeRuns_119 k13 this x1 x2 x3 x4 x6) 119 [some (va_rf (some this)), some (.int x1), some (.int x2), some (.int x3), some (.int x4), none, some (.int x6)] [] := by
  unfold X12_writeRuns_119
  refine sn_iload (v := x6) (pc' := 121) dX12_writeRuns_119 rfl rfl ?_
  refine sn_iconst (v := (1 : Int32)) (pc' := 122) dX12_writeRuns_121 rfl (by decide) ?_
  refine sn_iadd (pc' := 123) dX12_writeRuns_122 rfl ?_
  refine sn_istore (v := (x6 + (1 : Int32))) (L' := [some (va_rf (some this)), some (.int x1), some (.int x2), some (.int x3), some (.int x4), some (.int (x6 + (1 : Int32))), some (.int x6)]) (pc' := 125) dX12_writeRuns_123 rfl rfl rfl ?_
  refine sn_goto (pc' := 13) dX12_writeRuns_125 rfl ?_
  exact sn_weak (le_s (le_s (le_s (le_s (le_s (le_s (le_n le_e))))))) (hk13 this x1 x2 x3 x4 (x6 + (1 : Int32)))
set_option maxRecDepth 100000 in
set_option maxHeartbeats 4000000 in
theorem s_X12_writeRuns_89 (G : GG) (k13 : Nat → Int32 → Int32 → Int32 → Int32 → Int32 → MM Unit) (hk13 : ∀ (this : Nat) (x1 : Int32) (x2 : Int32) (x3 : Int32) (x4 : Int32) (x5 : Int32), Sn G yX12_writeRuns cX12_writeRuns 7 none 7 152 (fun _ : Unit => none) (k13 this x1 x2 x3 x4 x5) 13 [some (va_rf (some this)), some (.int x1), some (.int x2), some (.int x3), some (.int x4), some (.int x5), none] []) (this : Nat) (x1 : Int32) (x2 : Int32) (x3 : Int32) (x5 : Int32) (x6 : Int32) : Sn G yX12_writeRuns cX12_writeRuns 7 none 7 152 (fun _ : Unit => none) (X12_writeRuns_89 k13 this x1 x2 x3 x5 x6) 89 [some (va_rf (some this)), some (.int x1), some (.int x2), some (.int x3), none, some (.int x5), some (.int x6)] [] := by
  unfold X12_writeRuns_89
  refine sn_iconst (v := (1 : Int32)) (pc' := 90) dX12_writeRuns_89 rfl (by decide) ?_
  refine sn_istore (v := (1 : Int32)) (L' := [some (va_rf (some this)), some (.int x1), some (.int x2), some (.int x3), some (.int (1 : Int32)), some (.int x5), some (.int x6)]) (pc' := 92) dX12_writeRuns_90 rfl rfl rfl ?_
  refine sn_aload_n (v := (some this)) (pc' := 93) dX12_writeRuns_92 rfl rfl rfl ?_
  refine sn_iload_n (v := x3) (pc' := 94) dX12_writeRuns_93 rfl rfl rfl ?_
  refine sn_iload (v := x5) (pc' := 96) dX12_writeRuns_94 rfl rfl ?_
  refine sn_cV (r := (some this)) (st := []) (As := [.int x3, .int x5]) (st2 := (fun _ => [])) (pc' := 99) ci_13 (fun t => c_X12_writeName G t x3 x5) cw_X12_writeName rfl rfl tw1661 pw83 tw1663 rfl rfl cat_nil rfl (fun _ => rfl) dX12_writeRuns_96 rfl (fun _ => ?_)
  refine sn_iload (v := x6) (pc' := 101) dX12_writeRuns_99 rfl rfl ?_
  refine sn_iload (v := x5) (pc' := 103) dX12_writeRuns_101 rfl rfl ?_
  refine sn_ic_le (pt := 119) (pf := 106) dX12_writeRuns_103 rfl rfl ?_ ?_
  · exact sn_weak (le_s (le_s (le_s (le_s (le_s (le_n (le_s le_e))))))) (s_X12_writeRuns_119 G k13 hk13 this x1 x2 x3 (1 : Int32) x6)
  · refine sn_aload_n (v := (some this)) (pc' := 107) dX12_writeRuns_106 rfl rfl rfl ?_
    refine sn_bipush (v := (45 : Int32)) (pc' := 109) dX12_writeRuns_107 rfl (by decide) ?_
    refine sn_cV (r := (some this)) (st := []) (As := [.int (45 : Int32)]) (st2 := (fun _ => [])) (pc' := 112) ci_13 (fun t => c_X12_write G t (45 : Int32)) cw_X12_write rfl rfl tw1633 pw77 tw1635 rfl rfl cat_nil rfl (fun _ => rfl) dX12_writeRuns_109 rfl (fun _ => ?_)
    refine sn_aload_n (v := (some this)) (pc' := 113) dX12_writeRuns_112 rfl rfl rfl ?_
    refine sn_iload_n (v := x3) (pc' := 114) dX12_writeRuns_113 rfl rfl rfl ?_
    refine sn_iload (v := x6) (pc' := 116) dX12_writeRuns_114 rfl rfl ?_
    refine sn_cV (r := (some this)) (st := []) (As := [.int x3, .int x6]) (st2 := (fun _ => [])) (pc' := 119) ci_13 (fun t => c_X12_writeName G t x3 x6) cw_X12_writeName rfl rfl tw1661 pw83 tw1663 rfl rfl cat_nil rfl (fun _ => rfl) dX12_writeRuns_116 rfl (fun _ => ?_)
    exact sn_weak (le_s (le_s (le_s (le_s (le_s (le_n (le_s le_e))))))) (s_X12_writeRuns_119 G k13 hk13 this x1 x2 x3 (1 : Int32) x6)
set_option maxRecDepth 100000 in
set_option maxHeartbeats 4000000 in
theorem s_X12_writeRuns_77 (G : GG) (k13 : Nat → Int32 → Int32 → Int32 → Int32 → Int32 → MM Unit) (hk13 : ∀ (this : Nat) (x1 : Int32) (x2 : Int32) (x3 : Int32) (x4 : Int32) (x5 : Int32), Sn G yX12_writeRuns cX12_writeRuns 7 none 7 152 (fun _ : Unit => none) (k13 this x1 x2 x3 x4 x5) 13 [some (va_rf (some this)), some (.int x1), some (.int x2), some (.int x3), some (.int x4), some (.int x5), none] []) (this : Nat) (x1 : Int32) (x2 : Int32) (x3 : Int32) (x4 : Int32) (x5 : Int32) (x6 : Int32) : Sn G yX12_writeRuns cX12_writeRuns 7 none 7 152 (fun _ : Unit => none) (X12_writeRuns_77 k13 this x1 x2 x3 x4 x5 x6) 77 [some (va_rf (some this)), some (.int x1), some (.int x2), some (.int x3), some (.int x4), some (.int x5), some (.int x6)] [] := by
  unfold X12_writeRuns_77
  refine sn_iload (v := x4) (pc' := 79) dX12_writeRuns_77 rfl rfl ?_
  refine sn_if_eq (pt := 89) (pf := 82) dX12_writeRuns_79 rfl rfl ?_ ?_
  · exact sn_weak (le_s (le_s (le_s (le_s (le_n (le_s (le_s le_e))))))) (s_X12_writeRuns_89 G k13 hk13 this x1 x2 x3 x5 x6)
  · refine sn_aload_n (v := (some this)) (pc' := 83) dX12_writeRuns_82 rfl rfl rfl ?_
    refine sn_kSw (i := 14) (pc' := 86) (tx := ", ") (by decide +kernel) dX12_writeRuns_83 rfl (fun v1 => ?_)
    refine sn_cV (r := (some this)) (st := []) (As := [va_rf v1]) (st2 := (fun _ => [])) (pc' := 89) ci_13 (fun t => c_X12_writeWord G t v1) cw_X12_writeWord rfl rfl tw1641 pw79 tw1643 rfl rfl cat_nil rfl (fun _ => rfl) dX12_writeRuns_86 rfl (fun _ => ?_)
    exact sn_weak (le_s (le_s (le_s (le_s (le_n (le_s (le_s le_e))))))) (s_X12_writeRuns_89 G k13 hk13 this x1 x2 x3 x5 x6)
set_option maxRecDepth 100000 in
set_option maxHeartbeats 4000000 in
theorem s_X12_writeRuns_45_st (G : GG) (k13 : Nat → Int32 → Int32 → Int32 → Int32 → Int32 → MM Unit) (hk13 : ∀ (this : Nat) (x1 : Int32) (x2 : Int32) (x3 : Int32) (x4 : Int32) (x5 : Int32), Sn G yX12_writeRuns cX12_writeRuns 7 none 7 152 (fun _ : Unit => none) (k13 this x1 x2 x3 x4 x5) 13 [some (va_rf (some this)), some (.int x1), some (.int x2), some (.int x3), some (.int x4), some (.int x5), none] []) (k45 : Nat → Int32 → Int32 → Int32 → Int32 → Int32 → Int32 → MM Unit) (hk45 : ∀ (this : Nat) (x1 : Int32) (x2 : Int32) (x3 : Int32) (x4 : Int32) (x5 : Int32) (x6 : Int32), Sn G yX12_writeRuns cX12_writeRuns 7 none 7 152 (fun _ : Unit => none) (k45 this x1 x2 x3 x4 x5 x6) 45 [some (va_rf (some this)), some (.int x1), some (.int x2), some (.int x3), some (.int x4), some (.int x5), some (.int x6)] []) (this : Nat) (x1 : Int32) (x2 : Int32) (x3 : Int32) (x4 : Int32) (x5 : Int32) (x6 : Int32) : Sn G yX12_writeRuns cX12_writeRuns 7 none 7 152 (fun _ : Unit => none) (X12_writeRuns_45_st k13 k45 this x1 x2 x3 x4 x5 x6) 45 [some (va_rf (some this)), some (.int x1), some (.int x2), some (.int x3), some (.int x4), some (.int x5), some (.int x6)] [] := by
  unfold X12_writeRuns_45_st
  refine sn_iload (v := x6) (pc' := 47) dX12_writeRuns_45 rfl rfl ?_
  refine sn_iconst (v := (1 : Int32)) (pc' := 48) dX12_writeRuns_47 rfl (by decide) ?_
  refine sn_iadd (pc' := 49) dX12_writeRuns_48 rfl ?_
  refine sn_aload_n (v := (some this)) (pc' := 50) dX12_writeRuns_49 rfl rfl rfl ?_
  refine sn_gR (k := 11) (pc' := 53) ci_13 rfl (Or.inl tw1289) dX12_writeRuns_50 rfl (fun v1 => ?_)
  refine sn_iload_n (v := x3) (pc' := 54) dX12_writeRuns_53 rfl rfl rfl ?_
  refine sn_aI (pc' := 55) dX12_writeRuns_54 rfl (fun v2 => ?_)
  refine sn_ic_ge (pt := 77) (pf := 58) dX12_writeRuns_55 rfl rfl ?_ ?_
  · exact sn_weak (le_s (le_s (le_s (le_s (le_s (le_s (le_s le_e))))))) (s_X12_writeRuns_77 G k13 hk13 this x1 x2 x3 x4 x5 x6)
  · refine sn_aload_n (v := (some this)) (pc' := 59) dX12_writeRuns_58 rfl rfl rfl ?_
    refine sn_iload_n (v := x1) (pc' := 60) dX12_writeRuns_59 rfl rfl rfl ?_
    refine sn_iload_n (v := x2) (pc' := 61) dX12_writeRuns_60 rfl rfl rfl ?_
    refine sn_iload (v := x6) (pc' := 63) dX12_writeRuns_61 rfl rfl ?_
    refine sn_iconst (v := (1 : Int32)) (pc' := 64) dX12_writeRuns_63 rfl (by decide) ?_
    refine sn_iadd (pc' := 65) dX12_writeRuns_64 rfl ?_
    refine sn_cV (r := (some this)) (st := []) (As := [.int x1, .int x2, .int (x6 + (1 : Int32))]) (st2 := (fun v => .int v :: [])) (pc' := 68) ci_13 (fun t => c_X12_isTold G t x1 x2 (x6 + (1 : Int32))) cw_X12_isTold rfl rfl tw1715 pw88 tw1717 rfl rfl cat_nil rfl (fun _ => rfl) dX12_writeRuns_65 rfl (fun v3 => ?_)
    refine sn_if_eq (pt := 77) (pf := 71) dX12_writeRuns_68 rfl rfl ?_ ?_
    · exact sn_weak (le_s (le_s (le_s (le_s (le_s (le_s (le_s le_e))))))) (s_X12_writeRuns_77 G k13 hk13 this x1 x2 x3 x4 x5 x6)
    · refine sn_iinc (v := x6) (w := 1) (L' := [some (va_rf (some this)), some (.int x1), some (.int x2), some (.int x3), some (.int x4), some (.int x5), some (.int (x6 + (1 : Int32)))]) (pc' := 74) dX12_writeRuns_71 rfl rfl rfl (by decide) rfl ?_
      refine sn_goto (pc' := 45) dX12_writeRuns_74 rfl ?_
      exact sn_weak (le_s (le_s (le_s (le_s (le_s (le_s (le_s le_e))))))) (hk45 this x1 x2 x3 x4 x5 (x6 + (1 : Int32)))
set_option maxRecDepth 100000 in
set_option maxHeartbeats 4000000 in
theorem s_X12_writeRuns_45 (G : GG) (k13 : Nat → Int32 → Int32 → Int32 → Int32 → Int32 → MM Unit) (hk13 : ∀ (this : Nat) (x1 : Int32) (x2 : Int32) (x3 : Int32) (x4 : Int32) (x5 : Int32), Sn G yX12_writeRuns cX12_writeRuns 7 none 7 152 (fun _ : Unit => none) (k13 this x1 x2 x3 x4 x5) 13 [some (va_rf (some this)), some (.int x1), some (.int x2), some (.int x3), some (.int x4), some (.int x5), none] []) : ∀ (n : Nat) (this : Nat) (x1 : Int32) (x2 : Int32) (x3 : Int32) (x4 : Int32) (x5 : Int32) (x6 : Int32), Sn G yX12_writeRuns cX12_writeRuns 7 none 7 152 (fun _ : Unit => none) (X12_writeRuns_45 k13 n this x1 x2 x3 x4 x5 x6) 45 [some (va_rf (some this)), some (.int x1), some (.int x2), some (.int x3), some (.int x4), some (.int x5), some (.int x6)] [] := by
  intro n
  induction n with
  | zero => intro this x1 x2 x3 x4 x5 x6; exact sn_mf
  | succ n ih => intro this x1 x2 x3 x4 x5 x6; exact s_X12_writeRuns_45_st G k13 hk13 (X12_writeRuns_45 k13 n) ih this x1 x2 x3 x4 x5 x6
set_option maxRecDepth 100000 in
set_option maxHeartbeats 4000000 in
theorem s_X12_writeRuns_13_st (G : GG)   (k13 : Nat → Int32 → Int32 → Int32 → Int32 → Int32 → MM Unit) (hk13 : ∀ (this : Nat) (x1 : Int32) (x2 : Int32) (x3 : Int32) (x4 : Int32) (x5 : Int32), Sn G yX12_writeRuns cX12_writeRuns 7 none 7 152 (fun _ : Unit => none) (k13 this x1 x2 x3 x4 x5) 13 [some (va_rf (some this)), some (.int x1), some (.int x2), some (.int x3), some (.int x4), some (.int x5), none] []) (this : Nat) (x1 : Int32) (x2 : Int32) (x3 : Int32) (x4 : Int32) (x5 : Int32) : Sn G yX12_writeRuns cX12_writeRuns 7 none 7 152 (fun _ : Unit => none) (X12_writeRuns_13_st  k13 this x1 x2 x3 x4 x5) 13 [some (va_rf (some this)), some (.int x1), some (.int x2), some (.int x3), some (.int x4), some (.int x5), none] [] := by
  unfold X12_writeRuns_13_st
  refine sn_iload (v := x5) (pc' := 15) dX12_writeRuns_13 rfl rfl ?_
  refine sn_aload_n (v := (some this)) (pc' := 16) dX12_writeRuns_15 rfl rfl rfl ?_
  refine sn_gR (k := 11) (pc' := 19) ci_13 rfl (Or.inl tw1289) dX12_writeRuns_16 rfl (fun v1 => ?_)
  refine sn_iload_n (v := x3) (pc' := 20) dX12_writeRuns_19 rfl rfl rfl ?_
  refine sn_aI (pc' := 21) dX12_writeRuns_20 rfl (fun v2 => ?_)
  refine sn_ic_ge (pt := 128) (pf := 24) dX12_writeRuns_21 rfl rfl ?_ ?_
  · exact sn_vret dX12_writeRuns_128 rfl
  · refine sn_aload_n (v := (some this)) (pc' := 25) dX12_writeRuns_24 rfl rfl rfl ?_
    refine sn_iload_n (v := x1) (pc' := 26) dX12_writeRuns_25 rfl rfl rfl ?_
    refine sn_iload_n (v := x2) (pc' := 27) dX12_writeRuns_26 rfl rfl rfl ?_
    refine sn_iload (v := x5) (pc' := 29) dX12_writeRuns_27 rfl rfl ?_
    refine sn_cV (r := (some this)) (st := []) (As := [.int x1, .int x2, .int x5]) (st2 := (fun v => .int v :: [])) (pc' := 32) ci_13 (fun t => c_X12_isTold G t x1 x2 x5) cw_X12_isTold rfl rfl tw1715 pw88 tw1717 rfl rfl cat_nil rfl (fun _ => rfl) dX12_writeRuns_29 rfl (fun v3 => ?_)
    refine sn_if_ne (pt := 41) (pf := 35) dX12_writeRuns_32 rfl rfl ?_ ?_
    · refine sn_iinc (v := x5) (w := 1) (L' := [some (va_rf (some this)), some (.int x1), some (.int x2), some (.int x3), some (.int x4), some (.int (x5 + (1 : Int32))), none]) (pc' := 38) dX12_writeRuns_35 rfl rfl rfl (by decide) rfl ?_
      refine sn_goto (pc' := 13) dX12_writeRuns_38 rfl ?_
      exact sn_weak (le_s (le_s (le_s (le_s (le_s (le_s (le_n le_e))))))) (hk13 this x1 x2 x3 x4 (x5 + (1 : Int32)))
    · refine sn_iload (v := x5) (pc' := 43) dX12_writeRuns_41 rfl rfl ?_
      refine sn_istore (v := x5) (L' := [some (va_rf (some this)), some (.int x1), some (.int x2), some (.int x3), some (.int x4), some (.int x5), some (.int x5)]) (pc' := 45) dX12_writeRuns_43 rfl rfl rfl ?_
      exact sn_weak (le_s (le_s (le_s (le_s (le_s (le_s (le_s le_e))))))) (s_X12_writeRuns_45 G k13 hk13 LFU this x1 x2 x3 x4 x5 x5)
set_option maxRecDepth 100000 in
set_option maxHeartbeats 4000000 in
theorem s_X12_writeRuns_13 (G : GG)   : ∀ (n : Nat) (this : Nat) (x1 : Int32) (x2 : Int32) (x3 : Int32) (x4 : Int32) (x5 : Int32), Sn G yX12_writeRuns cX12_writeRuns 7 none 7 152 (fun _ : Unit => none) (X12_writeRuns_13  n this x1 x2 x3 x4 x5) 13 [some (va_rf (some this)), some (.int x1), some (.int x2), some (.int x3), some (.int x4), some (.int x5), none] [] := by
  intro n
  induction n with
  | zero => intro this x1 x2 x3 x4 x5; exact sn_mf
  | succ n ih => intro this x1 x2 x3 x4 x5; exact s_X12_writeRuns_13_st G   (X12_writeRuns_13  n) ih this x1 x2 x3 x4 x5
set_option maxRecDepth 100000 in
set_option maxHeartbeats 4000000 in
theorem s_X12_writeRuns (G : GG) (this : Nat) (a1 : Int32) (a2 : Int32) : Sn G yX12_writeRuns cX12_writeRuns 7 none 7 152 (fun _ : Unit => none) (X12_writeRuns this a1 a2) 0 [some (va_rf (some this)), some (.int a1), some (.int a2), none, none, none, none] [] := by
  unfold X12_writeRuns
  refine sn_aload_n (v := (some this)) (pc' := 1) dX12_writeRuns_0 rfl rfl rfl ?_
  refine sn_gR (k := 16) (pc' := 4) ci_13 rfl (Or.inl tw1294) dX12_writeRuns_1 rfl (fun v1 => ?_)
  refine sn_iload_n (v := a1) (pc' := 5) dX12_writeRuns_4 rfl rfl rfl ?_
  refine sn_aI (pc' := 6) dX12_writeRuns_5 rfl (fun v2 => ?_)
  refine sn_istore_n (v := v2) (L' := [some (va_rf (some this)), some (.int a1), some (.int a2), some (.int v2), none, none, none]) (pc' := 7) dX12_writeRuns_6 rfl rfl rfl rfl ?_
  refine sn_iconst (v := (0 : Int32)) (pc' := 8) dX12_writeRuns_7 rfl (by decide) ?_
  refine sn_istore (v := (0 : Int32)) (L' := [some (va_rf (some this)), some (.int a1), some (.int a2), some (.int v2), some (.int (0 : Int32)), none, none]) (pc' := 10) dX12_writeRuns_8 rfl rfl rfl ?_
  refine sn_iconst (v := (0 : Int32)) (pc' := 11) dX12_writeRuns_10 rfl (by decide) ?_
  refine sn_istore (v := (0 : Int32)) (L' := [some (va_rf (some this)), some (.int a1), some (.int a2), some (.int v2), some (.int (0 : Int32)), some (.int (0 : Int32)), none]) (pc' := 13) dX12_writeRuns_11 rfl rfl rfl ?_
  exact sn_weak (le_s (le_s (le_s (le_s (le_s (le_s (le_n le_e))))))) (s_X12_writeRuns_13 G LFU this a1 a2 v2 (0 : Int32) (0 : Int32))
theorem c_X12_writeRuns (G : GG) (this : Nat) (a1 : Int32) (a2 : Int32) : Cal G yX12_writeRuns cX12_writeRuns 7 none 7 152 (fun _ : Unit => none) (X12_writeRuns this a1 a2) [.ref this, .int a1, .int a2] :=
  Cal.of (by decide) (cat_t (cat_i (cat_i cat_nil))) rfl (sn_weak (le_s (le_s (le_s (le_z (le_z (le_z (le_z le_e))))))) (s_X12_writeRuns G this a1 a2))
theorem cw_X12_writeRuns : CW yX12_writeRuns cX12_writeRuns 7 none 2 := ⟨tw1739, tw15, by decide, by decide +kernel⟩
/-! X12_countTold -/
theorem dX12_countTold_0 : decode cX12_countTold 0 = .ok (.iconst 0, 1) := by decide +kernel
theorem dX12_countTold_1 : decode cX12_countTold 1 = .ok (.istore_n 3, 1) := by decide +kernel
theorem dX12_countTold_2 : decode cX12_countTold 2 = .ok (.iconst 0, 1) := by decide +kernel
theorem dX12_countTold_3 : decode cX12_countTold 3 = .ok (.istore 4, 2) := by decide +kernel
theorem dX12_countTold_5 : decode cX12_countTold 5 = .ok (.iload 4, 2) := by decide +kernel
theorem dX12_countTold_7 : decode cX12_countTold 7 = .ok (.aload_n 0, 1) := by decide +kernel
theorem dX12_countTold_8 : decode cX12_countTold 8 = .ok (.iload_n 1, 1) := by decide +kernel
theorem dX12_countTold_9 : decode cX12_countTold 9 = .ok (.iload_n 2, 1) := by decide +kernel
theorem dX12_countTold_10 : decode cX12_countTold 10 = .ok (.invokevirtual 269, 3) := by decide +kernel
theorem dX12_countTold_13 : decode cX12_countTold 13 = .ok (.if_icmp .ge 28, 3) := by decide +kernel
theorem dX12_countTold_16 : decode cX12_countTold 16 = .ok (.iload_n 3, 1) := by decide +kernel
theorem dX12_countTold_17 : decode cX12_countTold 17 = .ok (.aload_n 0, 1) := by decide +kernel
theorem dX12_countTold_18 : decode cX12_countTold 18 = .ok (.iload_n 1, 1) := by decide +kernel
theorem dX12_countTold_19 : decode cX12_countTold 19 = .ok (.iload_n 2, 1) := by decide +kernel
theorem dX12_countTold_20 : decode cX12_countTold 20 = .ok (.iload 4, 2) := by decide +kernel
theorem dX12_countTold_22 : decode cX12_countTold 22 = .ok (.invokevirtual 260, 3) := by decide +kernel
theorem dX12_countTold_25 : decode cX12_countTold 25 = .ok (.ifCond .eq 7, 3) := by decide +kernel
theorem dX12_countTold_28 : decode cX12_countTold 28 = .ok (.iconst 1, 1) := by decide +kernel
theorem dX12_countTold_29 : decode cX12_countTold 29 = .ok (.goto 4, 3) := by decide +kernel
theorem dX12_countTold_32 : decode cX12_countTold 32 = .ok (.iconst 0, 1) := by decide +kernel
theorem dX12_countTold_33 : decode cX12_countTold 33 = .ok (.iadd, 1) := by decide +kernel
theorem dX12_countTold_34 : decode cX12_countTold 34 = .ok (.istore_n 3, 1) := by decide +kernel
theorem dX12_countTold_35 : decode cX12_countTold 35 = .ok (.iinc 4 1, 3) := by decide +kernel
theorem dX12_countTold_38 : decode cX12_countTold 38 = .ok (.goto (-33), 3) := by decide +kernel
theorem dX12_countTold_41 : decode cX12_countTold 41 = .ok (.iload_n 3, 1) := by decide +kernel
theorem dX12_countTold_42 : decode cX12_countTold 42 = .ok (.ireturn, 1) := by decide +kernel
def X12_countTold_33 (k5 : Nat → Int32 → Int32 → Int32 → Int32 → MM Int32) (this : Nat) (x1 : Int32) (x2 : Int32) (x4 : Int32) (y0 : Int32) (y1 : Int32) : MM Int32 :=
  (k5 this x1 x2 (y1 + y0) (x4 + (1 : Int32)))
def X12_countTold_5_st  (k5 : Nat → Int32 → Int32 → Int32 → Int32 → MM Int32) (this : Nat) (x1 : Int32) (x2 : Int32) (x3 : Int32) (x4 : Int32) : MM Int32 :=
  mb (wc 13 (some this) fun t => X12_many t x1 x2) fun v1 =>
  if v1 ≤ x4 then (mr x3) else (mb (wc 13 (some this) fun t => X12_isTold t x1 x2 x4) fun v2 =>
  if v2 = 0 then ((X12_countTold_33 k5 this x1 x2 x4 (0 : Int32) x3)) else ((X12_countTold_33 k5 this x1 x2 x4 (1 : Int32) x3)))
def X12_countTold_5  : Nat → Nat → Int32 → Int32 → Int32 → Int32 → MM Int32
  | 0 => fun _ _ _ _ _ => mf
  | n + 1 => fun this x1 x2 x3 x4 => X12_countTold_5_st  (X12_countTold_5  n) this x1 x2 x3 x4
def X12_countTold (this : Nat) (a1 : Int32) (a2 : Int32) : MM Int32 :=
  (X12_countTold_5 LFU this a1 a2 (0 : Int32) (0 : Int32))
set_option maxRecDepth 100000 in
set_option maxHeartbeats 4000000 in
theorem s_X12_countTold_33 (G : GG) (k5 : Nat → Int32 → Int32 → Int32 → Int32 → MM Int32) (hk5 : ∀ (this : Nat) (x1 : Int32) (x2 : Int32) (x3 : Int32) (x4 : Int32), Sn G yX12_countTold cX12_countTold 5 (some FieldType.int) 4 96 (fun v : Int32 => some (.int v)) (k5 this x1 x2 x3 x4) 5 [some (va_rf (some this)), some (.int x1), some (.int x2), some (.int x3), some (.int x4)] []) (this : Nat) (x1 : Int32) (x2 : Int32) (x4 : Int32) (y0 : Int32) (y1 : Int32) : Sn G yX12_countTold cX12_countTold 5 (some FieldType.int) 4 96 (fun v : Int32 => some (.int v)) (X12_countTold_33 k5 this x1 x2 x4 y0 y1) 33 [some (va_rf (some this)), some (.int x1), some (.int x2), none, some (.int x4)] [.int y0, .int y1] := by
  unfold X12_countTold_33
  refine sn_iadd (pc' := 34) dX12_countTold_33 rfl ?_
  refine sn_istore_n (v := (y1 + y0)) (L' := [some (va_rf (some this)), some (.int x1), some (.int x2), some (.int (y1 + y0)), some (.int x4)]) (pc' := 35) dX12_countTold_34 rfl rfl rfl rfl ?_
  refine sn_iinc (v := x4) (w := 1) (L' := [some (va_rf (some this)), some (.int x1), some (.int x2), some (.int (y1 + y0)), some (.int (x4 + (1 : Int32)))]) (pc' := 38) dX12_countTold_35 rfl rfl rfl (by decide) rfl ?_
  refine sn_goto (pc' := 5) dX12_countTold_38 rfl ?_
  exact sn_weak (le_s (le_s (le_s (le_s (le_s le_e))))) (hk5 this x1 x2 (y1 + y0) (x4 + (1 : Int32)))
set_option maxRecDepth 100000 in
set_option maxHeartbeats 4000000 in
theorem s_X12_countTold_5_st (G : GG)   (k5 : Nat → Int32 → Int32 → Int32 → Int32 → MM Int32) (hk5 : ∀ (this : Nat) (x1 : Int32) (x2 : Int32) (x3 : Int32) (x4 : Int32), Sn G yX12_countTold cX12_countTold 5 (some FieldType.int) 4 96 (fun v : Int32 => some (.int v)) (k5 this x1 x2 x3 x4) 5 [some (va_rf (some this)), some (.int x1), some (.int x2), some (.int x3), some (.int x4)] []) (this : Nat) (x1 : Int32) (x2 : Int32) (x3 : Int32) (x4 : Int32) : Sn G yX12_countTold cX12_countTold 5 (some FieldType.int) 4 96 (fun v : Int32 => some (.int v)) (X12_countTold_5_st  k5 this x1 x2 x3 x4) 5 [some (va_rf (some this)), some (.int x1), some (.int x2), some (.int x3), some (.int x4)] [] := by
  unfold X12_countTold_5_st
  refine sn_iload (v := x4) (pc' := 7) dX12_countTold_5 rfl rfl ?_
  refine sn_aload_n (v := (some this)) (pc' := 8) dX12_countTold_7 rfl rfl rfl ?_
  refine sn_iload_n (v := x1) (pc' := 9) dX12_countTold_8 rfl rfl rfl ?_
  refine sn_iload_n (v := x2) (pc' := 10) dX12_countTold_9 rfl rfl rfl ?_
  refine sn_cV (r := (some this)) (st := [.int x4]) (As := [.int x1, .int x2]) (st2 := (fun v => .int v :: [.int x4])) (pc' := 13) ci_13 (fun t => c_X12_many G t x1 x2) cw_X12_many rfl rfl tw1711 pw87 tw1713 rfl rfl (cat_i cat_nil) rfl (fun _ => rfl) dX12_countTold_10 rfl (fun v1 => ?_)
  refine sn_ic_ge (pt := 41) (pf := 16) dX12_countTold_13 rfl rfl ?_ ?_
  · refine sn_iload_n (v := x3) (pc' := 42) dX12_countTold_41 rfl rfl rfl ?_
    exact sn_iret dX12_countTold_42 rfl rfl
  · refine sn_iload_n (v := x3) (pc' := 17) dX12_countTold_16 rfl rfl rfl ?_
    refine sn_aload_n (v := (some this)) (pc' := 18) dX12_countTold_17 rfl rfl rfl ?_
    refine sn_iload_n (v := x1) (pc' := 19) dX12_countTold_18 rfl rfl rfl ?_
    refine sn_iload_n (v := x2) (pc' := 20) dX12_countTold_19 rfl rfl rfl ?_
    refine sn_iload (v := x4) (pc' := 22) dX12_countTold_20 rfl rfl ?_
    refine sn_cV (r := (some this)) (st := [.int x3]) (As := [.int x1, .int x2, .int x4]) (st2 := (fun v => .int v :: [.int x3])) (pc' := 25) ci_13 (fun t => c_X12_isTold G t x1 x2 x4) cw_X12_isTold rfl rfl tw1715 pw88 tw1717 rfl rfl (cat_i cat_nil) rfl (fun _ => rfl) dX12_countTold_22 rfl (fun v2 => ?_)
    refine sn_if_eq (pt := 32) (pf := 28) dX12_countTold_25 rfl rfl ?_ ?_
    · refine sn_iconst (v := (0 : Int32)) (pc' := 33) dX12_countTold_32 rfl (by decide) ?_
      exact sn_weak (le_s (le_s (le_s (le_n (le_s le_e))))) (s_X12_countTold_33 G k5 hk5 this x1 x2 x4 (0 : Int32) x3)
    · refine sn_iconst (v := (1 : Int32)) (pc' := 29) dX12_countTold_28 rfl (by decide) ?_
      refine sn_goto (pc' := 33) dX12_countTold_29 rfl ?_
      exact sn_weak (le_s (le_s (le_s (le_n (le_s le_e))))) (s_X12_countTold_33 G k5 hk5 this x1 x2 x4 (1 : Int32) x3)
set_option maxRecDepth 100000 in
set_option maxHeartbeats 4000000 in
theorem s_X12_countTold_5 (G : GG)   : ∀ (n : Nat) (this : Nat) (x1 : Int32) (x2 : Int32) (x3 : Int32) (x4 : Int32), Sn G yX12_countTold cX12_countTold 5 (some FieldType.int) 4 96 (fun v : Int32 => some (.int v)) (X12_countTold_5  n this x1 x2 x3 x4) 5 [some (va_rf (some this)), some (.int x1), some (.int x2), some (.int x3), some (.int x4)] [] := by
  intro n
  induction n with
  | zero => intro this x1 x2 x3 x4; exact sn_mf
  | succ n ih => intro this x1 x2 x3 x4; exact s_X12_countTold_5_st G   (X12_countTold_5  n) ih this x1 x2 x3 x4
set_option maxRecDepth 100000 in
set_option maxHeartbeats 4000000 in
theorem s_X12_countTold (G : GG) (this : Nat) (a1 : Int32) (a2 : Int32) : Sn G yX12_countTold cX12_countTold 5 (some FieldType.int) 4 96 (fun v : Int32 => some (.int v)) (X12_countTold this a1 a2) 0 [some (va_rf (some this)), some (.int a1), some (.int a2), none, none] [] := by
  unfold X12_countTold
  refine sn_iconst (v := (0 : Int32)) (pc' := 1) dX12_countTold_0 rfl (by decide) ?_
  refine sn_istore_n (v := (0 : Int32)) (L' := [some (va_rf (some this)), some (.int a1), some (.int a2), some (.int (0 : Int32)), none]) (pc' := 2) dX12_countTold_1 rfl rfl rfl rfl ?_
  refine sn_iconst (v := (0 : Int32)) (pc' := 3) dX12_countTold_2 rfl (by decide) ?_
  refine sn_istore (v := (0 : Int32)) (L' := [some (va_rf (some this)), some (.int a1), some (.int a2), some (.int (0 : Int32)), some (.int (0 : Int32))]) (pc' := 5) dX12_countTold_3 rfl rfl rfl ?_
  exact sn_weak (le_s (le_s (le_s (le_s (le_s le_e))))) (s_X12_countTold_5 G LFU this a1 a2 (0 : Int32) (0 : Int32))
theorem c_X12_countTold (G : GG) (this : Nat) (a1 : Int32) (a2 : Int32) : Cal G yX12_countTold cX12_countTold 5 (some FieldType.int) 4 96 (fun v : Int32 => some (.int v)) (X12_countTold this a1 a2) [.ref this, .int a1, .int a2] :=
  Cal.of (by decide) (cat_t (cat_i (cat_i cat_nil))) rfl (sn_weak (le_s (le_s (le_s (le_z (le_z le_e))))) (s_X12_countTold G this a1 a2))
theorem cw_X12_countTold : CW yX12_countTold cX12_countTold 5 (some FieldType.int) 2 := ⟨tw1710, tw15, by decide, by decide +kernel⟩
/-! X12_writeNote -/
theorem dX12_writeNote_0 : decode cX12_writeNote 0 = .ok (.aload_n 0, 1) := by decide +kernel
theorem dX12_writeNote_1 : decode cX12_writeNote 1 = .ok (.iload_n 1, 1) := by decide +kernel
theorem dX12_writeNote_2 : decode cX12_writeNote 2 = .ok (.invokevirtual 272, 3) := by decide +kernel
theorem dX12_writeNote_5 : decode cX12_writeNote 5 = .ok (.aload_n 0, 1) := by decide +kernel
theorem dX12_writeNote_6 : decode cX12_writeNote 6 = .ok (.iconst 0, 1) := by decide +kernel
theorem dX12_writeNote_7 : decode cX12_writeNote 7 = .ok (.putfield 205, 3) := by decide +kernel
theorem dX12_writeNote_10 : decode cX12_writeNote 10 = .ok (.aload_n 0, 1) := by decide +kernel
theorem dX12_writeNote_11 : decode cX12_writeNote 11 = .ok (.iload_n 1, 1) := by decide +kernel
theorem dX12_writeNote_12 : decode cX12_writeNote 12 = .ok (.iconst 2, 1) := by decide +kernel
theorem dX12_writeNote_13 : decode cX12_writeNote 13 = .ok (.invokevirtual 275, 3) := by decide +kernel
theorem dX12_writeNote_16 : decode cX12_writeNote 16 = .ok (.ifCond .le 16, 3) := by decide +kernel
theorem dX12_writeNote_19 : decode cX12_writeNote 19 = .ok (.aload_n 0, 1) := by decide +kernel
theorem dX12_writeNote_20 : decode cX12_writeNote 20 = .ok (.ldc_w 278, 3) := by decide +kernel
theorem dX12_writeNote_23 : decode cX12_writeNote 23 = .ok (.invokevirtual 211, 3) := by decide +kernel
theorem dX12_writeNote_26 : decode cX12_writeNote 26 = .ok (.aload_n 0, 1) := by decide +kernel
theorem dX12_writeNote_27 : decode cX12_writeNote 27 = .ok (.iload_n 1, 1) := by decide +kernel
theorem dX12_writeNote_28 : decode cX12_writeNote 28 = .ok (.iconst 2, 1) := by decide +kernel
theorem dX12_writeNote_29 : decode cX12_writeNote 29 = .ok (.invokevirtual 280, 3) := by decide +kernel
theorem dX12_writeNote_32 : decode cX12_writeNote 32 = .ok (.aload_n 0, 1) := by decide +kernel
theorem dX12_writeNote_33 : decode cX12_writeNote 33 = .ok (.iload_n 1, 1) := by decide +kernel
theorem dX12_writeNote_34 : decode cX12_writeNote 34 = .ok (.iconst 3, 1) := by decide +kernel
theorem dX12_writeNote_35 : decode cX12_writeNote 35 = .ok (.invokevirtual 275, 3) := by decide +kernel
theorem dX12_writeNote_38 : decode cX12_writeNote 38 = .ok (.ifCond .le 29, 3) := by decide +kernel
theorem dX12_writeNote_41 : decode cX12_writeNote 41 = .ok (.aload_n 0, 1) := by decide +kernel
theorem dX12_writeNote_42 : decode cX12_writeNote 42 = .ok (.aload_n 0, 1) := by decide +kernel
theorem dX12_writeNote_43 : decode cX12_writeNote 43 = .ok (.getfield 205, 3) := by decide +kernel
theorem dX12_writeNote_46 : decode cX12_writeNote 46 = .ok (.ifCond .le 9, 3) := by decide +kernel
theorem dX12_writeNote_49 : decode cX12_writeNote 49 = .ok (.ldc_w 283, 3) := by decide +kernel
theorem dX12_writeNote_52 : decode cX12_writeNote 52 = .ok (.goto 6, 3) := by decide +kernel
theorem dX12_writeNote_55 : decode cX12_writeNote 55 = .ok (.ldc_w 285, 3) := by decide +kernel
theorem dX12_writeNote_58 : decode cX12_writeNote 58 = .ok (.invokevirtual 211, 3) := by decide +kernel
theorem dX12_writeNote_61 : decode cX12_writeNote 61 = .ok (.aload_n 0, 1) := by decide +kernel
theorem dX12_writeNote_62 : decode cX12_writeNote 62 = .ok (.iload_n 1, 1) := by decide +kernel
theorem dX12_writeNote_63 : decode cX12_writeNote 63 = .ok (.iconst 3, 1) := by decide +kernel
theorem dX12_writeNote_64 : decode cX12_writeNote 64 = .ok (.invokevirtual 280, 3) := by decide +kernel
theorem dX12_writeNote_67 : decode cX12_writeNote 67 = .ok (.aload_n 0, 1) := by decide +kernel
theorem dX12_writeNote_68 : decode cX12_writeNote 68 = .ok (.iload_n 1, 1) := by decide +kernel
theorem dX12_writeNote_69 : decode cX12_writeNote 69 = .ok (.iconst 4, 1) := by decide +kernel
theorem dX12_writeNote_70 : decode cX12_writeNote 70 = .ok (.invokevirtual 275, 3) := by decide +kernel
theorem dX12_writeNote_73 : decode cX12_writeNote 73 = .ok (.ifCond .ne 4, 3) := by decide +kernel
theorem dX12_writeNote_76 : decode cX12_writeNote 76 = .ok (.return_, 1) := by decide +kernel
theorem dX12_writeNote_77 : decode cX12_writeNote 77 = .ok (.aload_n 0, 1) := by decide +kernel
theorem dX12_writeNote_78 : decode cX12_writeNote 78 = .ok (.aload_n 0, 1) := by decide +kernel
theorem dX12_writeNote_79 : decode cX12_writeNote 79 = .ok (.getfield 205, 3) := by decide +kernel
theorem dX12_writeNote_82 : decode cX12_writeNote 82 = .ok (.ifCond .le 9, 3) := by decide +kernel
theorem dX12_writeNote_85 : decode cX12_writeNote 85 = .ok (.ldc_w 287, 3) := by decide +kernel
theorem dX12_writeNote_88 : decode cX12_writeNote 88 = .ok (.goto 6, 3) := by decide +kernel
theorem dX12_writeNote_91 : decode cX12_writeNote 91 = .ok (.ldc_w 289, 3) := by decide +kernel
theorem dX12_writeNote_94 : decode cX12_writeNote 94 = .ok (.invokevirtual 211, 3) := by decide +kernel
theorem dX12_writeNote_97 : decode cX12_writeNote 97 = .ok (.iconst 0, 1) := by decide +kernel
theorem dX12_writeNote_98 : decode cX12_writeNote 98 = .ok (.istore_n 2, 1) := by decide +kernel
theorem dX12_writeNote_99 : decode cX12_writeNote 99 = .ok (.iconst 0, 1) := by decide +kernel
theorem dX12_writeNote_100 : decode cX12_writeNote 100 = .ok (.istore_n 3, 1) := by decide +kernel
theorem dX12_writeNote_101 : decode cX12_writeNote 101 = .ok (.iload_n 3, 1) := by decide +kernel
theorem dX12_writeNote_102 : decode cX12_writeNote 102 = .ok (.aload_n 0, 1) := by decide +kernel
theorem dX12_writeNote_103 : decode cX12_writeNote 103 = .ok (.getfield 242, 3) := by decide +kernel
theorem dX12_writeNote_106 : decode cX12_writeNote 106 = .ok (.iload_n 1, 1) := by decide +kernel
theorem dX12_writeNote_107 : decode cX12_writeNote 107 = .ok (.iaload, 1) := by decide +kernel
theorem dX12_writeNote_108 : decode cX12_writeNote 108 = .ok (.if_icmp .ge 56, 3) := by decide +kernel
theorem dX12_writeNote_111 : decode cX12_writeNote 111 = .ok (.aload_n 0, 1) := by decide +kernel
theorem dX12_writeNote_112 : decode cX12_writeNote 112 = .ok (.getfield 254, 3) := by decide +kernel
theorem dX12_writeNote_115 : decode cX12_writeNote 115 = .ok (.iload_n 3, 1) := by decide +kernel
theorem dX12_writeNote_116 : decode cX12_writeNote 116 = .ok (.baload, 1) := by decide +kernel
theorem dX12_writeNote_117 : decode cX12_writeNote 117 = .ok (.ifCond .eq 6, 3) := by decide +kernel
theorem dX12_writeNote_120 : decode cX12_writeNote 120 = .ok (.goto 38, 3) := by decide +kernel
theorem dX12_writeNote_123 : decode cX12_writeNote 123 = .ok (.iload_n 2, 1) := by decide +kernel
theorem dX12_writeNote_124 : decode cX12_writeNote 124 = .ok (.ifCond .eq 10, 3) := by decide +kernel
theorem dX12_writeNote_127 : decode cX12_writeNote 127 = .ok (.aload_n 0, 1) := by decide +kernel
theorem dX12_writeNote_128 : decode cX12_writeNote 128 = .ok (.ldc_w 263, 3) := by decide +kernel
theorem dX12_writeNote_131 : decode cX12_writeNote 131 = .ok (.invokevirtual 211, 3) := by decide +kernel
theorem dX12_writeNote_134 : decode cX12_writeNote 134 = .ok (.iconst 1, 1) := by decide +kernel
theorem dX12_writeNote_135 : decode cX12_writeNote 135 = .ok (.istore_n 2, 1) := by decide +kernel
theorem dX12_writeNote_136 : decode cX12_writeNote 136 = .ok (.aload_n 0, 1) := by decide +kernel
theorem dX12_writeNote_137 : decode cX12_writeNote 137 = .ok (.aload_n 0, 1) := by decide +kernel
theorem dX12_writeNote_138 : decode cX12_writeNote 138 = .ok (.getfield 236, 3) := by decide +kernel
theorem dX12_writeNote_141 : decode cX12_writeNote 141 = .ok (.iload_n 1, 1) := by decide +kernel
theorem dX12_writeNote_142 : decode cX12_writeNote 142 = .ok (.iaload, 1) := by decide +kernel
theorem dX12_writeNote_143 : decode cX12_writeNote 143 = .ok (.aload_n 0, 1) := by decide +kernel
theorem dX12_writeNote_144 : decode cX12_writeNote 144 = .ok (.getfield 245, 3) := by decide +kernel
theorem dX12_writeNote_147 : decode cX12_writeNote 147 = .ok (.iload_n 1, 1) := by decide +kernel
theorem dX12_writeNote_148 : decode cX12_writeNote 148 = .ok (.sipush 400, 3) := by decide +kernel
theorem dX12_writeNote_151 : decode cX12_writeNote 151 = .ok (.imul, 1) := by decide +kernel
theorem dX12_writeNote_152 : decode cX12_writeNote 152 = .ok (.iload_n 3, 1) := by decide +kernel
theorem dX12_writeNote_153 : decode cX12_writeNote 153 = .ok (.iadd, 1) := by decide +kernel
theorem dX12_writeNote_154 : decode cX12_writeNote 154 = .ok (.iaload, 1) := by decide +kernel
theorem dX12_writeNote_155 : decode cX12_writeNote 155 = .ok (.invokevirtual 265, 3) := by decide +kernel
theorem dX12_writeNote_158 : decode cX12_writeNote 158 = .ok (.iinc 3 1, 3) := by decide +kernel
theorem dX12_writeNote_161 : decode cX12_writeNote 161 = .ok (.goto (-60), 3) := by decide +kernel
theorem dX12_writeNote_164 : decode cX12_writeNote 164 = .ok (.return_, 1) := by decide +kernel
def X12_writeNote_158 (k101 : Nat → Int32 → Int32 → Int32 → MM Unit) (this : Nat) (x1 : Int32) (x2 : Int32) (x3 : Int32) : MM Unit :=
  (k101 this x1 x2 (x3 + (1 : Int32)))
def X12_writeNote_134 (k101 : Nat → Int32 → Int32 → Int32 → MM Unit) (this : Nat) (x1 : Int32) (x3 : Int32) : MM Unit :=
  mb (gR 13 (some this) 16) fun v1 =>
  mb (aI v1 x1) fun v2 =>
  mb (gR 13 (some this) 18) fun v3 =>
  mb (aI v3 ((x1 * (400 : Int32)) + x3)) fun v4 =>
  mb (wc 13 (some this) fun t => X12_writeName t v2 v4) fun _ =>
  (X12_writeNote_158 k101 this x1 (1 : Int32) x3)
def X12_writeNote_101_st  (k101 : Nat → Int32 → Int32 → Int32 → MM Unit) (this : Nat) (x1 : Int32) (x2 : Int32) (x3 : Int32) : MM Unit :=
  mb (gR 13 (some this) 17) fun v1 =>
  mb (aI v1 x1) fun v2 =>
  if v2 ≤ x3 then (mr ()) else (mb (gR 13 (some this) 41) fun v3 =>
  mb (aB v3 x3) fun v4 =>
  if v4 = 0 then (if x2 = 0 then ((X12_writeNote_134 k101 this x1 x3)) else (mb (kR 14) fun v5 =>
  mb (wc 13 (some this) fun t => X12_writeWord t v5) fun _ =>
  (X12_writeNote_134 k101 this x1 x3))) else ((X12_writeNote_158 k101 this x1 x2 x3)))
def X12_writeNote_101  : Nat → Nat → Int32 → Int32 → Int32 → MM Unit
  | 0 => fun _ _ _ _ => mf
  | n + 1 => fun this x1 x2 x3 => X12_writeNote_101_st  (X12_writeNote_101  n) this x1 x2 x3
def X12_writeNote_94  (this : Nat) (x1 : Int32) (y0 : Option Nat) : MM Unit :=
  mb (wc 13 (some this) fun t => X12_writeWord t y0) fun _ =>
  (X12_writeNote_101 LFU this x1 (0 : Int32) (0 : Int32))
def X12_writeNote_67  (this : Nat) (x1 : Int32) : MM Unit :=
  mb (wc 13 (some this) fun t => X12_countTold t x1 (4 : Int32)) fun v1 =>
  if v1 = 0 then (mr ()) else (mb (gI 13 (some this) 37) fun v2 =>
  if v2 ≤ 0 then (mb (kR 18) fun v3 =>
  (X12_writeNote_94 this x1 v3)) else (mb (kR 17) fun v4 =>
  (X12_writeNote_94 this x1 v4)))
def X12_writeNote_58  (this : Nat) (x1 : Int32) (y0 : Option Nat) : MM Unit :=
  mb (wc 13 (some this) fun t => X12_writeWord t y0) fun _ =>
  mb (wc 13 (some this) fun t => X12_writeRuns t x1 (3 : Int32)) fun _ =>
  (X12_writeNote_67 this x1)
def X12_writeNote_32  (this : Nat) (x1 : Int32) : MM Unit :=
  mb (wc 13 (some this) fun t => X12_countTold t x1 (3 : Int32)) fun v1 =>
  if v1 ≤ 0 then ((X12_writeNote_67 this x1)) else (mb (gI 13 (some this) 37) fun v2 =>
  if v2 ≤ 0 then (mb (kR 16) fun v3 =>
  (X12_writeNote_58 this x1 v3)) else (mb (kR 15) fun v4 =>
  (X12_writeNote_58 this x1 v4)))
def X12_writeNote (this : Nat) (a1 : Int32) : MM Unit :=
  mb (wc 13 (some this) fun t => X12_look t a1) fun _ =>
  mb (pI 13 (some this) 37 (0 : Int32)) fun _ =>
  mb (wc 13 (some this) fun t => X12_countTold t a1 (2 : Int32)) fun v1 =>
  if v1 ≤ 0 then ((X12_writeNote_32 this a1)) else (mb (kR 13) fun v2 =>
  mb (wc 13 (some this) fun t => X12_writeWord t v2) fun _ =>
  mb (wc 13 (some this) fun t => X12_writeRuns t a1 (2 : Int32)) fun _ =>
  (X12_writeNote_32 this a1))
set_option maxRecDepth 100000 in
set_option maxHeartbeats 4000000 in
theorem s_X12_writeNote_158 (G : GG) (k101 : Nat → Int32 → Int32 → Int32 → MM Unit) (hk101 : ∀ (this : Nat) (x1 : Int32) (x2 : Int32) (x3 : Int32), Sn G yX12_writeNote cX12_writeNote 4 none 8 178 (fun _ : Unit => none) (k101 this x1 x2 x3) 101 [some (va_rf (some this)), some (.int x1), some (.int x2), some (.int x3)] []) (this : Nat) (x1 : Int32) (x2 : Int32) (x3 : Int32) : Sn G yX12_writeNote cX12_writeNote 4 none 8 178 (fun _ : Unit => none) (X12_writeNote_158 k101 this x1 x2 x3) 158 [some (va_rf (some this)), some (.int x1), some (.int x2), some (.int x3)] [] := by
  unfold X12_writeNote_158
  refine sn_iinc (v := x3) (w := 1) (L' := [some (va_rf (some this)), some (.int x1), some (.int x2), some (.int (x3 + (1 : Int32)))]) (pc' := 161) dX12_writeNote_158 rfl rfl rfl (by decide) rfl ?_
  refine sn_goto (pc' := 101) dX12_writeNote_161 rfl ?_
  exact sn_weak (le_s (le_s (le_s (le_s le_e)))) (hk101 this x1 x2 (x3 + (1 : Int32)))
set_option maxRecDepth 100000 in
set_option maxHeartbeats 4000000 in
theorem s_X12_writeNote_134 (G : GG) (k101 : Nat → Int32 → Int32 → Int32 → MM Unit) (hk101 : ∀ (this : Nat) (x1 : Int32) (x2 : Int32) (x3 : Int32), Sn G yX12_writeNote cX12_writeNote 4 none 8 178 (fun _ : Unit => none) (k101 this x1 x2 x3) 101 [some (va_rf (some this)), some (.int x1), some (.int x2), some (.int x3)] []) (this : Nat) (x1 : Int32) (x3 : Int32) : Sn G yX12_writeNote cX12_writeNote 4 none 8 178 (fun _ : Unit => none) (X12_writeNote_134 k101 this x1 x3) 134 [some (va_rf (some this)), some (.int x1), none, some (.int x3)] [] := by
  unfold X12_writeNote_134
  refine sn_iconst (v := (1 : Int32)) (pc' := 135) dX12_writeNote_134 rfl (by decide) ?_
  refine sn_istore_n (v := (1 : Int32)) (L' := [some (va_rf (some this)), some (.int x1), some (.int (1 : Int32)), some (.int x3)]) (pc' := 136) dX12_writeNote_135 rfl rfl rfl rfl ?_
  refine sn_aload_n (v := (some this)) (pc' := 137) dX12_writeNote_136 rfl rfl rfl ?_
  refine sn_aload_n (v := (some this)) (pc' := 138) dX12_writeNote_137 rfl rfl rfl ?_
  refine sn_gR (k := 16) (pc' := 141) ci_13 rfl (Or.inl tw1294) dX12_writeNote_138 rfl (fun v1 => ?_)
  refine sn_iload_n (v := x1) (pc' := 142) dX12_writeNote_141 rfl rfl rfl ?_
  refine sn_aI (pc' := 143) dX12_writeNote_142 rfl (fun v2 => ?_)
  refine sn_aload_n (v := (some this)) (pc' := 144) dX12_writeNote_143 rfl rfl rfl ?_
  refine sn_gR (k := 18) (pc' := 147) ci_13 rfl (Or.inl tw1296) dX12_writeNote_144 rfl (fun v3 => ?_)
  refine sn_iload_n (v := x1) (pc' := 148) dX12_writeNote_147 rfl rfl rfl ?_
  refine sn_sipush (v := (400 : Int32)) (pc' := 151) dX12_writeNote_148 rfl (by decide) ?_
  refine sn_imul (pc' := 152) dX12_writeNote_151 rfl ?_
  refine sn_iload_n (v := x3) (pc' := 153) dX12_writeNote_152 rfl rfl rfl ?_
  refine sn_iadd (pc' := 154) dX12_writeNote_153 rfl ?_
  refine sn_aI (pc' := 155) dX12_writeNote_154 rfl (fun v4 => ?_)
  refine sn_cV (r := (some this)) (st := []) (As := [.int v2, .int v4]) (st2 := (fun _ => [])) (pc' := 158) ci_13 (fun t => c_X12_writeName G t v2 v4) cw_X12_writeName rfl rfl tw1661 pw83 tw1663 rfl rfl cat_nil rfl (fun _ => rfl) dX12_writeNote_155 rfl (fun _ => ?_)
  exact sn_weak (le_s (le_s (le_s (le_s le_e)))) (s_X12_writeNote_158 G k101 hk101 this x1 (1 : Int32) x3)
set_option maxRecDepth 100000 in
set_option maxHeartbeats 4000000 in
theorem s_X12_writeNote_101_st (G : GG)   (k101 : Nat → Int32 → Int32 → Int32 → MM Unit) (hk101 : ∀ (this : Nat) (x1 : Int32) (x2 : Int32) (x3 : Int32), Sn G yX12_writeNote cX12_writeNote 4 none 8 178 (fun _ : Unit => none) (k101 this x1 x2 x3) 101 [some (va_rf (some this)), some (.int x1), some (.int x2), some (.int x3)] []) (this : Nat) (x1 : Int32) (x2 : Int32) (x3 : Int32) : Sn G yX12_writeNote cX12_writeNote 4 none 8 178 (fun _ : Unit => none) (X12_writeNote_101_st  k101 this x1 x2 x3) 101 [some (va_rf (some this)), some (.int x1), some (.int x2), some (.int x3)] [] := by
  unfold X12_writeNote_101_st
  refine sn_iload_n (v := x3) (pc' := 102) dX12_writeNote_101 rfl rfl rfl ?_
  refine sn_aload_n (v := (some this)) (pc' := 103) dX12_writeNote_102 rfl rfl rfl ?_
  refine sn_gR (k := 17) (pc' := 106) ci_13 rfl (Or.inl tw1295) dX12_writeNote_103 rfl (fun v1 => ?_)
  refine sn_iload_n (v := x1) (pc' := 107) dX12_writeNote_106 rfl rfl rfl ?_
  refine sn_aI (pc' := 108) dX12_writeNote_107 rfl (fun v2 => ?_)
  refine sn_ic_ge (pt := 164) (pf := 111) dX12_writeNote_108 rfl rfl ?_ ?_
  · exact sn_vret dX12_writeNote_164 rfl
  · refine sn_aload_n (v := (some this)) (pc' := 112) dX12_writeNote_111 rfl rfl rfl ?_
    refine sn_gR (k := 41) (pc' := 115) ci_13 rfl (Or.inl tw1319) dX12_writeNote_112 rfl (fun v3 => ?_)
    refine sn_iload_n (v := x3) (pc' := 116) dX12_writeNote_115 rfl rfl rfl ?_
    refine sn_aB (pc' := 117) dX12_writeNote_116 rfl (fun v4 => ?_)
    refine sn_if_eq (pt := 123) (pf := 120) dX12_writeNote_117 rfl rfl ?_ ?_
    · refine sn_iload_n (v := x2) (pc' := 124) dX12_writeNote_123 rfl rfl rfl ?_
      refine sn_if_eq (pt := 134) (pf := 127) dX12_writeNote_124 rfl rfl ?_ ?_
      · exact sn_weak (le_s (le_s (le_n (le_s le_e)))) (s_X12_writeNote_134 G k101 hk101 this x1 x3)
      · refine sn_aload_n (v := (some this)) (pc' := 128) dX12_writeNote_127 rfl rfl rfl ?_
        refine sn_kSw (i := 14) (pc' := 131) (tx := ", ") (by decide +kernel) dX12_writeNote_128 rfl (fun v5 => ?_)
        refine sn_cV (r := (some this)) (st := []) (As := [va_rf v5]) (st2 := (fun _ => [])) (pc' := 134) ci_13 (fun t => c_X12_writeWord G t v5) cw_X12_writeWord rfl rfl tw1641 pw79 tw1643 rfl rfl cat_nil rfl (fun _ => rfl) dX12_writeNote_131 rfl (fun _ => ?_)
        exact sn_weak (le_s (le_s (le_n (le_s le_e)))) (s_X12_writeNote_134 G k101 hk101 this x1 x3)
    · refine sn_goto (pc' := 158) dX12_writeNote_120 rfl ?_
      exact sn_weak (le_s (le_s (le_s (le_s le_e)))) (s_X12_writeNote_158 G k101 hk101 this x1 x2 x3)
set_option maxRecDepth 100000 in
set_option maxHeartbeats 4000000 in
theorem s_X12_writeNote_101 (G : GG)   : ∀ (n : Nat) (this : Nat) (x1 : Int32) (x2 : Int32) (x3 : Int32), Sn G yX12_writeNote cX12_writeNote 4 none 8 178 (fun _ : Unit => none) (X12_writeNote_101  n this x1 x2 x3) 101 [some (va_rf (some this)), some (.int x1), some (.int x2), some (.int x3)] [] := by
  intro n
  induction n with
  | zero => intro this x1 x2 x3; exact sn_mf
  | succ n ih => intro this x1 x2 x3; exact s_X12_writeNote_101_st G   (X12_writeNote_101  n) ih this x1 x2 x3
set_option maxRecDepth 100000 in
set_option maxHeartbeats 4000000 in
theorem s_X12_writeNote_94 (G : GG)   (this : Nat) (x1 : Int32) (y0 : Option Nat) : Sn G yX12_writeNote cX12_writeNote 4 none 8 178 (fun _ : Unit => none) (X12_writeNote_94  this x1 y0) 94 [some (va_rf (some this)), some (.int x1), none, none] [va_rf y0, va_rf (some this)] := by
  unfold X12_writeNote_94
  refine sn_cV (r := (some this)) (st := []) (As := [va_rf y0]) (st2 := (fun _ => [])) (pc' := 97) ci_13 (fun t => c_X12_writeWord G t y0) cw_X12_writeWord rfl rfl tw1641 pw79 tw1643 rfl rfl cat_nil rfl (fun _ => rfl) dX12_writeNote_94 rfl (fun _ => ?_)
  refine sn_iconst (v := (0 : Int32)) (pc' := 98) dX12_writeNote_97 rfl (by decide) ?_
  refine sn_istore_n (v := (0 : Int32)) (L' := [some (va_rf (some this)), some (.int x1), some (.int (0 : Int32)), none]) (pc' := 99) dX12_writeNote_98 rfl rfl rfl rfl ?_
  refine sn_iconst (v := (0 : Int32)) (pc' := 100) dX12_writeNote_99 rfl (by decide) ?_
  refine sn_istore_n (v := (0 : Int32)) (L' := [some (va_rf (some this)), some (.int x1), some (.int (0 : Int32)), some (.int (0 : Int32))]) (pc' := 101) dX12_writeNote_100 rfl rfl rfl rfl ?_
  exact sn_weak (le_s (le_s (le_s (le_s le_e)))) (s_X12_writeNote_101 G LFU this x1 (0 : Int32) (0 : Int32))
set_option maxRecDepth 100000 in
set_option maxHeartbeats 4000000 in
theorem s_X12_writeNote_67 (G : GG)   (this : Nat) (x1 : Int32) : Sn G yX12_writeNote cX12_writeNote 4 none 8 178 (fun _ : Unit => none) (X12_writeNote_67  this x1) 67 [some (va_rf (some this)), some (.int x1), none, none] [] := by
  unfold X12_writeNote_67
  refine sn_aload_n (v := (some this)) (pc' := 68) dX12_writeNote_67 rfl rfl rfl ?_
  refine sn_iload_n (v := x1) (pc' := 69) dX12_writeNote_68 rfl rfl rfl ?_
  refine sn_iconst (v := (4 : Int32)) (pc' := 70) dX12_writeNote_69 rfl (by decide) ?_
  refine sn_cV (r := (some this)) (st := []) (As := [.int x1, .int (4 : Int32)]) (st2 := (fun v => .int v :: [])) (pc' := 73) ci_13 (fun t => c_X12_countTold G t x1 (4 : Int32)) cw_X12_countTold rfl rfl tw1707 pw86 tw1709 rfl rfl cat_nil rfl (fun _ => rfl) dX12_writeNote_70 rfl (fun v1 => ?_)
  refine sn_if_ne (pt := 77) (pf := 76) dX12_writeNote_73 rfl rfl ?_ ?_
  · exact sn_vret dX12_writeNote_76 rfl
  · refine sn_aload_n (v := (some this)) (pc' := 78) dX12_writeNote_77 rfl rfl rfl ?_
    refine sn_aload_n (v := (some this)) (pc' := 79) dX12_writeNote_78 rfl rfl rfl ?_
    refine sn_gI (k := 37) (pc' := 82) ci_13 rfl (Or.inl tw1315) dX12_writeNote_79 rfl (fun v2 => ?_)
    refine sn_if_le (pt := 91) (pf := 85) dX12_writeNote_82 rfl rfl ?_ ?_
    · refine sn_kSw (i := 18) (pc' := 94) (tx := "moved ") (by decide +kernel) dX12_writeNote_91 rfl (fun v3 => ?_)
      exact sn_weak (le_s (le_s (le_n (le_n le_e)))) (s_X12_writeNote_94 G this x1 v3)
    · refine sn_kSw (i := 17) (pc' := 88) (tx := "; moved ") (by decide +kernel) dX12_writeNote_85 rfl (fun v4 => ?_)
      refine sn_goto (pc' := 94) dX12_writeNote_88 rfl ?_
      exact sn_weak (le_s (le_s (le_n (le_n le_e)))) (s_X12_writeNote_94 G this x1 v4)
set_option maxRecDepth 100000 in
set_option maxHeartbeats 4000000 in
theorem s_X12_writeNote_58 (G : GG)   (this : Nat) (x1 : Int32) (y0 : Option Nat) : Sn G yX12_writeNote cX12_writeNote 4 none 8 178 (fun _ : Unit => none) (X12_writeNote_58  this x1 y0) 58 [some (va_rf (some this)), some (.int x1), none, none] [va_rf y0, va_rf (some this)] := by
  unfold X12_writeNote_58
  refine sn_cV (r := (some this)) (st := []) (As := [va_rf y0]) (st2 := (fun _ => [])) (pc' := 61) ci_13 (fun t => c_X12_writeWord G t y0) cw_X12_writeWord rfl rfl tw1641 pw79 tw1643 rfl rfl cat_nil rfl (fun _ => rfl) dX12_writeNote_58 rfl (fun _ => ?_)
  refine sn_aload_n (v := (some this)) (pc' := 62) dX12_writeNote_61 rfl rfl rfl ?_
  refine sn_iload_n (v := x1) (pc' := 63) dX12_writeNote_62 rfl rfl rfl ?_
  refine sn_iconst (v := (3 : Int32)) (pc' := 64) dX12_writeNote_63 rfl (by decide) ?_
  refine sn_cV (r := (some this)) (st := []) (As := [.int x1, .int (3 : Int32)]) (st2 := (fun _ => [])) (pc' := 67) ci_13 (fun t => c_X12_writeRuns G t x1 (3 : Int32)) cw_X12_writeRuns rfl rfl tw1736 pw90 tw1738 rfl rfl cat_nil rfl (fun _ => rfl) dX12_writeNote_64 rfl (fun _ => ?_)
  exact sn_weak (le_s (le_s (le_n (le_n le_e)))) (s_X12_writeNote_67 G this x1)
set_option maxRecDepth 100000 in
set_option maxHeartbeats 4000000 in
theorem s_X12_writeNote_32 (G : GG)   (this : Nat) (x1 : Int32) : Sn G yX12_writeNote cX12_writeNote 4 none 8 178 (fun _ : Unit => none) (X12_writeNote_32  this x1) 32 [some (va_rf (some this)), some (.int x1), none, none] [] := by
  unfold X12_writeNote_32
  refine sn_aload_n (v := (some this)) (pc' := 33) dX12_writeNote_32 rfl rfl rfl ?_
  refine sn_iload_n (v := x1) (pc' := 34) dX12_writeNote_33 rfl rfl rfl ?_
  refine sn_iconst (v := (3 : Int32)) (pc' := 35) dX12_writeNote_34 rfl (by decide) ?_
  refine sn_cV (r := (some this)) (st := []) (As := [.int x1, .int (3 : Int32)]) (st2 := (fun v => .int v :: [])) (pc' := 38) ci_13 (fun t => c_X12_countTold G t x1 (3 : Int32)) cw_X12_countTold rfl rfl tw1707 pw86 tw1709 rfl rfl cat_nil rfl (fun _ => rfl) dX12_writeNote_35 rfl (fun v1 => ?_)
  refine sn_if_le (pt := 67) (pf := 41) dX12_writeNote_38 rfl rfl ?_ ?_
  · exact sn_weak (le_s (le_s (le_n (le_n le_e)))) (s_X12_writeNote_67 G this x1)
  · refine sn_aload_n (v := (some this)) (pc' := 42) dX12_writeNote_41 rfl rfl rfl ?_
    refine sn_aload_n (v := (some this)) (pc' := 43) dX12_writeNote_42 rfl rfl rfl ?_
    refine sn_gI (k := 37) (pc' := 46) ci_13 rfl (Or.inl tw1315) dX12_writeNote_43 rfl (fun v2 => ?_)
    refine sn_if_le (pt := 55) (pf := 49) dX12_writeNote_46 rfl rfl ?_ ?_
    · refine sn_kSw (i := 16) (pc' := 58) (tx := "twice ") (by decide +kernel) dX12_writeNote_55 rfl (fun v3 => ?_)
      exact sn_weak (le_s (le_s (le_n (le_n le_e)))) (s_X12_writeNote_58 G this x1 v3)
    · refine sn_kSw (i := 15) (pc' := 52) (tx := "; twice ") (by decide +kernel) dX12_writeNote_49 rfl (fun v4 => ?_)
      refine sn_goto (pc' := 58) dX12_writeNote_52 rfl ?_
      exact sn_weak (le_s (le_s (le_n (le_n le_e)))) (s_X12_writeNote_58 G this x1 v4)
set_option maxRecDepth 100000 in
set_option maxHeartbeats 4000000 in
theorem s_X12_writeNote (G : GG) (this : Nat) (a1 : Int32) : Sn G yX12_writeNote cX12_writeNote 4 none 8 178 (fun _ : Unit => none) (X12_writeNote this a1) 0 [some (va_rf (some this)), some (.int a1), none, none] [] := by
  unfold X12_writeNote
  refine sn_aload_n (v := (some this)) (pc' := 1) dX12_writeNote_0 rfl rfl rfl ?_
  refine sn_iload_n (v := a1) (pc' := 2) dX12_writeNote_1 rfl rfl rfl ?_
  refine sn_cV (r := (some this)) (st := []) (As := [.int a1]) (st2 := (fun _ => [])) (pc' := 5) ci_13 (fun t => c_X12_look G t a1) cw_X12_look rfl rfl tw1702 pw85 tw1704 rfl rfl cat_nil rfl (fun _ => rfl) dX12_writeNote_2 rfl (fun _ => ?_)
  refine sn_aload_n (v := (some this)) (pc' := 6) dX12_writeNote_5 rfl rfl rfl ?_
  refine sn_iconst (v := (0 : Int32)) (pc' := 7) dX12_writeNote_6 rfl (by decide) ?_
  refine sn_pI (k := 37) (pc' := 10) ci_13 rfl (Or.inl tw1315) (Or.inl rfl) rfl dX12_writeNote_7 rfl (fun _ => ?_)
  refine sn_aload_n (v := (some this)) (pc' := 11) dX12_writeNote_10 rfl rfl rfl ?_
  refine sn_iload_n (v := a1) (pc' := 12) dX12_writeNote_11 rfl rfl rfl ?_
  refine sn_iconst (v := (2 : Int32)) (pc' := 13) dX12_writeNote_12 rfl (by decide) ?_
  refine sn_cV (r := (some this)) (st := []) (As := [.int a1, .int (2 : Int32)]) (st2 := (fun v => .int v :: [])) (pc' := 16) ci_13 (fun t => c_X12_countTold G t a1 (2 : Int32)) cw_X12_countTold rfl rfl tw1707 pw86 tw1709 rfl rfl cat_nil rfl (fun _ => rfl) dX12_writeNote_13 rfl (fun v1 => ?_)
  refine sn_if_le (pt := 32) (pf := 19) dX12_writeNote_16 rfl rfl ?_ ?_
  · exact sn_weak (le_s (le_s (le_n (le_n le_e)))) (s_X12_writeNote_32 G this a1)
  · refine sn_aload_n (v := (some this)) (pc' := 20) dX12_writeNote_19 rfl rfl rfl ?_
    refine sn_kSw (i := 13) (pc' := 23) (tx := "lacks ") (by decide +kernel) dX12_writeNote_20 rfl (fun v2 => ?_)
    refine sn_cV (r := (some this)) (st := []) (As := [va_rf v2]) (st2 := (fun _ => [])) (pc' := 26) ci_13 (fun t => c_X12_writeWord G t v2) cw_X12_writeWord rfl rfl tw1641 pw79 tw1643 rfl rfl cat_nil rfl (fun _ => rfl) dX12_writeNote_23 rfl (fun _ => ?_)
    refine sn_aload_n (v := (some this)) (pc' := 27) dX12_writeNote_26 rfl rfl rfl ?_
    refine sn_iload_n (v := a1) (pc' := 28) dX12_writeNote_27 rfl rfl rfl ?_
    refine sn_iconst (v := (2 : Int32)) (pc' := 29) dX12_writeNote_28 rfl (by decide) ?_
    refine sn_cV (r := (some this)) (st := []) (As := [.int a1, .int (2 : Int32)]) (st2 := (fun _ => [])) (pc' := 32) ci_13 (fun t => c_X12_writeRuns G t a1 (2 : Int32)) cw_X12_writeRuns rfl rfl tw1736 pw90 tw1738 rfl rfl cat_nil rfl (fun _ => rfl) dX12_writeNote_29 rfl (fun _ => ?_)
    exact sn_weak (le_s (le_s (le_n (le_n le_e)))) (s_X12_writeNote_32 G this a1)
theorem c_X12_writeNote (G : GG) (this : Nat) (a1 : Int32) : Cal G yX12_writeNote cX12_writeNote 4 none 8 178 (fun _ : Unit => none) (X12_writeNote this a1) [.ref this, .int a1] :=
  Cal.of (by decide) (cat_t (cat_i cat_nil)) rfl (sn_weak (le_s (le_s (le_z (le_z le_e)))) (s_X12_writeNote G this a1))
theorem cw_X12_writeNote : CW yX12_writeNote cX12_writeNote 4 none 1 := ⟨tw1734, tw15, by decide, by decide +kernel⟩
/-! X12_init -/
theorem dX12_init_0 : decode cX12_init 0 = .ok (.aload_n 0, 1) := by decide +kernel
theorem dX12_init_1 : decode cX12_init 1 = .ok (.invokespecial 291, 3) := by decide +kernel
theorem dX12_init_4 : decode cX12_init 4 = .ok (.aload_n 0, 1) := by decide +kernel
theorem dX12_init_5 : decode cX12_init 5 = .ok (.bipush 120, 2) := by decide +kernel
theorem dX12_init_7 : decode cX12_init 7 = .ok (.newarray .int, 2) := by decide +kernel
theorem dX12_init_9 : decode cX12_init 9 = .ok (.putfield 69, 3) := by decide +kernel
theorem dX12_init_12 : decode cX12_init 12 = .ok (.aload_n 0, 1) := by decide +kernel
theorem dX12_init_13 : decode cX12_init 13 = .ok (.bipush (-9), 2) := by decide +kernel
theorem dX12_init_15 : decode cX12_init 15 = .ok (.putfield 117, 3) := by decide +kernel
theorem dX12_init_18 : decode cX12_init 18 = .ok (.aload_n 0, 1) := by decide +kernel
theorem dX12_init_19 : decode cX12_init 19 = .ok (.bipush 8, 2) := by decide +kernel
theorem dX12_init_21 : decode cX12_init 21 = .ok (.newarray .int, 2) := by decide +kernel
theorem dX12_init_23 : decode cX12_init 23 = .ok (.putfield 17, 3) := by decide +kernel
theorem dX12_init_26 : decode cX12_init 26 = .ok (.aload_n 0, 1) := by decide +kernel
theorem dX12_init_27 : decode cX12_init 27 = .ok (.sipush 568, 3) := by decide +kernel
theorem dX12_init_30 : decode cX12_init 30 = .ok (.newarray .int, 2) := by decide +kernel
theorem dX12_init_32 : decode cX12_init 32 = .ok (.putfield 21, 3) := by decide +kernel
theorem dX12_init_35 : decode cX12_init 35 = .ok (.aload_n 0, 1) := by decide +kernel
theorem dX12_init_36 : decode cX12_init 36 = .ok (.sipush 568, 3) := by decide +kernel
theorem dX12_init_39 : decode cX12_init 39 = .ok (.newarray .int, 2) := by decide +kernel
theorem dX12_init_41 : decode cX12_init 41 = .ok (.putfield 24, 3) := by decide +kernel
theorem dX12_init_44 : decode cX12_init 44 = .ok (.aload_n 0, 1) := by decide +kernel
theorem dX12_init_45 : decode cX12_init 45 = .ok (.sipush 7384, 3) := by decide +kernel
theorem dX12_init_48 : decode cX12_init 48 = .ok (.newarray .int, 2) := by decide +kernel
theorem dX12_init_50 : decode cX12_init 50 = .ok (.putfield 31, 3) := by decide +kernel
theorem dX12_init_53 : decode cX12_init 53 = .ok (.aload_n 0, 1) := by decide +kernel
theorem dX12_init_54 : decode cX12_init 54 = .ok (.sipush 7384, 3) := by decide +kernel
theorem dX12_init_57 : decode cX12_init 57 = .ok (.newarray .int, 2) := by decide +kernel
theorem dX12_init_59 : decode cX12_init 59 = .ok (.putfield 34, 3) := by decide +kernel
theorem dX12_init_62 : decode cX12_init 62 = .ok (.aload_n 0, 1) := by decide +kernel
theorem dX12_init_63 : decode cX12_init 63 = .ok (.bipush 8, 2) := by decide +kernel
theorem dX12_init_65 : decode cX12_init 65 = .ok (.newarray .int, 2) := by decide +kernel
theorem dX12_init_67 : decode cX12_init 67 = .ok (.putfield 46, 3) := by decide +kernel
theorem dX12_init_70 : decode cX12_init 70 = .ok (.aload_n 0, 1) := by decide +kernel
theorem dX12_init_71 : decode cX12_init 71 = .ok (.sipush 3200, 3) := by decide +kernel
theorem dX12_init_74 : decode cX12_init 74 = .ok (.newarray .int, 2) := by decide +kernel
theorem dX12_init_76 : decode cX12_init 76 = .ok (.putfield 37, 3) := by decide +kernel
theorem dX12_init_79 : decode cX12_init 79 = .ok (.aload_n 0, 1) := by decide +kernel
theorem dX12_init_80 : decode cX12_init 80 = .ok (.sipush 3200, 3) := by decide +kernel
theorem dX12_init_83 : decode cX12_init 83 = .ok (.newarray .int, 2) := by decide +kernel
theorem dX12_init_85 : decode cX12_init 85 = .ok (.putfield 40, 3) := by decide +kernel
theorem dX12_init_88 : decode cX12_init 88 = .ok (.aload_n 0, 1) := by decide +kernel
theorem dX12_init_89 : decode cX12_init 89 = .ok (.sipush 3200, 3) := by decide +kernel
theorem dX12_init_92 : decode cX12_init 92 = .ok (.newarray .int, 2) := by decide +kernel
theorem dX12_init_94 : decode cX12_init 94 = .ok (.putfield 43, 3) := by decide +kernel
theorem dX12_init_97 : decode cX12_init 97 = .ok (.aload_n 0, 1) := by decide +kernel
theorem dX12_init_98 : decode cX12_init 98 = .ok (.bipush 16, 2) := by decide +kernel
theorem dX12_init_100 : decode cX12_init 100 = .ok (.newarray .int, 2) := by decide +kernel
theorem dX12_init_102 : decode cX12_init 102 = .ok (.putfield 236, 3) := by decide +kernel
theorem dX12_init_105 : decode cX12_init 105 = .ok (.aload_n 0, 1) := by decide +kernel
theorem dX12_init_106 : decode cX12_init 106 = .ok (.bipush 16, 2) := by decide +kernel
theorem dX12_init_108 : decode cX12_init 108 = .ok (.newarray .int, 2) := by decide +kernel
theorem dX12_init_110 : decode cX12_init 110 = .ok (.putfield 242, 3) := by decide +kernel
theorem dX12_init_113 : decode cX12_init 113 = .ok (.aload_n 0, 1) := by decide +kernel
theorem dX12_init_114 : decode cX12_init 114 = .ok (.sipush 6400, 3) := by decide +kernel
theorem dX12_init_117 : decode cX12_init 117 = .ok (.newarray .int, 2) := by decide +kernel
theorem dX12_init_119 : decode cX12_init 119 = .ok (.putfield 245, 3) := by decide +kernel
theorem dX12_init_122 : decode cX12_init 122 = .ok (.aload_n 0, 1) := by decide +kernel
theorem dX12_init_123 : decode cX12_init 123 = .ok (.bipush 120, 2) := by decide +kernel
theorem dX12_init_125 : decode cX12_init 125 = .ok (.newarray .int, 2) := by decide +kernel
theorem dX12_init_127 : decode cX12_init 127 = .ok (.putfield 151, 3) := by decide +kernel
theorem dX12_init_130 : decode cX12_init 130 = .ok (.aload_n 0, 1) := by decide +kernel
theorem dX12_init_131 : decode cX12_init 131 = .ok (.bipush 120, 2) := by decide +kernel
theorem dX12_init_133 : decode cX12_init 133 = .ok (.newarray .int, 2) := by decide +kernel
theorem dX12_init_135 : decode cX12_init 135 = .ok (.putfield 158, 3) := by decide +kernel
theorem dX12_init_138 : decode cX12_init 138 = .ok (.aload_n 0, 1) := by decide +kernel
theorem dX12_init_139 : decode cX12_init 139 = .ok (.bipush 120, 2) := by decide +kernel
theorem dX12_init_141 : decode cX12_init 141 = .ok (.newarray .boolean, 2) := by decide +kernel
theorem dX12_init_143 : decode cX12_init 143 = .ok (.putfield 154, 3) := by decide +kernel
theorem dX12_init_146 : decode cX12_init 146 = .ok (.aload_n 0, 1) := by decide +kernel
theorem dX12_init_147 : decode cX12_init 147 = .ok (.bipush 120, 2) := by decide +kernel
theorem dX12_init_149 : decode cX12_init 149 = .ok (.newarray .int, 2) := by decide +kernel
theorem dX12_init_151 : decode cX12_init 151 = .ok (.putfield 161, 3) := by decide +kernel
theorem dX12_init_154 : decode cX12_init 154 = .ok (.aload_n 0, 1) := by decide +kernel
theorem dX12_init_155 : decode cX12_init 155 = .ok (.bipush 120, 2) := by decide +kernel
theorem dX12_init_157 : decode cX12_init 157 = .ok (.newarray .int, 2) := by decide +kernel
theorem dX12_init_159 : decode cX12_init 159 = .ok (.putfield 164, 3) := by decide +kernel
theorem dX12_init_162 : decode cX12_init 162 = .ok (.aload_n 0, 1) := by decide +kernel
theorem dX12_init_163 : decode cX12_init 163 = .ok (.bipush 121, 2) := by decide +kernel
theorem dX12_init_165 : decode cX12_init 165 = .ok (.newarray .int, 2) := by decide +kernel
theorem dX12_init_167 : decode cX12_init 167 = .ok (.putfield 170, 3) := by decide +kernel
theorem dX12_init_170 : decode cX12_init 170 = .ok (.aload_n 0, 1) := by decide +kernel
theorem dX12_init_171 : decode cX12_init 171 = .ok (.bipush 120, 2) := by decide +kernel
theorem dX12_init_173 : decode cX12_init 173 = .ok (.newarray .int, 2) := by decide +kernel
theorem dX12_init_175 : decode cX12_init 175 = .ok (.putfield 123, 3) := by decide +kernel
theorem dX12_init_178 : decode cX12_init 178 = .ok (.aload_n 0, 1) := by decide +kernel
theorem dX12_init_179 : decode cX12_init 179 = .ok (.bipush 120, 2) := by decide +kernel
theorem dX12_init_181 : decode cX12_init 181 = .ok (.newarray .int, 2) := by decide +kernel
theorem dX12_init_183 : decode cX12_init 183 = .ok (.putfield 129, 3) := by decide +kernel
theorem dX12_init_186 : decode cX12_init 186 = .ok (.aload_n 0, 1) := by decide +kernel
theorem dX12_init_187 : decode cX12_init 187 = .ok (.bipush 120, 2) := by decide +kernel
theorem dX12_init_189 : decode cX12_init 189 = .ok (.newarray .int, 2) := by decide +kernel
theorem dX12_init_191 : decode cX12_init 191 = .ok (.putfield 135, 3) := by decide +kernel
theorem dX12_init_194 : decode cX12_init 194 = .ok (.aload_n 0, 1) := by decide +kernel
theorem dX12_init_195 : decode cX12_init 195 = .ok (.bipush 120, 2) := by decide +kernel
theorem dX12_init_197 : decode cX12_init 197 = .ok (.newarray .int, 2) := by decide +kernel
theorem dX12_init_199 : decode cX12_init 199 = .ok (.putfield 138, 3) := by decide +kernel
theorem dX12_init_202 : decode cX12_init 202 = .ok (.aload_n 0, 1) := by decide +kernel
theorem dX12_init_203 : decode cX12_init 203 = .ok (.sipush 16384, 3) := by decide +kernel
theorem dX12_init_206 : decode cX12_init 206 = .ok (.newarray .int, 2) := by decide +kernel
theorem dX12_init_208 : decode cX12_init 208 = .ok (.putfield 202, 3) := by decide +kernel
theorem dX12_init_211 : decode cX12_init 211 = .ok (.aload_n 0, 1) := by decide +kernel
theorem dX12_init_212 : decode cX12_init 212 = .ok (.sipush 16384, 3) := by decide +kernel
theorem dX12_init_215 : decode cX12_init 215 = .ok (.newarray .int, 2) := by decide +kernel
theorem dX12_init_217 : decode cX12_init 217 = .ok (.putfield 296, 3) := by decide +kernel
theorem dX12_init_220 : decode cX12_init 220 = .ok (.aload_n 0, 1) := by decide +kernel
theorem dX12_init_221 : decode cX12_init 221 = .ok (.sipush 400, 3) := by decide +kernel
theorem dX12_init_224 : decode cX12_init 224 = .ok (.newarray .int, 2) := by decide +kernel
theorem dX12_init_226 : decode cX12_init 226 = .ok (.putfield 239, 3) := by decide +kernel
theorem dX12_init_229 : decode cX12_init 229 = .ok (.aload_n 0, 1) := by decide +kernel
theorem dX12_init_230 : decode cX12_init 230 = .ok (.sipush 400, 3) := by decide +kernel
theorem dX12_init_233 : decode cX12_init 233 = .ok (.newarray .int, 2) := by decide +kernel
theorem dX12_init_235 : decode cX12_init 235 = .ok (.putfield 248, 3) := by decide +kernel
theorem dX12_init_238 : decode cX12_init 238 = .ok (.aload_n 0, 1) := by decide +kernel
theorem dX12_init_239 : decode cX12_init 239 = .ok (.sipush 400, 3) := by decide +kernel
theorem dX12_init_242 : decode cX12_init 242 = .ok (.newarray .boolean, 2) := by decide +kernel
theorem dX12_init_244 : decode cX12_init 244 = .ok (.putfield 254, 3) := by decide +kernel
theorem dX12_init_247 : decode cX12_init 247 = .ok (.aload_n 0, 1) := by decide +kernel
theorem dX12_init_248 : decode cX12_init 248 = .ok (.bipush 120, 2) := by decide +kernel
theorem dX12_init_250 : decode cX12_init 250 = .ok (.newarray .int, 2) := by decide +kernel
theorem dX12_init_252 : decode cX12_init 252 = .ok (.putfield 299, 3) := by decide +kernel
theorem dX12_init_255 : decode cX12_init 255 = .ok (.aload_n 0, 1) := by decide +kernel
theorem dX12_init_256 : decode cX12_init 256 = .ok (.bipush 120, 2) := by decide +kernel
theorem dX12_init_258 : decode cX12_init 258 = .ok (.newarray .int, 2) := by decide +kernel
theorem dX12_init_260 : decode cX12_init 260 = .ok (.putfield 302, 3) := by decide +kernel
theorem dX12_init_263 : decode cX12_init 263 = .ok (.aload_n 0, 1) := by decide +kernel
theorem dX12_init_264 : decode cX12_init 264 = .ok (.sipush 400, 3) := by decide +kernel
theorem dX12_init_267 : decode cX12_init 267 = .ok (.newarray .boolean, 2) := by decide +kernel
theorem dX12_init_269 : decode cX12_init 269 = .ok (.putfield 305, 3) := by decide +kernel
theorem dX12_init_272 : decode cX12_init 272 = .ok (.aload_n 0, 1) := by decide +kernel
theorem dX12_init_273 : decode cX12_init 273 = .ok (.sipush 400, 3) := by decide +kernel
theorem dX12_init_276 : decode cX12_init 276 = .ok (.newarray .boolean, 2) := by decide +kernel
theorem dX12_init_278 : decode cX12_init 278 = .ok (.putfield 308, 3) := by decide +kernel
theorem dX12_init_281 : decode cX12_init 281 = .ok (.return_, 1) := by decide +kernel
def X12_init (this : Nat) : MM Unit :=
  wn (some this) fun _ =>
  mb (nA 0 (120 : Int32)) fun v1 =>
  mb (pR 13 (some this) 0 v1) fun _ =>
  mb (pI 13 (some this) 3 (-9 : Int32)) fun _ =>
  mb (nA 0 (8 : Int32)) fun v2 =>
  mb (pR 13 (some this) 6 v2) fun _ =>
  mb (nA 0 (568 : Int32)) fun v3 =>
  mb (pR 13 (some this) 7 v3) fun _ =>
  mb (nA 0 (568 : Int32)) fun v4 =>
  mb (pR 13 (some this) 8 v4) fun _ =>
  mb (nA 0 (7384 : Int32)) fun v5 =>
  mb (pR 13 (some this) 9 v5) fun _ =>
  mb (nA 0 (7384 : Int32)) fun v6 =>
  mb (pR 13 (some this) 10 v6) fun _ =>
  mb (nA 0 (8 : Int32)) fun v7 =>
  mb (pR 13 (some this) 11 v7) fun _ =>
  mb (nA 0 (3200 : Int32)) fun v8 =>
  mb (pR 13 (some this) 12 v8) fun _ =>
  mb (nA 0 (3200 : Int32)) fun v9 =>
  mb (pR 13 (some this) 13 v9) fun _ =>
  mb (nA 0 (3200 : Int32)) fun v10 =>
  mb (pR 13 (some this) 14 v10) fun _ =>
  mb (nA 0 (16 : Int32)) fun v11 =>
  mb (pR 13 (some this) 16 v11) fun _ =>
  mb (nA 0 (16 : Int32)) fun v12 =>
  mb (pR 13 (some this) 17 v12) fun _ =>
  mb (nA 0 (6400 : Int32)) fun v13 =>
  mb (pR 13 (some this) 18 v13) fun _ =>
  mb (nA 0 (120 : Int32)) fun v14 =>
  mb (pR 13 (some this) 26 v14) fun _ =>
  mb (nA 0 (120 : Int32)) fun v15 =>
  mb (pR 13 (some this) 27 v15) fun _ =>
  mb (nA 2 (120 : Int32)) fun v16 =>
  mb (pR 13 (some this) 28 v16) fun _ =>
  mb (nA 0 (120 : Int32)) fun v17 =>
  mb (pR 13 (some this) 29 v17) fun _ =>
  mb (nA 0 (120 : Int32)) fun v18 =>
  mb (pR 13 (some this) 30 v18) fun _ =>
  mb (nA 0 (121 : Int32)) fun v19 =>
  mb (pR 13 (some this) 31 v19) fun _ =>
  mb (nA 0 (120 : Int32)) fun v20 =>
  mb (pR 13 (some this) 32 v20) fun _ =>
  mb (nA 0 (120 : Int32)) fun v21 =>
  mb (pR 13 (some this) 33 v21) fun _ =>
  mb (nA 0 (120 : Int32)) fun v22 =>
  mb (pR 13 (some this) 34 v22) fun _ =>
  mb (nA 0 (120 : Int32)) fun v23 =>
  mb (pR 13 (some this) 35 v23) fun _ =>
  mb (nA 0 (16384 : Int32)) fun v24 =>
  mb (pR 13 (some this) 36 v24) fun _ =>
  mb (nA 0 (16384 : Int32)) fun v25 =>
  mb (pR 13 (some this) 38 v25) fun _ =>
  mb (nA 0 (400 : Int32)) fun v26 =>
  mb (pR 13 (some this) 39 v26) fun _ =>
  mb (nA 0 (400 : Int32)) fun v27 =>
  mb (pR 13 (some this) 40 v27) fun _ =>
  mb (nA 2 (400 : Int32)) fun v28 =>
  mb (pR 13 (some this) 41 v28) fun _ =>
  mb (nA 0 (120 : Int32)) fun v29 =>
  mb (pR 13 (some this) 45 v29) fun _ =>
  mb (nA 0 (120 : Int32)) fun v30 =>
  mb (pR 13 (some this) 46 v30) fun _ =>
  mb (nA 2 (400 : Int32)) fun v31 =>
  mb (pR 13 (some this) 47 v31) fun _ =>
  mb (nA 2 (400 : Int32)) fun v32 =>
  mb (pR 13 (some this) 48 v32) fun _ =>
  mr ()
set_option maxRecDepth 100000 in
set_option maxHeartbeats 4000000 in
theorem s_X12_init (G : GG) (this : Nat) : Sn G yX12_init cX12_init 1 none 1 12 (fun _ : Unit => none) (X12_init this) 0 [some (va_rf (some this))] [] := by
  unfold X12_init
  refine sn_aload_n (v := (some this)) (pc' := 1) dX12_init_0 rfl rfl rfl ?_
  refine sn_oI (pc' := 4) rfl tw1277 tw33 tw34 cat_nil rfl dX12_init_1 rfl ?_
  refine sn_aload_n (v := (some this)) (pc' := 5) dX12_init_4 rfl rfl rfl ?_
  refine sn_bipush (v := (120 : Int32)) (pc' := 7) dX12_init_5 rfl (by decide) ?_
  refine sn_nA (t := 0) (pc' := 9) rfl rfl tw64 dX12_init_7 rfl (fun v1 => ?_)
  refine sn_pR (k := 0) (pc' := 12) ci_13 rfl (Or.inl tw1278) (Or.inr ⟨rfl, rfl, rfl, tw1278⟩) (Or.inr ⟨_, rfl⟩) dX12_init_9 rfl (fun _ => ?_)
  refine sn_aload_n (v := (some this)) (pc' := 13) dX12_init_12 rfl rfl rfl ?_
  refine sn_bipush (v := (-9 : Int32)) (pc' := 15) dX12_init_13 rfl (by decide) ?_
  refine sn_pI (k := 3) (pc' := 18) ci_13 rfl (Or.inl tw1281) (Or.inl rfl) rfl dX12_init_15 rfl (fun _ => ?_)
  refine sn_aload_n (v := (some this)) (pc' := 19) dX12_init_18 rfl rfl rfl ?_
  refine sn_bipush (v := (8 : Int32)) (pc' := 21) dX12_init_19 rfl (by decide) ?_
  refine sn_nA (t := 0) (pc' := 23) rfl rfl tw64 dX12_init_21 rfl (fun v2 => ?_)
  refine sn_pR (k := 6) (pc' := 26) ci_13 rfl (Or.inl tw1284) (Or.inr ⟨rfl, rfl, rfl, tw1284⟩) (Or.inr ⟨_, rfl⟩) dX12_init_23 rfl (fun _ => ?_)
  refine sn_aload_n (v := (some this)) (pc' := 27) dX12_init_26 rfl rfl rfl ?_
  refine sn_sipush (v := (568 : Int32)) (pc' := 30) dX12_init_27 rfl (by decide) ?_
  refine sn_nA (t := 0) (pc' := 32) rfl rfl tw64 dX12_init_30 rfl (fun v3 => ?_)
  refine sn_pR (k := 7) (pc' := 35) ci_13 rfl (Or.inl tw1285) (Or.inr ⟨rfl, rfl, rfl, tw1285⟩) (Or.inr ⟨_, rfl⟩) dX12_init_32 rfl (fun _ => ?_)
  refine sn_aload_n (v := (some this)) (pc' := 36) dX12_init_35 rfl rfl rfl ?_
  refine sn_sipush (v := (568 : Int32)) (pc' := 39) dX12_init_36 rfl (by decide) ?_
  refine sn_nA (t := 0) (pc' := 41) rfl rfl tw64 dX12_init_39 rfl (fun v4 => ?_)
  refine sn_pR (k := 8) (pc' := 44) ci_13 rfl (Or.inl tw1286) (Or.inr ⟨rfl, rfl, rfl, tw1286⟩) (Or.inr ⟨_, rfl⟩) dX12_init_41 rfl (fun _ => ?_)
  refine sn_aload_n (v := (some this)) (pc' := 45) dX12_init_44 rfl rfl rfl ?_
  refine sn_sipush (v := (7384 : Int32)) (pc' := 48) dX12_init_45 rfl (by decide) ?_
  refine sn_nA (t := 0) (pc' := 50) rfl rfl tw64 dX12_init_48 rfl (fun v5 => ?_)
  refine sn_pR (k := 9) (pc' := 53) ci_13 rfl (Or.inl tw1287) (Or.inr ⟨rfl, rfl, rfl, tw1287⟩) (Or.inr ⟨_, rfl⟩) dX12_init_50 rfl (fun _ => ?_)
  refine sn_aload_n (v := (some this)) (pc' := 54) dX12_init_53 rfl rfl rfl ?_
  refine sn_sipush (v := (7384 : Int32)) (pc' := 57) dX12_init_54 rfl (by decide) ?_
  refine sn_nA (t := 0) (pc' := 59) rfl rfl tw64 dX12_init_57 rfl (fun v6 => ?_)
  refine sn_pR (k := 10) (pc' := 62) ci_13 rfl (Or.inl tw1288) (Or.inr ⟨rfl, rfl, rfl, tw1288⟩) (Or.inr ⟨_, rfl⟩) dX12_init_59 rfl (fun _ => ?_)
  refine sn_aload_n (v := (some this)) (pc' := 63) dX12_init_62 rfl rfl rfl ?_
  refine sn_bipush (v := (8 : Int32)) (pc' := 65) dX12_init_63 rfl (by decide) ?_
  refine sn_nA (t := 0) (pc' := 67) rfl rfl tw64 dX12_init_65 rfl (fun v7 => ?_)
  refine sn_pR (k := 11) (pc' := 70) ci_13 rfl (Or.inl tw1289) (Or.inr ⟨rfl, rfl, rfl, tw1289⟩) (Or.inr ⟨_, rfl⟩) dX12_init_67 rfl (fun _ => ?_)
  refine sn_aload_n (v := (some this)) (pc' := 71) dX12_init_70 rfl rfl rfl ?_
  refine sn_sipush (v := (3200 : Int32)) (pc' := 74) dX12_init_71 rfl (by decide) ?_
  refine sn_nA (t := 0) (pc' := 76) rfl rfl tw64 dX12_init_74 rfl (fun v8 => ?_)
  refine sn_pR (k := 12) (pc' := 79) ci_13 rfl (Or.inl tw1290) (Or.inr ⟨rfl, rfl, rfl, tw1290⟩) (Or.inr ⟨_, rfl⟩) dX12_init_76 rfl (fun _ => ?_)
  refine sn_aload_n (v := (some this)) (pc' := 80) dX12_init_79 rfl rfl rfl ?_
  refine sn_sipush (v := (3200 : Int32)) (pc' := 83) dX12_init_80 rfl (by decide) ?_
  refine sn_nA (t := 0) (pc' := 85) rfl rfl tw64 dX12_init_83 rfl (fun v9 => ?_)
  refine sn_pR (k := 13) (pc' := 88) ci_13 rfl (Or.inl tw1291) (Or.inr ⟨rfl, rfl, rfl, tw1291⟩) (Or.inr ⟨_, rfl⟩) dX12_init_85 rfl (fun _ => ?_)
  refine sn_aload_n (v := (some this)) (pc' := 89) dX12_init_88 rfl rfl rfl ?_
  refine sn_sipush (v := (3200 : Int32)) (pc' := 92) dX12_init_89 rfl (by decide) ?_
  refine sn_nA (t := 0) (pc' := 94) rfl rfl tw64 dX12_init_92 rfl (fun v10 => ?_)
  refine sn_pR (k := 14) (pc' := 97) ci_13 rfl (Or.inl tw1292) (Or.inr ⟨rfl, rfl, rfl, tw1292⟩) (Or.inr ⟨_, rfl⟩) dX12_init_94 rfl (fun _ => ?_)
  refine sn_aload_n (v := (some this)) (pc' := 98) dX12_init_97 rfl rfl rfl ?_
  refine sn_bipush (v := (16 : Int32)) (pc' := 100) dX12_init_98 rfl (by decide) ?_
  refine sn_nA (t := 0) (pc' := 102) rfl rfl tw64 dX12_init_100 rfl (fun v11 => ?_)
  refine sn_pR (k := 16) (pc' := 105) ci_13 rfl (Or.inl tw1294) (Or.inr ⟨rfl, rfl, rfl, tw1294⟩) (Or.inr ⟨_, rfl⟩) dX12_init_102 rfl (fun _ => ?_)
  refine sn_aload_n (v := (some this)) (pc' := 106) dX12_init_105 rfl rfl rfl ?_
  refine sn_bipush (v := (16 : Int32)) (pc' := 108) dX12_init_106 rfl (by decide) ?_
  refine sn_nA (t := 0) (pc' := 110) rfl rfl tw64 dX12_init_108 rfl (fun v12 => ?_)
  refine sn_pR (k := 17) (pc' := 113) ci_13 rfl (Or.inl tw1295) (Or.inr ⟨rfl, rfl, rfl, tw1295⟩) (Or.inr ⟨_, rfl⟩) dX12_init_110 rfl (fun _ => ?_)
  refine sn_aload_n (v := (some this)) (pc' := 114) dX12_init_113 rfl rfl rfl ?_
  refine sn_sipush (v := (6400 : Int32)) (pc' := 117) dX12_init_114 rfl (by decide) ?_
  refine sn_nA (t := 0) (pc' := 119) rfl rfl tw64 dX12_init_117 rfl (fun v13 => ?_)
  refine sn_pR (k := 18) (pc' := 122) ci_13 rfl (Or.inl tw1296) (Or.inr ⟨rfl, rfl, rfl, tw1296⟩) (Or.inr ⟨_, rfl⟩) dX12_init_119 rfl (fun _ => ?_)
  refine sn_aload_n (v := (some this)) (pc' := 123) dX12_init_122 rfl rfl rfl ?_
  refine sn_bipush (v := (120 : Int32)) (pc' := 125) dX12_init_123 rfl (by decide) ?_
  refine sn_nA (t := 0) (pc' := 127) rfl rfl tw64 dX12_init_125 rfl (fun v14 => ?_)
  refine sn_pR (k := 26) (pc' := 130) ci_13 rfl (Or.inl tw1304) (Or.inr ⟨rfl, rfl, rfl, tw1304⟩) (Or.inr ⟨_, rfl⟩) dX12_init_127 rfl (fun _ => ?_)
  refine sn_aload_n (v := (some this)) (pc' := 131) dX12_init_130 rfl rfl rfl ?_
  refine sn_bipush (v := (120 : Int32)) (pc' := 133) dX12_init_131 rfl (by decide) ?_
  refine sn_nA (t := 0) (pc' := 135) rfl rfl tw64 dX12_init_133 rfl (fun v15 => ?_)
  refine sn_pR (k := 27) (pc' := 138) ci_13 rfl (Or.inl tw1305) (Or.inr ⟨rfl, rfl, rfl, tw1305⟩) (Or.inr ⟨_, rfl⟩) dX12_init_135 rfl (fun _ => ?_)
  refine sn_aload_n (v := (some this)) (pc' := 139) dX12_init_138 rfl rfl rfl ?_
  refine sn_bipush (v := (120 : Int32)) (pc' := 141) dX12_init_139 rfl (by decide) ?_
  refine sn_nA (t := 2) (pc' := 143) rfl rfl tw1426 dX12_init_141 rfl (fun v16 => ?_)
  refine sn_pR (k := 28) (pc' := 146) ci_13 rfl (Or.inl tw1306) (Or.inr ⟨rfl, rfl, rfl, tw1306⟩) (Or.inr ⟨_, rfl⟩) dX12_init_143 rfl (fun _ => ?_)
  refine sn_aload_n (v := (some this)) (pc' := 147) dX12_init_146 rfl rfl rfl ?_
  refine sn_bipush (v := (120 : Int32)) (pc' := 149) dX12_init_147 rfl (by decide) ?_
  refine sn_nA (t := 0) (pc' := 151) rfl rfl tw64 dX12_init_149 rfl (fun v17 => ?_)
  refine sn_pR (k := 29) (pc' := 154) ci_13 rfl (Or.inl tw1307) (Or.inr ⟨rfl, rfl, rfl, tw1307⟩) (Or.inr ⟨_, rfl⟩) dX12_init_151 rfl (fun _ => ?_)
  refine sn_aload_n (v := (some this)) (pc' := 155) dX12_init_154 rfl rfl rfl ?_
  refine sn_bipush (v := (120 : Int32)) (pc' := 157) dX12_init_155 rfl (by decide) ?_
  refine sn_nA (t := 0) (pc' := 159) rfl rfl tw64 dX12_init_157 rfl (fun v18 => ?_)
  refine sn_pR (k := 30) (pc' := 162) ci_13 rfl (Or.inl tw1308) (Or.inr ⟨rfl, rfl, rfl, tw1308⟩) (Or.inr ⟨_, rfl⟩) dX12_init_159 rfl (fun _ => ?_)
  refine sn_aload_n (v := (some this)) (pc' := 163) dX12_init_162 rfl rfl rfl ?_
  refine sn_bipush (v := (121 : Int32)) (pc' := 165) dX12_init_163 rfl (by decide) ?_
  refine sn_nA (t := 0) (pc' := 167) rfl rfl tw64 dX12_init_165 rfl (fun v19 => ?_)
  refine sn_pR (k := 31) (pc' := 170) ci_13 rfl (Or.inl tw1309) (Or.inr ⟨rfl, rfl, rfl, tw1309⟩) (Or.inr ⟨_, rfl⟩) dX12_init_167 rfl (fun _ => ?_)
  refine sn_aload_n (v := (some this)) (pc' := 171) dX12_init_170 rfl rfl rfl ?_
  refine sn_bipush (v := (120 : Int32)) (pc' := 173) dX12_init_171 rfl (by decide) ?_
  refine sn_nA (t := 0) (pc' := 175) rfl rfl tw64 dX12_init_173 rfl (fun v20 => ?_)
  refine sn_pR (k := 32) (pc' := 178) ci_13 rfl (Or.inl tw1310) (Or.inr ⟨rfl, rfl, rfl, tw1310⟩) (Or.inr ⟨_, rfl⟩) dX12_init_175 rfl (fun _ => ?_)
  refine sn_aload_n (v := (some this)) (pc' := 179) dX12_init_178 rfl rfl rfl ?_
  refine sn_bipush (v := (120 : Int32)) (pc' := 181) dX12_init_179 rfl (by decide) ?_
  refine sn_nA (t := 0) (pc' := 183) rfl rfl tw64 dX12_init_181 rfl (fun v21 => ?_)
  refine sn_pR (k := 33) (pc' := 186) ci_13 rfl (Or.inl tw1311) (Or.inr ⟨rfl, rfl, rfl, tw1311⟩) (Or.inr ⟨_, rfl⟩) dX12_init_183 rfl (fun _ => ?_)
  refine sn_aload_n (v := (some this)) (pc' := 187) dX12_init_186 rfl rfl rfl ?_
  refine sn_bipush (v := (120 : Int32)) (pc' := 189) dX12_init_187 rfl (by decide) ?_
  refine sn_nA (t := 0) (pc' := 191) rfl rfl tw64 dX12_init_189 rfl (fun v22 => ?_)
  refine sn_pR (k := 34) (pc' := 194) ci_13 rfl (Or.inl tw1312) (Or.inr ⟨rfl, rfl, rfl, tw1312⟩) (Or.inr ⟨_, rfl⟩) dX12_init_191 rfl (fun _ => ?_)
  refine sn_aload_n (v := (some this)) (pc' := 195) dX12_init_194 rfl rfl rfl ?_
  refine sn_bipush (v := (120 : Int32)) (pc' := 197) dX12_init_195 rfl (by decide) ?_
  refine sn_nA (t := 0) (pc' := 199) rfl rfl tw64 dX12_init_197 rfl (fun v23 => ?_)
  refine sn_pR (k := 35) (pc' := 202) ci_13 rfl (Or.inl tw1313) (Or.inr ⟨rfl, rfl, rfl, tw1313⟩) (Or.inr ⟨_, rfl⟩) dX12_init_199 rfl (fun _ => ?_)
  refine sn_aload_n (v := (some this)) (pc' := 203) dX12_init_202 rfl rfl rfl ?_
  refine sn_sipush (v := (16384 : Int32)) (pc' := 206) dX12_init_203 rfl (by decide) ?_
  refine sn_nA (t := 0) (pc' := 208) rfl rfl tw64 dX12_init_206 rfl (fun v24 => ?_)
  refine sn_pR (k := 36) (pc' := 211) ci_13 rfl (Or.inl tw1314) (Or.inr ⟨rfl, rfl, rfl, tw1314⟩) (Or.inr ⟨_, rfl⟩) dX12_init_208 rfl (fun _ => ?_)
  refine sn_aload_n (v := (some this)) (pc' := 212) dX12_init_211 rfl rfl rfl ?_
  refine sn_sipush (v := (16384 : Int32)) (pc' := 215) dX12_init_212 rfl (by decide) ?_
  refine sn_nA (t := 0) (pc' := 217) rfl rfl tw64 dX12_init_215 rfl (fun v25 => ?_)
  refine sn_pR (k := 38) (pc' := 220) ci_13 rfl (Or.inl tw1316) (Or.inr ⟨rfl, rfl, rfl, tw1316⟩) (Or.inr ⟨_, rfl⟩) dX12_init_217 rfl (fun _ => ?_)
  refine sn_aload_n (v := (some this)) (pc' := 221) dX12_init_220 rfl rfl rfl ?_
  refine sn_sipush (v := (400 : Int32)) (pc' := 224) dX12_init_221 rfl (by decide) ?_
  refine sn_nA (t := 0) (pc' := 226) rfl rfl tw64 dX12_init_224 rfl (fun v26 => ?_)
  refine sn_pR (k := 39) (pc' := 229) ci_13 rfl (Or.inl tw1317) (Or.inr ⟨rfl, rfl, rfl, tw1317⟩) (Or.inr ⟨_, rfl⟩) dX12_init_226 rfl (fun _ => ?_)
  refine sn_aload_n (v := (some this)) (pc' := 230) dX12_init_229 rfl rfl rfl ?_
  refine sn_sipush (v := (400 : Int32)) (pc' := 233) dX12_init_230 rfl (by decide) ?_
  refine sn_nA (t := 0) (pc' := 235) rfl rfl tw64 dX12_init_233 rfl (fun v27 => ?_)
  refine sn_pR (k := 40) (pc' := 238) ci_13 rfl (Or.inl tw1318) (Or.inr ⟨rfl, rfl, rfl, tw1318⟩) (Or.inr ⟨_, rfl⟩) dX12_init_235 rfl (fun _ => ?_)
  refine sn_aload_n (v := (some this)) (pc' := 239) dX12_init_238 rfl rfl rfl ?_
  refine sn_sipush (v := (400 : Int32)) (pc' := 242) dX12_init_239 rfl (by decide) ?_
  refine sn_nA (t := 2) (pc' := 244) rfl rfl tw1426 dX12_init_242 rfl (fun v28 => ?_)
  refine sn_pR (k := 41) (pc' := 247) ci_13 rfl (Or.inl tw1319) (Or.inr ⟨rfl, rfl, rfl, tw1319⟩) (Or.inr ⟨_, rfl⟩) dX12_init_244 rfl (fun _ => ?_)
  refine sn_aload_n (v := (some this)) (pc' := 248) dX12_init_247 rfl rfl rfl ?_
  refine sn_bipush (v := (120 : Int32)) (pc' := 250) dX12_init_248 rfl (by decide) ?_
  refine sn_nA (t := 0) (pc' := 252) rfl rfl tw64 dX12_init_250 rfl (fun v29 => ?_)
  refine sn_pR (k := 45) (pc' := 255) ci_13 rfl (Or.inl tw1323) (Or.inr ⟨rfl, rfl, rfl, tw1323⟩) (Or.inr ⟨_, rfl⟩) dX12_init_252 rfl (fun _ => ?_)
  refine sn_aload_n (v := (some this)) (pc' := 256) dX12_init_255 rfl rfl rfl ?_
  refine sn_bipush (v := (120 : Int32)) (pc' := 258) dX12_init_256 rfl (by decide) ?_
  refine sn_nA (t := 0) (pc' := 260) rfl rfl tw64 dX12_init_258 rfl (fun v30 => ?_)
  refine sn_pR (k := 46) (pc' := 263) ci_13 rfl (Or.inl tw1324) (Or.inr ⟨rfl, rfl, rfl, tw1324⟩) (Or.inr ⟨_, rfl⟩) dX12_init_260 rfl (fun _ => ?_)
  refine sn_aload_n (v := (some this)) (pc' := 264) dX12_init_263 rfl rfl rfl ?_
  refine sn_sipush (v := (400 : Int32)) (pc' := 267) dX12_init_264 rfl (by decide) ?_
  refine sn_nA (t := 2) (pc' := 269) rfl rfl tw1426 dX12_init_267 rfl (fun v31 => ?_)
  refine sn_pR (k := 47) (pc' := 272) ci_13 rfl (Or.inl tw1325) (Or.inr ⟨rfl, rfl, rfl, tw1325⟩) (Or.inr ⟨_, rfl⟩) dX12_init_269 rfl (fun _ => ?_)
  refine sn_aload_n (v := (some this)) (pc' := 273) dX12_init_272 rfl rfl rfl ?_
  refine sn_sipush (v := (400 : Int32)) (pc' := 276) dX12_init_273 rfl (by decide) ?_
  refine sn_nA (t := 2) (pc' := 278) rfl rfl tw1426 dX12_init_276 rfl (fun v32 => ?_)
  refine sn_pR (k := 48) (pc' := 281) ci_13 rfl (Or.inl tw1326) (Or.inr ⟨rfl, rfl, rfl, tw1326⟩) (Or.inr ⟨_, rfl⟩) dX12_init_278 rfl (fun _ => ?_)
  exact sn_vret dX12_init_281 rfl
theorem c_X12_init (G : GG) (this : Nat) : Cal G yX12_init cX12_init 1 none 1 12 (fun _ : Unit => none) (X12_init this) [.ref this] :=
  Cal.of (by decide) (cat_t cat_nil) rfl (sn_weak (le_s le_e) (s_X12_init G this))
theorem cw_X12_init : CW yX12_init cX12_init 1 none 0 := ⟨tw1276, tw15, by decide, by decide +kernel⟩
