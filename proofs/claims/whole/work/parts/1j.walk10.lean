theorem tw1320 : (Jvm.Cond.fieldLink "LeafFormulaModel" (339 : Nat) "LeafFormulaModel" "nameSign" "I") ∈ gtbl := gt_of 1413 (by decide +kernel) (by decide +kernel)
theorem tw1321 : (Jvm.Cond.fieldLink "LeafFormulaModel" (342 : Nat) "LeafFormulaModel" "nameAt" "I") ∈ gtbl := gt_of 1414 (by decide +kernel) (by decide +kernel)
theorem tw1322 : (Jvm.Cond.fieldLink "LeafFormulaModel" (345 : Nat) "LeafFormulaModel" "nameOf" "I") ∈ gtbl := gt_of 1415 (by decide +kernel) (by decide +kernel)
theorem tw1430 : (Jvm.Cond.code ({ cls := "LeafFormulaModel", name := "feed", desc := "(IIIII)I" } : Jvm.MethodName) prog_14_method_53_code (8 : Nat) (Option.some Jvm.ClassFile.FieldType.int)) ∈ gtbl := gt_of 1523 (by decide +kernel) (by decide +kernel)
theorem tw1442 : (Jvm.Cond.code ({ cls := "LeafFormulaModel", name := "end", desc := "(I)I" } : Jvm.MethodName) prog_14_method_54_code (2 : Nat) (Option.some Jvm.ClassFile.FieldType.int)) ∈ gtbl := gt_of 1535 (by decide +kernel) (by decide +kernel)
theorem tw1449 : (Jvm.Cond.code ({ cls := "LeafFormulaModel", name := "book", desc := "()I" } : Jvm.MethodName) prog_14_method_55_code (4 : Nat) (Option.some Jvm.ClassFile.FieldType.int)) ∈ gtbl := gt_of 1542 (by decide +kernel) (by decide +kernel)
theorem tw1450 : (Jvm.Cond.methodLink "LeafFormulaModel" (311 : Nat) ({ cls := "LeafFormulaModel", name := "begins", desc := "()V" } : Jvm.MethodName)) ∈ gtbl := gt_of 1543 (by decide +kernel) (by decide +kernel)
theorem tw1452 : (Jvm.Cond.instanceMethod ({ cls := "LeafFormulaModel", name := "begins", desc := "()V" } : Jvm.MethodName)) ∈ gtbl := gt_of 1545 (by decide +kernel) (by decide +kernel)
theorem tw1472 : (Jvm.Cond.methodLink "LeafFormulaModel" (314 : Nat) ({ cls := "LeafFormulaModel", name := "readGroup", desc := "()V" } : Jvm.MethodName)) ∈ gtbl := gt_of 1565 (by decide +kernel) (by decide +kernel)
theorem tw1474 : (Jvm.Cond.instanceMethod ({ cls := "LeafFormulaModel", name := "readGroup", desc := "()V" } : Jvm.MethodName)) ∈ gtbl := gt_of 1567 (by decide +kernel) (by decide +kernel)
theorem tw1500 : (Jvm.Cond.methodLink "LeafFormulaModel" (317 : Nat) ({ cls := "LeafFormulaModel", name := "ends", desc := "()Z" } : Jvm.MethodName)) ∈ gtbl := gt_of 1593 (by decide +kernel) (by decide +kernel)
theorem tw1502 : (Jvm.Cond.instanceMethod ({ cls := "LeafFormulaModel", name := "ends", desc := "()Z" } : Jvm.MethodName)) ∈ gtbl := gt_of 1595 (by decide +kernel) (by decide +kernel)
theorem tw1504 : (Jvm.Cond.methodLink "LeafFormulaModel" (321 : Nat) ({ cls := "LeafFormulaModel", name := "faultOfAll", desc := "()I" } : Jvm.MethodName)) ∈ gtbl := gt_of 1597 (by decide +kernel) (by decide +kernel)
theorem tw1506 : (Jvm.Cond.instanceMethod ({ cls := "LeafFormulaModel", name := "faultOfAll", desc := "()I" } : Jvm.MethodName)) ∈ gtbl := gt_of 1599 (by decide +kernel) (by decide +kernel)
theorem tw1523 : (Jvm.Cond.methodLink "LeafFormulaModel" (324 : Nat) ({ cls := "LeafFormulaModel", name := "add", desc := "(III)V" } : Jvm.MethodName)) ∈ gtbl := gt_of 1616 (by decide +kernel) (by decide +kernel)
theorem tw1525 : (Jvm.Cond.instanceMethod ({ cls := "LeafFormulaModel", name := "add", desc := "(III)V" } : Jvm.MethodName)) ∈ gtbl := gt_of 1618 (by decide +kernel) (by decide +kernel)
theorem tw1530 : (Jvm.Cond.methodLink "LeafFormulaModel" (327 : Nat) ({ cls := "LeafFormulaModel", name := "apply", desc := "(II)V" } : Jvm.MethodName)) ∈ gtbl := gt_of 1623 (by decide +kernel) (by decide +kernel)
theorem tw1532 : (Jvm.Cond.instanceMethod ({ cls := "LeafFormulaModel", name := "apply", desc := "(II)V" } : Jvm.MethodName)) ∈ gtbl := gt_of 1625 (by decide +kernel) (by decide +kernel)
theorem tw1538 : (Jvm.Cond.methodLink "LeafFormulaModel" (330 : Nat) ({ cls := "LeafFormulaModel", name := "isMade", desc := "(I)I" } : Jvm.MethodName)) ∈ gtbl := gt_of 1631 (by decide +kernel) (by decide +kernel)
theorem tw1540 : (Jvm.Cond.instanceMethod ({ cls := "LeafFormulaModel", name := "isMade", desc := "(I)I" } : Jvm.MethodName)) ∈ gtbl := gt_of 1633 (by decide +kernel) (by decide +kernel)
theorem tw1553 : (Jvm.Cond.code ({ cls := "LeafFormulaModel", name := "change", desc := "(I)I" } : Jvm.MethodName) prog_14_method_57_code (5 : Nat) (Option.some Jvm.ClassFile.FieldType.int)) ∈ gtbl := gt_of 1646 (by decide +kernel) (by decide +kernel)
theorem tw1554 : (Jvm.Cond.methodLink "LeafFormulaModel" (333 : Nat) ({ cls := "LeafFormulaModel", name := "isBook", desc := "(I)Z" } : Jvm.MethodName)) ∈ gtbl := gt_of 1647 (by decide +kernel) (by decide +kernel)
theorem tw1556 : (Jvm.Cond.instanceMethod ({ cls := "LeafFormulaModel", name := "isBook", desc := "(I)Z" } : Jvm.MethodName)) ∈ gtbl := gt_of 1649 (by decide +kernel) (by decide +kernel)
theorem tw1558 : (Jvm.Cond.methodLink "LeafFormulaModel" (336 : Nat) ({ cls := "LeafFormulaModel", name := "faultOfChanges", desc := "(I)I" } : Jvm.MethodName)) ∈ gtbl := gt_of 1651 (by decide +kernel) (by decide +kernel)
theorem tw1560 : (Jvm.Cond.instanceMethod ({ cls := "LeafFormulaModel", name := "faultOfChanges", desc := "(I)I" } : Jvm.MethodName)) ∈ gtbl := gt_of 1653 (by decide +kernel) (by decide +kernel)
theorem tw1561 : (Jvm.Cond.code ({ cls := "LeafFormulaModel", name := "faultOfChanges", desc := "(I)I" } : Jvm.MethodName) prog_14_method_56_code (5 : Nat) (Option.some Jvm.ClassFile.FieldType.int)) ∈ gtbl := gt_of 1654 (by decide +kernel) (by decide +kernel)
theorem tw1565 : (Jvm.Cond.code ({ cls := "LeafFormulaModel", name := "copy", desc := "(I)I" } : Jvm.MethodName) prog_14_method_60_code (8 : Nat) (Option.some Jvm.ClassFile.FieldType.int)) ∈ gtbl := gt_of 1658 (by decide +kernel) (by decide +kernel)
theorem tw1566 : (Jvm.Cond.methodLink "LeafFormulaModel" (348 : Nat) ({ cls := "LeafFormulaModel", name := "readName", desc := "()V" } : Jvm.MethodName)) ∈ gtbl := gt_of 1659 (by decide +kernel) (by decide +kernel)
theorem tw1568 : (Jvm.Cond.instanceMethod ({ cls := "LeafFormulaModel", name := "readName", desc := "()V" } : Jvm.MethodName)) ∈ gtbl := gt_of 1661 (by decide +kernel) (by decide +kernel)
theorem tw1569 : (Jvm.Cond.code ({ cls := "LeafFormulaModel", name := "readName", desc := "()V" } : Jvm.MethodName) prog_14_method_58_code (1 : Nat) (Option.none : Option Jvm.ClassFile.FieldType)) ∈ gtbl := gt_of 1662 (by decide +kernel) (by decide +kernel)
theorem tw1570 : (Jvm.Cond.methodLink "LeafFormulaModel" (351 : Nat) ({ cls := "LeafFormulaModel", name := "named", desc := "(I)I" } : Jvm.MethodName)) ∈ gtbl := gt_of 1663 (by decide +kernel) (by decide +kernel)
theorem tw1572 : (Jvm.Cond.instanceMethod ({ cls := "LeafFormulaModel", name := "named", desc := "(I)I" } : Jvm.MethodName)) ∈ gtbl := gt_of 1665 (by decide +kernel) (by decide +kernel)
theorem tw1573 : (Jvm.Cond.code ({ cls := "LeafFormulaModel", name := "named", desc := "(I)I" } : Jvm.MethodName) prog_14_method_59_code (2 : Nat) (Option.some Jvm.ClassFile.FieldType.int)) ∈ gtbl := gt_of 1666 (by decide +kernel) (by decide +kernel)
theorem tw1581 : (Jvm.Cond.code ({ cls := "LeafFormulaModel", name := "find", desc := "(I)I" } : Jvm.MethodName) prog_14_method_61_code (2 : Nat) (Option.some Jvm.ClassFile.FieldType.int)) ∈ gtbl := gt_of 1674 (by decide +kernel) (by decide +kernel)
theorem tw1585 : (Jvm.Cond.code ({ cls := "LeafFormulaModel", name := "place", desc := "()I" } : Jvm.MethodName) prog_14_method_62_code (1 : Nat) (Option.some Jvm.ClassFile.FieldType.int)) ∈ gtbl := gt_of 1678 (by decide +kernel) (by decide +kernel)
theorem tw1589 : (Jvm.Cond.code ({ cls := "LeafFormulaModel", name := "fault", desc := "()I" } : Jvm.MethodName) prog_14_method_63_code (1 : Nat) (Option.some Jvm.ClassFile.FieldType.int)) ∈ gtbl := gt_of 1682 (by decide +kernel) (by decide +kernel)
theorem tw1593 : (Jvm.Cond.code ({ cls := "LeafFormulaModel", name := "count", desc := "(I)I" } : Jvm.MethodName) prog_14_method_64_code (2 : Nat) (Option.some Jvm.ClassFile.FieldType.int)) ∈ gtbl := gt_of 1686 (by decide +kernel) (by decide +kernel)
theorem tw1597 : (Jvm.Cond.code ({ cls := "LeafFormulaModel", name := "gatherings", desc := "(I)I" } : Jvm.MethodName) prog_14_method_65_code (2 : Nat) (Option.some Jvm.ClassFile.FieldType.int)) ∈ gtbl := gt_of 1690 (by decide +kernel) (by decide +kernel)
theorem pw46 : Cond.selects "LeafFormulaModel" ⟨"LeafFormulaModel", "begins", "()V"⟩ ⟨"LeafFormulaModel", "begins", "()V"⟩ ∈ gtbl := gt_of 46 (by decide +kernel) (by decide +kernel)
theorem pw50 : Cond.selects "LeafFormulaModel" ⟨"LeafFormulaModel", "readGroup", "()V"⟩ ⟨"LeafFormulaModel", "readGroup", "()V"⟩ ∈ gtbl := gt_of 50 (by decide +kernel) (by decide +kernel)
theorem pw57 : Cond.selects "LeafFormulaModel" ⟨"LeafFormulaModel", "ends", "()Z"⟩ ⟨"LeafFormulaModel", "ends", "()Z"⟩ ∈ gtbl := gt_of 57 (by decide +kernel) (by decide +kernel)
theorem pw58 : Cond.selects "LeafFormulaModel" ⟨"LeafFormulaModel", "faultOfAll", "()I"⟩ ⟨"LeafFormulaModel", "faultOfAll", "()I"⟩ ∈ gtbl := gt_of 58 (by decide +kernel) (by decide +kernel)
theorem pw62 : Cond.selects "LeafFormulaModel" ⟨"LeafFormulaModel", "add", "(III)V"⟩ ⟨"LeafFormulaModel", "add", "(III)V"⟩ ∈ gtbl := gt_of 62 (by decide +kernel) (by decide +kernel)
theorem pw63 : Cond.selects "LeafFormulaModel" ⟨"LeafFormulaModel", "apply", "(II)V"⟩ ⟨"LeafFormulaModel", "apply", "(II)V"⟩ ∈ gtbl := gt_of 63 (by decide +kernel) (by decide +kernel)
theorem pw65 : Cond.selects "LeafFormulaModel" ⟨"LeafFormulaModel", "isMade", "(I)I"⟩ ⟨"LeafFormulaModel", "isMade", "(I)I"⟩ ∈ gtbl := gt_of 65 (by decide +kernel) (by decide +kernel)
theorem pw68 : Cond.selects "LeafFormulaModel" ⟨"LeafFormulaModel", "isBook", "(I)Z"⟩ ⟨"LeafFormulaModel", "isBook", "(I)Z"⟩ ∈ gtbl := gt_of 68 (by decide +kernel) (by decide +kernel)
theorem pw69 : Cond.selects "LeafFormulaModel" ⟨"LeafFormulaModel", "faultOfChanges", "(I)I"⟩ ⟨"LeafFormulaModel", "faultOfChanges", "(I)I"⟩ ∈ gtbl := gt_of 69 (by decide +kernel) (by decide +kernel)
theorem pw70 : Cond.selects "LeafFormulaModel" ⟨"LeafFormulaModel", "readName", "()V"⟩ ⟨"LeafFormulaModel", "readName", "()V"⟩ ∈ gtbl := gt_of 70 (by decide +kernel) (by decide +kernel)
theorem pw71 : Cond.selects "LeafFormulaModel" ⟨"LeafFormulaModel", "named", "(I)I"⟩ ⟨"LeafFormulaModel", "named", "(I)I"⟩ ∈ gtbl := gt_of 71 (by decide +kernel) (by decide +kernel)
/-! X12_feed -/
theorem dX12_feed_0 : decode cX12_feed 0 = .ok (.aload_n 0, 1) := by decide +kernel
theorem dX12_feed_1 : decode cX12_feed 1 = .ok (.getfield 90, 3) := by decide +kernel
theorem dX12_feed_4 : decode cX12_feed 4 = .ok (.bipush 20, 2) := by decide +kernel
theorem dX12_feed_6 : decode cX12_feed 6 = .ok (.iadd, 1) := by decide +kernel
theorem dX12_feed_7 : decode cX12_feed 7 = .ok (.bipush 120, 2) := by decide +kernel
theorem dX12_feed_9 : decode cX12_feed 9 = .ok (.if_icmp .le 10, 3) := by decide +kernel
theorem dX12_feed_12 : decode cX12_feed 12 = .ok (.aload_n 0, 1) := by decide +kernel
theorem dX12_feed_13 : decode cX12_feed 13 = .ok (.bipush 9, 2) := by decide +kernel
theorem dX12_feed_15 : decode cX12_feed 15 = .ok (.invokevirtual 193, 3) := by decide +kernel
theorem dX12_feed_18 : decode cX12_feed 18 = .ok (.ireturn, 1) := by decide +kernel
theorem dX12_feed_19 : decode cX12_feed 19 = .ok (.iconst 0, 1) := by decide +kernel
theorem dX12_feed_20 : decode cX12_feed 20 = .ok (.istore 6, 2) := by decide +kernel
theorem dX12_feed_22 : decode cX12_feed 22 = .ok (.iload 6, 2) := by decide +kernel
theorem dX12_feed_24 : decode cX12_feed 24 = .ok (.bipush 20, 2) := by decide +kernel
theorem dX12_feed_26 : decode cX12_feed 26 = .ok (.if_icmp .ge 93, 3) := by decide +kernel
theorem dX12_feed_29 : decode cX12_feed 29 = .ok (.iload 6, 2) := by decide +kernel
theorem dX12_feed_31 : decode cX12_feed 31 = .ok (.iconst 4, 1) := by decide +kernel
theorem dX12_feed_32 : decode cX12_feed 32 = .ok (.if_icmp .ge 7, 3) := by decide +kernel
theorem dX12_feed_35 : decode cX12_feed 35 = .ok (.iload_n 1, 1) := by decide +kernel
theorem dX12_feed_36 : decode cX12_feed 36 = .ok (.goto 39, 3) := by decide +kernel
theorem dX12_feed_39 : decode cX12_feed 39 = .ok (.iload 6, 2) := by decide +kernel
theorem dX12_feed_41 : decode cX12_feed 41 = .ok (.bipush 8, 2) := by decide +kernel
theorem dX12_feed_43 : decode cX12_feed 43 = .ok (.if_icmp .ge 7, 3) := by decide +kernel
theorem dX12_feed_46 : decode cX12_feed 46 = .ok (.iload_n 2, 1) := by decide +kernel
theorem dX12_feed_47 : decode cX12_feed 47 = .ok (.goto 28, 3) := by decide +kernel
theorem dX12_feed_50 : decode cX12_feed 50 = .ok (.iload 6, 2) := by decide +kernel
theorem dX12_feed_52 : decode cX12_feed 52 = .ok (.bipush 12, 2) := by decide +kernel
theorem dX12_feed_54 : decode cX12_feed 54 = .ok (.if_icmp .ge 7, 3) := by decide +kernel
theorem dX12_feed_57 : decode cX12_feed 57 = .ok (.iload_n 3, 1) := by decide +kernel
theorem dX12_feed_58 : decode cX12_feed 58 = .ok (.goto 17, 3) := by decide +kernel
theorem dX12_feed_61 : decode cX12_feed 61 = .ok (.iload 6, 2) := by decide +kernel
theorem dX12_feed_63 : decode cX12_feed 63 = .ok (.bipush 16, 2) := by decide +kernel
theorem dX12_feed_65 : decode cX12_feed 65 = .ok (.if_icmp .ge 8, 3) := by decide +kernel
theorem dX12_feed_68 : decode cX12_feed 68 = .ok (.iload 4, 2) := by decide +kernel
theorem dX12_feed_70 : decode cX12_feed 70 = .ok (.goto 5, 3) := by decide +kernel
theorem dX12_feed_73 : decode cX12_feed 73 = .ok (.iload 5, 2) := by decide +kernel
theorem dX12_feed_75 : decode cX12_feed 75 = .ok (.istore 7, 2) := by decide +kernel
theorem dX12_feed_77 : decode cX12_feed 77 = .ok (.aload_n 0, 1) := by decide +kernel
theorem dX12_feed_78 : decode cX12_feed 78 = .ok (.getfield 69, 3) := by decide +kernel
theorem dX12_feed_81 : decode cX12_feed 81 = .ok (.aload_n 0, 1) := by decide +kernel
theorem dX12_feed_82 : decode cX12_feed 82 = .ok (.getfield 90, 3) := by decide +kernel
theorem dX12_feed_85 : decode cX12_feed 85 = .ok (.iload 7, 2) := by decide +kernel
theorem dX12_feed_87 : decode cX12_feed 87 = .ok (.bipush 24, 2) := by decide +kernel
theorem dX12_feed_89 : decode cX12_feed 89 = .ok (.bipush 8, 2) := by decide +kernel
theorem dX12_feed_91 : decode cX12_feed 91 = .ok (.iload 6, 2) := by decide +kernel
theorem dX12_feed_93 : decode cX12_feed 93 = .ok (.iconst 4, 1) := by decide +kernel
theorem dX12_feed_94 : decode cX12_feed 94 = .ok (.irem, 1) := by decide +kernel
theorem dX12_feed_95 : decode cX12_feed 95 = .ok (.imul, 1) := by decide +kernel
theorem dX12_feed_96 : decode cX12_feed 96 = .ok (.isub, 1) := by decide +kernel
theorem dX12_feed_97 : decode cX12_feed 97 = .ok (.ishr, 1) := by decide +kernel
theorem dX12_feed_98 : decode cX12_feed 98 = .ok (.sipush 255, 3) := by decide +kernel
theorem dX12_feed_101 : decode cX12_feed 101 = .ok (.iand, 1) := by decide +kernel
theorem dX12_feed_102 : decode cX12_feed 102 = .ok (.iastore, 1) := by decide +kernel
theorem dX12_feed_103 : decode cX12_feed 103 = .ok (.aload_n 0, 1) := by decide +kernel
theorem dX12_feed_104 : decode cX12_feed 104 = .ok (.dup, 1) := by decide +kernel
theorem dX12_feed_105 : decode cX12_feed 105 = .ok (.getfield 90, 3) := by decide +kernel
theorem dX12_feed_108 : decode cX12_feed 108 = .ok (.iconst 1, 1) := by decide +kernel
theorem dX12_feed_109 : decode cX12_feed 109 = .ok (.iadd, 1) := by decide +kernel
theorem dX12_feed_110 : decode cX12_feed 110 = .ok (.putfield 90, 3) := by decide +kernel
theorem dX12_feed_113 : decode cX12_feed 113 = .ok (.iinc 6 1, 3) := by decide +kernel
theorem dX12_feed_116 : decode cX12_feed 116 = .ok (.goto (-94), 3) := by decide +kernel
theorem dX12_feed_119 : decode cX12_feed 119 = .ok (.aload_n 0, 1) := by decide +kernel
theorem dX12_feed_120 : decode cX12_feed 120 = .ok (.aload_n 0, 1) := by decide +kernel
theorem dX12_feed_121 : decode cX12_feed 121 = .ok (.getfield 90, 3) := by decide +kernel
theorem dX12_feed_124 : decode cX12_feed 124 = .ok (.invokevirtual 199, 3) := by decide +kernel
theorem dX12_feed_127 : decode cX12_feed 127 = .ok (.ireturn, 1) := by decide +kernel
def X12_feed_75 (k22 : Nat → Int32 → Int32 → Int32 → Int32 → Int32 → Int32 → MM Int32) (this : Nat) (x1 : Int32) (x2 : Int32) (x3 : Int32) (x4 : Int32) (x5 : Int32) (x6 : Int32) (y0 : Int32) : MM Int32 :=
  mb (gR 13 (some this) 0) fun v1 =>
  mb (gI 13 (some this) 1) fun v2 =>
  mb (rI x6 (4 : Int32)) fun v3 =>
  mb (sI v1 v2 ((y0 >>> (((24 : Int32) - ((8 : Int32) * v3)) &&& 31)) &&& (255 : Int32))) fun _ =>
  mb (gI 13 (some this) 1) fun v4 =>
  mb (pI 13 (some this) 1 (v4 + (1 : Int32))) fun _ =>
  (k22 this x1 x2 x3 x4 x5 (x6 + (1 : Int32)))
def X12_feed_119  (this : Nat) : MM Int32 :=
  mb (gI 13 (some this) 1) fun v1 =>
  mb (wc 13 (some this) fun t => X12_fine t v1) fun v2 =>
  mr v2
def X12_feed_22_st  (k22 : Nat → Int32 → Int32 → Int32 → Int32 → Int32 → Int32 → MM Int32) (this : Nat) (x1 : Int32) (x2 : Int32) (x3 : Int32) (x4 : Int32) (x5 : Int32) (x6 : Int32) : MM Int32 :=
  if (20 : Int32) ≤ x6 then ((X12_feed_119 this)) else (if (4 : Int32) ≤ x6 then (if (8 : Int32) ≤ x6 then (if (12 : Int32) ≤ x6 then (if (16 : Int32) ≤ x6 then ((X12_feed_75 k22 this x1 x2 x3 x4 x5 x6 x5)) else ((X12_feed_75 k22 this x1 x2 x3 x4 x5 x6 x4))) else ((X12_feed_75 k22 this x1 x2 x3 x4 x5 x6 x3))) else ((X12_feed_75 k22 this x1 x2 x3 x4 x5 x6 x2))) else ((X12_feed_75 k22 this x1 x2 x3 x4 x5 x6 x1)))
def X12_feed_22  : Nat → Nat → Int32 → Int32 → Int32 → Int32 → Int32 → Int32 → MM Int32
  | 0 => fun _ _ _ _ _ _ _ => mf
  | n + 1 => fun this x1 x2 x3 x4 x5 x6 => X12_feed_22_st  (X12_feed_22  n) this x1 x2 x3 x4 x5 x6
def X12_feed (this : Nat) (a1 : Int32) (a2 : Int32) (a3 : Int32) (a4 : Int32) (a5 : Int32) : MM Int32 :=
  mb (gI 13 (some this) 1) fun v1 =>
  if (v1 + (20 : Int32)) ≤ (120 : Int32) then ((X12_feed_22 LFU this a1 a2 a3 a4 a5 (0 : Int32))) else (mb (wc 13 (some this) fun t => X12_no t (9 : Int32)) fun v2 =>
  mr v2)
set_option maxRecDepth 100000 in
set_option maxHeartbeats 4000000 in
theorem s_X12_feed_75 (G : GG) (k22 : Nat → Int32 → Int32 → Int32 → Int32 → Int32 → Int32 → MM Int32) (hk22 : ∀ (this : Nat) (x1 : Int32) (x2 : Int32) (x3 : Int32) (x4 : Int32) (x5 : Int32) (x6 : Int32), Sn G yX12_feed cX12_feed 8 (some FieldType.int) 1 21 (fun v : Int32 => some (.int v)) (k22 this x1 x2 x3 x4 x5 x6) 22 [some (va_rf (some this)), some (.int x1), some (.int x2), some (.int x3), some (.int x4), some (.int x5), some (.int x6), none] []) (this : Nat) (x1 : Int32) (x2 : Int32) (x3 : Int32) (x4 : Int32) (x5 : Int32) (x6 : Int32) (y0 : Int32) : Sn G yX12_feed cX12_feed 8 (some FieldType.int) 1 21 (fun v : Int32 => some (.int v)) (X12_feed_75 k22 this x1 x2 x3 x4 x5 x6 y0) 75 [some (va_rf (some this)), some (.int x1), some (.int x2), some (.int x3), some (.int x4), some (.int x5), some (.int x6), none] [.int y0] := by
  unfold X12_feed_75
  refine sn_istore (v := y0) (L' := [some (va_rf (some this)), some (.int x1), some (.int x2), some (.int x3), some (.int x4), some (.int x5), some (.int x6), some (.int y0)]) (pc' := 77) dX12_feed_75 rfl rfl rfl ?_
  refine sn_aload_n (v := (some this)) (pc' := 78) dX12_feed_77 rfl rfl rfl ?_
  refine sn_gR (k := 0) (pc' := 81) ci_13 rfl (Or.inl tw1278) dX12_feed_78 rfl (fun v1 => ?_)
  refine sn_aload_n (v := (some this)) (pc' := 82) dX12_feed_81 rfl rfl rfl ?_
  refine sn_gI (k := 1) (pc' := 85) ci_13 rfl (Or.inl tw1279) dX12_feed_82 rfl (fun v2 => ?_)
  refine sn_iload (v := y0) (pc' := 87) dX12_feed_85 rfl rfl ?_
  refine sn_bipush (v := (24 : Int32)) (pc' := 89) dX12_feed_87 rfl (by decide) ?_
  refine sn_bipush (v := (8 : Int32)) (pc' := 91) dX12_feed_89 rfl (by decide) ?_
  refine sn_iload (v := x6) (pc' := 93) dX12_feed_91 rfl rfl ?_
  refine sn_iconst (v := (4 : Int32)) (pc' := 94) dX12_feed_93 rfl (by decide) ?_
  refine sn_rI (pc' := 95) dX12_feed_94 rfl (fun v3 => ?_)
  refine sn_imul (pc' := 96) dX12_feed_95 rfl ?_
  refine sn_isub (pc' := 97) dX12_feed_96 rfl ?_
  refine sn_ishr (pc' := 98) dX12_feed_97 rfl ?_
  refine sn_sipush (v := (255 : Int32)) (pc' := 101) dX12_feed_98 rfl (by decide) ?_
  refine sn_iand (pc' := 102) dX12_feed_101 rfl ?_
  refine sn_sI (pc' := 103) dX12_feed_102 rfl (fun _ => ?_)
  refine sn_aload_n (v := (some this)) (pc' := 104) dX12_feed_103 rfl rfl rfl ?_
  refine sn_dup (pc' := 105) dX12_feed_104 rfl (cat_rf _) ?_
  refine sn_gI (k := 1) (pc' := 108) ci_13 rfl (Or.inl tw1279) dX12_feed_105 rfl (fun v4 => ?_)
  refine sn_iconst (v := (1 : Int32)) (pc' := 109) dX12_feed_108 rfl (by decide) ?_
  refine sn_iadd (pc' := 110) dX12_feed_109 rfl ?_
  refine sn_pI (k := 1) (pc' := 113) ci_13 rfl (Or.inl tw1279) (Or.inl rfl) rfl dX12_feed_110 rfl (fun _ => ?_)
  refine sn_iinc (v := x6) (w := 1) (L' := [some (va_rf (some this)), some (.int x1), some (.int x2), some (.int x3), some (.int x4), some (.int x5), some (.int (x6 + (1 : Int32))), some (.int y0)]) (pc' := 116) dX12_feed_113 rfl rfl rfl (by decide) rfl ?_
  refine sn_goto (pc' := 22) dX12_feed_116 rfl ?_
  exact sn_weak (le_s (le_s (le_s (le_s (le_s (le_s (le_s (le_n le_e)))))))) (hk22 this x1 x2 x3 x4 x5 (x6 + (1 : Int32)))
set_option maxRecDepth 100000 in
set_option maxHeartbeats 4000000 in
theorem s_X12_feed_119 (G : GG)   (this : Nat) : Sn G yX12_feed cX12_feed 8 (some FieldType.int) 1 21 (fun v : Int32 => some (.int v)) (X12_feed_119  this) 119 [some (va_rf (some this)), none, none, none, none, none, none, none] [] := by
  unfold X12_feed_119
  refine sn_aload_n (v := (some this)) (pc' := 120) dX12_feed_119 rfl rfl rfl ?_
  refine sn_aload_n (v := (some this)) (pc' := 121) dX12_feed_120 rfl rfl rfl ?_
  refine sn_gI (k := 1) (pc' := 124) ci_13 rfl (Or.inl tw1279) dX12_feed_121 rfl (fun v1 => ?_)
  refine sn_cV (r := (some this)) (st := []) (As := [.int v1]) (st2 := (fun v => .int v :: [])) (pc' := 127) ci_13 (fun t => c_X12_fine G t v1) cw_X12_fine rfl rfl tw1435 pw45 tw1437 rfl rfl cat_nil rfl (fun _ => rfl) dX12_feed_124 rfl (fun v2 => ?_)
  exact sn_iret dX12_feed_127 rfl rfl
set_option maxRecDepth 100000 in
set_option maxHeartbeats 4000000 in
theorem s_X12_feed_22_st (G : GG)   (k22 : Nat → Int32 → Int32 → Int32 → Int32 → Int32 → Int32 → MM Int32) (hk22 : ∀ (this : Nat) (x1 : Int32) (x2 : Int32) (x3 : Int32) (x4 : Int32) (x5 : Int32) (x6 : Int32), Sn G yX12_feed cX12_feed 8 (some FieldType.int) 1 21 (fun v : Int32 => some (.int v)) (k22 this x1 x2 x3 x4 x5 x6) 22 [some (va_rf (some this)), some (.int x1), some (.int x2), some (.int x3), some (.int x4), some (.int x5), some (.int x6), none] []) (this : Nat) (x1 : Int32) (x2 : Int32) (x3 : Int32) (x4 : Int32) (x5 : Int32) (x6 : Int32) : Sn G yX12_feed cX12_feed 8 (some FieldType.int) 1 21 (fun v : Int32 => some (.int v)) (X12_feed_22_st  k22 this x1 x2 x3 x4 x5 x6) 22 [some (va_rf (some this)), some (.int x1), some (.int x2), some (.int x3), some (.int x4), some (.int x5), some (.int x6), none] [] := by
  unfold X12_feed_22_st
  refine sn_iload (v := x6) (pc' := 24) dX12_feed_22 rfl rfl ?_
  refine sn_bipush (v := (20 : Int32)) (pc' := 26) dX12_feed_24 rfl (by decide) ?_
  refine sn_ic_ge (pt := 119) (pf := 29) dX12_feed_26 rfl rfl ?_ ?_
  · exact sn_weak (le_s (le_n (le_n (le_n (le_n (le_n (le_n (le_n le_e)))))))) (s_X12_feed_119 G this)
  · refine sn_iload (v := x6) (pc' := 31) dX12_feed_29 rfl rfl ?_
    refine sn_iconst (v := (4 : Int32)) (pc' := 32) dX12_feed_31 rfl (by decide) ?_
    refine sn_ic_ge (pt := 39) (pf := 35) dX12_feed_32 rfl rfl ?_ ?_
    · refine sn_iload (v := x6) (pc' := 41) dX12_feed_39 rfl rfl ?_
      refine sn_bipush (v := (8 : Int32)) (pc' := 43) dX12_feed_41 rfl (by decide) ?_
      refine sn_ic_ge (pt := 50) (pf := 46) dX12_feed_43 rfl rfl ?_ ?_
      · refine sn_iload (v := x6) (pc' := 52) dX12_feed_50 rfl rfl ?_
        refine sn_bipush (v := (12 : Int32)) (pc' := 54) dX12_feed_52 rfl (by decide) ?_
        refine sn_ic_ge (pt := 61) (pf := 57) dX12_feed_54 rfl rfl ?_ ?_
        · refine sn_iload (v := x6) (pc' := 63) dX12_feed_61 rfl rfl ?_
          refine sn_bipush (v := (16 : Int32)) (pc' := 65) dX12_feed_63 rfl (by decide) ?_
          refine sn_ic_ge (pt := 73) (pf := 68) dX12_feed_65 rfl rfl ?_ ?_
          · refine sn_iload (v := x5) (pc' := 75) dX12_feed_73 rfl rfl ?_
            exact sn_weak (le_s (le_s (le_s (le_s (le_s (le_s (le_s (le_n le_e)))))))) (s_X12_feed_75 G k22 hk22 this x1 x2 x3 x4 x5 x6 x5)
          · refine sn_iload (v := x4) (pc' := 70) dX12_feed_68 rfl rfl ?_
            refine sn_goto (pc' := 75) dX12_feed_70 rfl ?_
            exact sn_weak (le_s (le_s (le_s (le_s (le_s (le_s (le_s (le_n le_e)))))))) (s_X12_feed_75 G k22 hk22 this x1 x2 x3 x4 x5 x6 x4)
        · refine sn_iload_n (v := x3) (pc' := 58) dX12_feed_57 rfl rfl rfl ?_
          refine sn_goto (pc' := 75) dX12_feed_58 rfl ?_
          exact sn_weak (le_s (le_s (le_s (le_s (le_s (le_s (le_s (le_n le_e)))))))) (s_X12_feed_75 G k22 hk22 this x1 x2 x3 x4 x5 x6 x3)
      · refine sn_iload_n (v := x2) (pc' := 47) dX12_feed_46 rfl rfl rfl ?_
        refine sn_goto (pc' := 75) dX12_feed_47 rfl ?_
        exact sn_weak (le_s (le_s (le_s (le_s (le_s (le_s (le_s (le_n le_e)))))))) (s_X12_feed_75 G k22 hk22 this x1 x2 x3 x4 x5 x6 x2)
    · refine sn_iload_n (v := x1) (pc' := 36) dX12_feed_35 rfl rfl rfl ?_
      refine sn_goto (pc' := 75) dX12_feed_36 rfl ?_
      exact sn_weak (le_s (le_s (le_s (le_s (le_s (le_s (le_s (le_n le_e)))))))) (s_X12_feed_75 G k22 hk22 this x1 x2 x3 x4 x5 x6 x1)
set_option maxRecDepth 100000 in
set_option maxHeartbeats 4000000 in
theorem s_X12_feed_22 (G : GG)   : ∀ (n : Nat) (this : Nat) (x1 : Int32) (x2 : Int32) (x3 : Int32) (x4 : Int32) (x5 : Int32) (x6 : Int32), Sn G yX12_feed cX12_feed 8 (some FieldType.int) 1 21 (fun v : Int32 => some (.int v)) (X12_feed_22  n this x1 x2 x3 x4 x5 x6) 22 [some (va_rf (some this)), some (.int x1), some (.int x2), some (.int x3), some (.int x4), some (.int x5), some (.int x6), none] [] := by
  intro n
  induction n with
  | zero => intro this x1 x2 x3 x4 x5 x6; exact sn_mf
  | succ n ih => intro this x1 x2 x3 x4 x5 x6; exact s_X12_feed_22_st G   (X12_feed_22  n) ih this x1 x2 x3 x4 x5 x6
set_option maxRecDepth 100000 in
set_option maxHeartbeats 4000000 in
theorem s_X12_feed (G : GG) (this : Nat) (a1 : Int32) (a2 : Int32) (a3 : Int32) (a4 : Int32) (a5 : Int32) : Sn G yX12_feed cX12_feed 8 (some FieldType.int) 1 21 (fun v : Int32 => some (.int v)) (X12_feed this a1 a2 a3 a4 a5) 0 [some (va_rf (some this)), some (.int a1), some (.int a2), some (.int a3), some (.int a4), some (.int a5), none, none] [] := by
  unfold X12_feed
  refine sn_aload_n (v := (some this)) (pc' := 1) dX12_feed_0 rfl rfl rfl ?_
  refine sn_gI (k := 1) (pc' := 4) ci_13 rfl (Or.inl tw1279) dX12_feed_1 rfl (fun v1 => ?_)
  refine sn_bipush (v := (20 : Int32)) (pc' := 6) dX12_feed_4 rfl (by decide) ?_
  refine sn_iadd (pc' := 7) dX12_feed_6 rfl ?_
  refine sn_bipush (v := (120 : Int32)) (pc' := 9) dX12_feed_7 rfl (by decide) ?_
  refine sn_ic_le (pt := 19) (pf := 12) dX12_feed_9 rfl rfl ?_ ?_
  · refine sn_iconst (v := (0 : Int32)) (pc' := 20) dX12_feed_19 rfl (by decide) ?_
    refine sn_istore (v := (0 : Int32)) (L' := [some (va_rf (some this)), some (.int a1), some (.int a2), some (.int a3), some (.int a4), some (.int a5), some (.int (0 : Int32)), none]) (pc' := 22) dX12_feed_20 rfl rfl rfl ?_
    exact sn_weak (le_s (le_s (le_s (le_s (le_s (le_s (le_s (le_n le_e)))))))) (s_X12_feed_22 G LFU this a1 a2 a3 a4 a5 (0 : Int32))
  · refine sn_aload_n (v := (some this)) (pc' := 13) dX12_feed_12 rfl rfl rfl ?_
    refine sn_bipush (v := (9 : Int32)) (pc' := 15) dX12_feed_13 rfl (by decide) ?_
    refine sn_cV (r := (some this)) (st := []) (As := [.int (9 : Int32)]) (st2 := (fun v => .int v :: [])) (pc' := 18) ci_13 (fun t => c_X12_no G t (9 : Int32)) cw_X12_no rfl rfl tw1431 pw44 tw1433 rfl rfl cat_nil rfl (fun _ => rfl) dX12_feed_15 rfl (fun v2 => ?_)
    exact sn_iret dX12_feed_18 rfl rfl
theorem c_X12_feed (G : GG) (this : Nat) (a1 : Int32) (a2 : Int32) (a3 : Int32) (a4 : Int32) (a5 : Int32) : Cal G yX12_feed cX12_feed 8 (some FieldType.int) 1 21 (fun v : Int32 => some (.int v)) (X12_feed this a1 a2 a3 a4 a5) [.ref this, .int a1, .int a2, .int a3, .int a4, .int a5] :=
  Cal.of (by decide) (cat_t (cat_i (cat_i (cat_i (cat_i (cat_i cat_nil)))))) rfl (sn_weak (le_s (le_s (le_s (le_s (le_s (le_s (le_z (le_z le_e)))))))) (s_X12_feed G this a1 a2 a3 a4 a5))
theorem cw_X12_feed : CW yX12_feed cX12_feed 8 (some FieldType.int) 5 := ⟨tw1430, tw15, by decide, by decide +kernel⟩
/-! X12_end -/
theorem dX12_end_0 : decode cX12_end 0 = .ok (.iload_n 1, 1) := by decide +kernel
theorem dX12_end_1 : decode cX12_end 1 = .ok (.iconst 0, 1) := by decide +kernel
theorem dX12_end_2 : decode cX12_end 2 = .ok (.aload_n 0, 1) := by decide +kernel
theorem dX12_end_3 : decode cX12_end 3 = .ok (.getfield 90, 3) := by decide +kernel
theorem dX12_end_6 : decode cX12_end 6 = .ok (.invokestatic 10, 3) := by decide +kernel
theorem dX12_end_9 : decode cX12_end 9 = .ok (.ifCond .ne 9, 3) := by decide +kernel
theorem dX12_end_12 : decode cX12_end 12 = .ok (.aload_n 0, 1) := by decide +kernel
theorem dX12_end_13 : decode cX12_end 13 = .ok (.iconst 3, 1) := by decide +kernel
theorem dX12_end_14 : decode cX12_end 14 = .ok (.invokevirtual 193, 3) := by decide +kernel
theorem dX12_end_17 : decode cX12_end 17 = .ok (.ireturn, 1) := by decide +kernel
theorem dX12_end_18 : decode cX12_end 18 = .ok (.aload_n 0, 1) := by decide +kernel
theorem dX12_end_19 : decode cX12_end 19 = .ok (.iload_n 1, 1) := by decide +kernel
theorem dX12_end_20 : decode cX12_end 20 = .ok (.putfield 90, 3) := by decide +kernel
theorem dX12_end_23 : decode cX12_end 23 = .ok (.aload_n 0, 1) := by decide +kernel
theorem dX12_end_24 : decode cX12_end 24 = .ok (.iload_n 1, 1) := by decide +kernel
theorem dX12_end_25 : decode cX12_end 25 = .ok (.invokevirtual 199, 3) := by decide +kernel
theorem dX12_end_28 : decode cX12_end 28 = .ok (.ireturn, 1) := by decide +kernel
def X12_end (this : Nat) (a1 : Int32) : MM Int32 :=
  mb (gI 13 (some this) 1) fun v1 =>
  mb (X12_isIn a1 (0 : Int32) v1) fun v2 =>
  if v2 = 0 then (mb (wc 13 (some this) fun t => X12_no t (3 : Int32)) fun v3 =>
  mr v3) else (mb (pI 13 (some this) 1 a1) fun _ =>
  mb (wc 13 (some this) fun t => X12_fine t a1) fun v4 =>
  mr v4)
set_option maxRecDepth 100000 in
set_option maxHeartbeats 4000000 in
theorem s_X12_end (G : GG) (this : Nat) (a1 : Int32) : Sn G yX12_end cX12_end 2 (some FieldType.int) 1 22 (fun v : Int32 => some (.int v)) (X12_end this a1) 0 [some (va_rf (some this)), some (.int a1)] [] := by
  unfold X12_end
  refine sn_iload_n (v := a1) (pc' := 1) dX12_end_0 rfl rfl rfl ?_
  refine sn_iconst (v := (0 : Int32)) (pc' := 2) dX12_end_1 rfl (by decide) ?_
  refine sn_aload_n (v := (some this)) (pc' := 3) dX12_end_2 rfl rfl rfl ?_
  refine sn_gI (k := 1) (pc' := 6) ci_13 rfl (Or.inl tw1279) dX12_end_3 rfl (fun v1 => ?_)
  refine sn_cS (st := []) (As := [.int a1, .int (0 : Int32), .int v1]) (st2 := (fun v => .int v :: [])) (pc' := 9) (c_X12_isIn G a1 (0 : Int32) v1) cw_X12_isIn rfl rfl tw1443 tw1444 rfl rfl cat_nil rfl (fun _ => rfl) dX12_end_6 rfl (fun v2 => ?_)
  refine sn_if_ne (pt := 18) (pf := 12) dX12_end_9 rfl rfl ?_ ?_
  · refine sn_aload_n (v := (some this)) (pc' := 13) dX12_end_12 rfl rfl rfl ?_
    refine sn_iconst (v := (3 : Int32)) (pc' := 14) dX12_end_13 rfl (by decide) ?_
    refine sn_cV (r := (some this)) (st := []) (As := [.int (3 : Int32)]) (st2 := (fun v => .int v :: [])) (pc' := 17) ci_13 (fun t => c_X12_no G t (3 : Int32)) cw_X12_no rfl rfl tw1431 pw44 tw1433 rfl rfl cat_nil rfl (fun _ => rfl) dX12_end_14 rfl (fun v3 => ?_)
    exact sn_iret dX12_end_17 rfl rfl
  · refine sn_aload_n (v := (some this)) (pc' := 19) dX12_end_18 rfl rfl rfl ?_
    refine sn_iload_n (v := a1) (pc' := 20) dX12_end_19 rfl rfl rfl ?_
    refine sn_pI (k := 1) (pc' := 23) ci_13 rfl (Or.inl tw1279) (Or.inl rfl) rfl dX12_end_20 rfl (fun _ => ?_)
    refine sn_aload_n (v := (some this)) (pc' := 24) dX12_end_23 rfl rfl rfl ?_
    refine sn_iload_n (v := a1) (pc' := 25) dX12_end_24 rfl rfl rfl ?_
    refine sn_cV (r := (some this)) (st := []) (As := [.int a1]) (st2 := (fun v => .int v :: [])) (pc' := 28) ci_13 (fun t => c_X12_fine G t a1) cw_X12_fine rfl rfl tw1435 pw45 tw1437 rfl rfl cat_nil rfl (fun _ => rfl) dX12_end_25 rfl (fun v4 => ?_)
    exact sn_iret dX12_end_28 rfl rfl
theorem c_X12_end (G : GG) (this : Nat) (a1 : Int32) : Cal G yX12_end cX12_end 2 (some FieldType.int) 1 22 (fun v : Int32 => some (.int v)) (X12_end this a1) [.ref this, .int a1] :=
  Cal.of (by decide) (cat_t (cat_i cat_nil)) rfl (sn_weak (le_s (le_s le_e)) (s_X12_end G this a1))
theorem cw_X12_end : CW yX12_end cX12_end 2 (some FieldType.int) 1 := ⟨tw1442, tw15, by decide, by decide +kernel⟩
/-! X12_book -/
theorem dX12_book_0 : decode cX12_book 0 = .ok (.aload_n 0, 1) := by decide +kernel
theorem dX12_book_1 : decode cX12_book 1 = .ok (.invokevirtual 311, 3) := by decide +kernel
theorem dX12_book_4 : decode cX12_book 4 = .ok (.aload_n 0, 1) := by decide +kernel
theorem dX12_book_5 : decode cX12_book 5 = .ok (.iconst 0, 1) := by decide +kernel
theorem dX12_book_6 : decode cX12_book 6 = .ok (.putfield 148, 3) := by decide +kernel
theorem dX12_book_9 : decode cX12_book 9 = .ok (.aload_n 0, 1) := by decide +kernel
theorem dX12_book_10 : decode cX12_book 10 = .ok (.iconst 0, 1) := by decide +kernel
theorem dX12_book_11 : decode cX12_book 11 = .ok (.putfield 120, 3) := by decide +kernel
theorem dX12_book_14 : decode cX12_book 14 = .ok (.aload_n 0, 1) := by decide +kernel
theorem dX12_book_15 : decode cX12_book 15 = .ok (.getfield 170, 3) := by decide +kernel
theorem dX12_book_18 : decode cX12_book 18 = .ok (.iconst 0, 1) := by decide +kernel
theorem dX12_book_19 : decode cX12_book 19 = .ok (.iconst 0, 1) := by decide +kernel
theorem dX12_book_20 : decode cX12_book 20 = .ok (.iastore, 1) := by decide +kernel
theorem dX12_book_21 : decode cX12_book 21 = .ok (.aload_n 0, 1) := by decide +kernel
theorem dX12_book_22 : decode cX12_book 22 = .ok (.invokevirtual 314, 3) := by decide +kernel
theorem dX12_book_25 : decode cX12_book 25 = .ok (.aload_n 0, 1) := by decide +kernel
theorem dX12_book_26 : decode cX12_book 26 = .ok (.getfield 102, 3) := by decide +kernel
theorem dX12_book_29 : decode cX12_book 29 = .ok (.ifCond .eq 17, 3) := by decide +kernel
theorem dX12_book_32 : decode cX12_book 32 = .ok (.aload_n 0, 1) := by decide +kernel
theorem dX12_book_33 : decode cX12_book 33 = .ok (.getfield 93, 3) := by decide +kernel
theorem dX12_book_36 : decode cX12_book 36 = .ok (.ifCond .eq 10, 3) := by decide +kernel
theorem dX12_book_39 : decode cX12_book 39 = .ok (.aload_n 0, 1) := by decide +kernel
theorem dX12_book_40 : decode cX12_book 40 = .ok (.invokevirtual 314, 3) := by decide +kernel
theorem dX12_book_43 : decode cX12_book 43 = .ok (.goto (-18), 3) := by decide +kernel
theorem dX12_book_46 : decode cX12_book 46 = .ok (.aload_n 0, 1) := by decide +kernel
theorem dX12_book_47 : decode cX12_book 47 = .ok (.invokevirtual 317, 3) := by decide +kernel
theorem dX12_book_50 : decode cX12_book 50 = .ok (.ifCond .ne 9, 3) := by decide +kernel
theorem dX12_book_53 : decode cX12_book 53 = .ok (.aload_n 0, 1) := by decide +kernel
theorem dX12_book_54 : decode cX12_book 54 = .ok (.iconst 2, 1) := by decide +kernel
theorem dX12_book_55 : decode cX12_book 55 = .ok (.invokevirtual 193, 3) := by decide +kernel
theorem dX12_book_58 : decode cX12_book 58 = .ok (.ireturn, 1) := by decide +kernel
theorem dX12_book_59 : decode cX12_book 59 = .ok (.aload_n 0, 1) := by decide +kernel
theorem dX12_book_60 : decode cX12_book 60 = .ok (.aload_n 0, 1) := by decide +kernel
theorem dX12_book_61 : decode cX12_book 61 = .ok (.invokevirtual 321, 3) := by decide +kernel
theorem dX12_book_64 : decode cX12_book 64 = .ok (.putfield 114, 3) := by decide +kernel
theorem dX12_book_67 : decode cX12_book 67 = .ok (.aload_n 0, 1) := by decide +kernel
theorem dX12_book_68 : decode cX12_book 68 = .ok (.getfield 114, 3) := by decide +kernel
theorem dX12_book_71 : decode cX12_book 71 = .ok (.ifCond .le 9, 3) := by decide +kernel
theorem dX12_book_74 : decode cX12_book 74 = .ok (.aload_n 0, 1) := by decide +kernel
theorem dX12_book_75 : decode cX12_book 75 = .ok (.iconst 4, 1) := by decide +kernel
theorem dX12_book_76 : decode cX12_book 76 = .ok (.invokevirtual 193, 3) := by decide +kernel
theorem dX12_book_79 : decode cX12_book 79 = .ok (.ireturn, 1) := by decide +kernel
theorem dX12_book_80 : decode cX12_book 80 = .ok (.aload_n 0, 1) := by decide +kernel
theorem dX12_book_81 : decode cX12_book 81 = .ok (.getfield 7, 3) := by decide +kernel
theorem dX12_book_84 : decode cX12_book 84 = .ok (.bipush 8, 2) := by decide +kernel
theorem dX12_book_86 : decode cX12_book 86 = .ok (.if_icmp .ne 10, 3) := by decide +kernel
theorem dX12_book_89 : decode cX12_book 89 = .ok (.aload_n 0, 1) := by decide +kernel
theorem dX12_book_90 : decode cX12_book 90 = .ok (.bipush 9, 2) := by decide +kernel
theorem dX12_book_92 : decode cX12_book 92 = .ok (.invokevirtual 193, 3) := by decide +kernel
theorem dX12_book_95 : decode cX12_book 95 = .ok (.ireturn, 1) := by decide +kernel
theorem dX12_book_96 : decode cX12_book 96 = .ok (.aload_n 0, 1) := by decide +kernel
theorem dX12_book_97 : decode cX12_book 97 = .ok (.getfield 7, 3) := by decide +kernel
theorem dX12_book_100 : decode cX12_book 100 = .ok (.istore_n 1, 1) := by decide +kernel
theorem dX12_book_101 : decode cX12_book 101 = .ok (.aload_n 0, 1) := by decide +kernel
theorem dX12_book_102 : decode cX12_book 102 = .ok (.getfield 17, 3) := by decide +kernel
theorem dX12_book_105 : decode cX12_book 105 = .ok (.iload_n 1, 1) := by decide +kernel
theorem dX12_book_106 : decode cX12_book 106 = .ok (.iconst 0, 1) := by decide +kernel
theorem dX12_book_107 : decode cX12_book 107 = .ok (.iastore, 1) := by decide +kernel
theorem dX12_book_108 : decode cX12_book 108 = .ok (.iconst 0, 1) := by decide +kernel
theorem dX12_book_109 : decode cX12_book 109 = .ok (.istore_n 2, 1) := by decide +kernel
theorem dX12_book_110 : decode cX12_book 110 = .ok (.iload_n 2, 1) := by decide +kernel
theorem dX12_book_111 : decode cX12_book 111 = .ok (.aload_n 0, 1) := by decide +kernel
theorem dX12_book_112 : decode cX12_book 112 = .ok (.getfield 148, 3) := by decide +kernel
theorem dX12_book_115 : decode cX12_book 115 = .ok (.if_icmp .ge 66, 3) := by decide +kernel
theorem dX12_book_118 : decode cX12_book 118 = .ok (.aload_n 0, 1) := by decide +kernel
theorem dX12_book_119 : decode cX12_book 119 = .ok (.getfield 151, 3) := by decide +kernel
theorem dX12_book_122 : decode cX12_book 122 = .ok (.iload_n 2, 1) := by decide +kernel
theorem dX12_book_123 : decode cX12_book 123 = .ok (.iaload, 1) := by decide +kernel
theorem dX12_book_124 : decode cX12_book 124 = .ok (.istore_n 3, 1) := by decide +kernel
theorem dX12_book_125 : decode cX12_book 125 = .ok (.iload_n 3, 1) := by decide +kernel
theorem dX12_book_126 : decode cX12_book 126 = .ok (.aload_n 0, 1) := by decide +kernel
theorem dX12_book_127 : decode cX12_book 127 = .ok (.getfield 158, 3) := by decide +kernel
theorem dX12_book_130 : decode cX12_book 130 = .ok (.iload_n 2, 1) := by decide +kernel
theorem dX12_book_131 : decode cX12_book 131 = .ok (.iaload, 1) := by decide +kernel
theorem dX12_book_132 : decode cX12_book 132 = .ok (.if_icmp .gt 43, 3) := by decide +kernel
theorem dX12_book_135 : decode cX12_book 135 = .ok (.aload_n 0, 1) := by decide +kernel
theorem dX12_book_136 : decode cX12_book 136 = .ok (.iload_n 1, 1) := by decide +kernel
theorem dX12_book_137 : decode cX12_book 137 = .ok (.iload_n 3, 1) := by decide +kernel
theorem dX12_book_138 : decode cX12_book 138 = .ok (.iload_n 3, 1) := by decide +kernel
theorem dX12_book_139 : decode cX12_book 139 = .ok (.aload_n 0, 1) := by decide +kernel
theorem dX12_book_140 : decode cX12_book 140 = .ok (.getfield 151, 3) := by decide +kernel
theorem dX12_book_143 : decode cX12_book 143 = .ok (.iload_n 2, 1) := by decide +kernel
theorem dX12_book_144 : decode cX12_book 144 = .ok (.iaload, 1) := by decide +kernel
theorem dX12_book_145 : decode cX12_book 145 = .ok (.isub, 1) := by decide +kernel
theorem dX12_book_146 : decode cX12_book 146 = .ok (.iconst 2, 1) := by decide +kernel
theorem dX12_book_147 : decode cX12_book 147 = .ok (.irem, 1) := by decide +kernel
theorem dX12_book_148 : decode cX12_book 148 = .ok (.ifCond .ne 12, 3) := by decide +kernel
theorem dX12_book_151 : decode cX12_book 151 = .ok (.aload_n 0, 1) := by decide +kernel
theorem dX12_book_152 : decode cX12_book 152 = .ok (.getfield 161, 3) := by decide +kernel
theorem dX12_book_155 : decode cX12_book 155 = .ok (.iload_n 2, 1) := by decide +kernel
theorem dX12_book_156 : decode cX12_book 156 = .ok (.iaload, 1) := by decide +kernel
theorem dX12_book_157 : decode cX12_book 157 = .ok (.goto 9, 3) := by decide +kernel
theorem dX12_book_160 : decode cX12_book 160 = .ok (.aload_n 0, 1) := by decide +kernel
theorem dX12_book_161 : decode cX12_book 161 = .ok (.getfield 164, 3) := by decide +kernel
theorem dX12_book_164 : decode cX12_book 164 = .ok (.iload_n 2, 1) := by decide +kernel
theorem dX12_book_165 : decode cX12_book 165 = .ok (.iaload, 1) := by decide +kernel
theorem dX12_book_166 : decode cX12_book 166 = .ok (.invokevirtual 324, 3) := by decide +kernel
theorem dX12_book_169 : decode cX12_book 169 = .ok (.iinc 3 1, 3) := by decide +kernel
theorem dX12_book_172 : decode cX12_book 172 = .ok (.goto (-47), 3) := by decide +kernel
theorem dX12_book_175 : decode cX12_book 175 = .ok (.iinc 2 1, 3) := by decide +kernel
theorem dX12_book_178 : decode cX12_book 178 = .ok (.goto (-68), 3) := by decide +kernel
theorem dX12_book_181 : decode cX12_book 181 = .ok (.iconst 0, 1) := by decide +kernel
theorem dX12_book_182 : decode cX12_book 182 = .ok (.istore_n 2, 1) := by decide +kernel
theorem dX12_book_183 : decode cX12_book 183 = .ok (.iload_n 2, 1) := by decide +kernel
theorem dX12_book_184 : decode cX12_book 184 = .ok (.aload_n 0, 1) := by decide +kernel
theorem dX12_book_185 : decode cX12_book 185 = .ok (.getfield 120, 3) := by decide +kernel
theorem dX12_book_188 : decode cX12_book 188 = .ok (.if_icmp .ge 15, 3) := by decide +kernel
theorem dX12_book_191 : decode cX12_book 191 = .ok (.aload_n 0, 1) := by decide +kernel
theorem dX12_book_192 : decode cX12_book 192 = .ok (.iload_n 1, 1) := by decide +kernel
theorem dX12_book_193 : decode cX12_book 193 = .ok (.iload_n 2, 1) := by decide +kernel
theorem dX12_book_194 : decode cX12_book 194 = .ok (.invokevirtual 327, 3) := by decide +kernel
theorem dX12_book_197 : decode cX12_book 197 = .ok (.iinc 2 1, 3) := by decide +kernel
theorem dX12_book_200 : decode cX12_book 200 = .ok (.goto (-17), 3) := by decide +kernel
theorem dX12_book_203 : decode cX12_book 203 = .ok (.aload_n 0, 1) := by decide +kernel
theorem dX12_book_204 : decode cX12_book 204 = .ok (.iload_n 1, 1) := by decide +kernel
theorem dX12_book_205 : decode cX12_book 205 = .ok (.invokevirtual 330, 3) := by decide +kernel
theorem dX12_book_208 : decode cX12_book 208 = .ok (.ireturn, 1) := by decide +kernel
def X12_book_166 (k110 : Nat → Int32 → Int32 → MM Int32) (k125 : Nat → Int32 → Int32 → Int32 → MM Int32) (this : Nat) (x1 : Int32) (x2 : Int32) (x3 : Int32) (y0 : Int32) (y1 : Int32) (y2 : Int32) : MM Int32 :=
  mb (wc 13 (some this) fun t => X12_add t y2 y1 y0) fun _ =>
  (k125 this x1 x2 (x3 + (1 : Int32)))
def X12_book_175 (k110 : Nat → Int32 → Int32 → MM Int32) (this : Nat) (x1 : Int32) (x2 : Int32) : MM Int32 :=
  (k110 this x1 (x2 + (1 : Int32)))
def X12_book_125_st (k110 : Nat → Int32 → Int32 → MM Int32) (k125 : Nat → Int32 → Int32 → Int32 → MM Int32) (this : Nat) (x1 : Int32) (x2 : Int32) (x3 : Int32) : MM Int32 :=
  mb (gR 13 (some this) 27) fun v1 =>
  mb (aI v1 x2) fun v2 =>
  if v2 < x3 then ((X12_book_175 k110 this x1 x2)) else (mb (gR 13 (some this) 26) fun v3 =>
  mb (aI v3 x2) fun v4 =>
  mb (rI (x3 - v4) (2 : Int32)) fun v5 =>
  if v5 = 0 then (mb (gR 13 (some this) 29) fun v6 =>
  mb (aI v6 x2) fun v7 =>
  (X12_book_166 k110 k125 this x1 x2 x3 v7 x3 x1)) else (mb (gR 13 (some this) 30) fun v8 =>
  mb (aI v8 x2) fun v9 =>
  (X12_book_166 k110 k125 this x1 x2 x3 v9 x3 x1)))
def X12_book_125 (k110 : Nat → Int32 → Int32 → MM Int32) : Nat → Nat → Int32 → Int32 → Int32 → MM Int32
  | 0 => fun _ _ _ _ => mf
  | n + 1 => fun this x1 x2 x3 => X12_book_125_st k110 (X12_book_125 k110 n) this x1 x2 x3
def X12_book_203  (this : Nat) (x1 : Int32) : MM Int32 :=
  mb (wc 13 (some this) fun t => X12_isMade t x1) fun v1 =>
  mr v1
def X12_book_183_st  (k183 : Nat → Int32 → Int32 → MM Int32) (this : Nat) (x1 : Int32) (x2 : Int32) : MM Int32 :=
  mb (gI 13 (some this) 25) fun v1 =>
  if v1 ≤ x2 then ((X12_book_203 this x1)) else (mb (wc 13 (some this) fun t => X12_apply t x1 x2) fun _ =>
  (k183 this x1 (x2 + (1 : Int32))))
def X12_book_183  : Nat → Nat → Int32 → Int32 → MM Int32
  | 0 => fun _ _ _ => mf
  | n + 1 => fun this x1 x2 => X12_book_183_st  (X12_book_183  n) this x1 x2
def X12_book_181  (this : Nat) (x1 : Int32) : MM Int32 :=
  (X12_book_183 LFU this x1 (0 : Int32))
def X12_book_110_st  (k110 : Nat → Int32 → Int32 → MM Int32) (this : Nat) (x1 : Int32) (x2 : Int32) : MM Int32 :=
  mb (gI 13 (some this) 24) fun v1 =>
  if v1 ≤ x2 then ((X12_book_181 this x1)) else (mb (gR 13 (some this) 26) fun v2 =>
  mb (aI v2 x2) fun v3 =>
  (X12_book_125 k110 LFU this x1 x2 v3))
def X12_book_110  : Nat → Nat → Int32 → Int32 → MM Int32
  | 0 => fun _ _ _ => mf
  | n + 1 => fun this x1 x2 => X12_book_110_st  (X12_book_110  n) this x1 x2
def X12_book_46  (this : Nat) : MM Int32 :=
  mb (wc 13 (some this) fun t => X12_ends t ) fun v1 =>
  if v1 = 0 then (mb (wc 13 (some this) fun t => X12_no t (2 : Int32)) fun v2 =>
  mr v2) else (mb (wc 13 (some this) fun t => X12_faultOfAll t ) fun v3 =>
  mb (pI 13 (some this) 4 v3) fun _ =>
  mb (gI 13 (some this) 4) fun v4 =>
  if v4 ≤ 0 then (mb (gI 13 (some this) 5) fun v5 =>
  if v5 = (8 : Int32) then (mb (wc 13 (some this) fun t => X12_no t (9 : Int32)) fun v6 =>
  mr v6) else (mb (gI 13 (some this) 5) fun v7 =>
  mb (gR 13 (some this) 6) fun v8 =>
  mb (sI v8 v7 (0 : Int32)) fun _ =>
  (X12_book_110 LFU this v7 (0 : Int32)))) else (mb (wc 13 (some this) fun t => X12_no t (4 : Int32)) fun v9 =>
  mr v9))
def X12_book_25_st  (k25 : Nat → MM Int32) (this : Nat) : MM Int32 :=
  mb (gI 13 (some this) 23) fun v1 =>
  if v1 = 0 then ((X12_book_46 this)) else (mb (gI 13 (some this) 21) fun v2 =>
  if v2 = 0 then ((X12_book_46 this)) else (mb (wc 13 (some this) fun t => X12_readGroup t ) fun _ =>
  (k25 this)))
def X12_book_25  : Nat → Nat → MM Int32
  | 0 => fun _ => mf
  | n + 1 => fun this => X12_book_25_st  (X12_book_25  n) this
def X12_book (this : Nat) : MM Int32 :=
  mb (wc 13 (some this) fun t => X12_begins t ) fun _ =>
  mb (pI 13 (some this) 24 (0 : Int32)) fun _ =>
  mb (pI 13 (some this) 25 (0 : Int32)) fun _ =>
  mb (gR 13 (some this) 31) fun v1 =>
  mb (sI v1 (0 : Int32) (0 : Int32)) fun _ =>
  mb (wc 13 (some this) fun t => X12_readGroup t ) fun _ =>
  (X12_book_25 LFU this)
set_option maxRecDepth 100000 in
set_option maxHeartbeats 4000000 in
theorem s_X12_book_166 (G : GG) (k110 : Nat → Int32 → Int32 → MM Int32) (k125 : Nat → Int32 → Int32 → Int32 → MM Int32) (hk110 : ∀ (this : Nat) (x1 : Int32) (x2 : Int32), Sn G yX12_book cX12_book 4 (some FieldType.int) 11 236 (fun v : Int32 => some (.int v)) (k110 this x1 x2) 110 [some (va_rf (some this)), some (.int x1), some (.int x2), none] []) (hk125 : ∀ (this : Nat) (x1 : Int32) (x2 : Int32) (x3 : Int32), Sn G yX12_book cX12_book 4 (some FieldType.int) 11 236 (fun v : Int32 => some (.int v)) (k125 this x1 x2 x3) 125 [some (va_rf (some this)), some (.int x1), some (.int x2), some (.int x3)] []) (this : Nat) (x1 : Int32) (x2 : Int32) (x3 : Int32) (y0 : Int32) (y1 : Int32) (y2 : Int32) : Sn G yX12_book cX12_book 4 (some FieldType.int) 11 236 (fun v : Int32 => some (.int v)) (X12_book_166 k110 k125 this x1 x2 x3 y0 y1 y2) 166 [some (va_rf (some this)), some (.int x1), some (.int x2), some (.int x3)] [.int y0, .int y1, .int y2, va_rf (some this)] := by
  unfold X12_book_166
  refine sn_cV (r := (some this)) (st := []) (As := [.int y2, .int y1, .int y0]) (st2 := (fun _ => [])) (pc' := 169) ci_13 (fun t => c_X12_add G t y2 y1 y0) cw_X12_add rfl rfl tw1523 pw62 tw1525 rfl rfl cat_nil rfl (fun _ => rfl) dX12_book_166 rfl (fun _ => ?_)
  refine sn_iinc (v := x3) (w := 1) (L' := [some (va_rf (some this)), some (.int x1), some (.int x2), some (.int (x3 + (1 : Int32)))]) (pc' := 172) dX12_book_169 rfl rfl rfl (by decide) rfl ?_
  refine sn_goto (pc' := 125) dX12_book_172 rfl ?_
  exact sn_weak (le_s (le_s (le_s (le_s le_e)))) (hk125 this x1 x2 (x3 + (1 : Int32)))
set_option maxRecDepth 100000 in
set_option maxHeartbeats 4000000 in
theorem s_X12_book_175 (G : GG) (k110 : Nat → Int32 → Int32 → MM Int32) (hk110 : ∀ (this : Nat) (x1 : Int32) (x2 : Int32), Sn G yX12_book cX12_book 4 (some FieldType.int) 11 236 (fun v : Int32 => some (.int v)) (k110 this x1 x2) 110 [some (va_rf (some this)), some (.int x1), some (.int x2), none] []) (this : Nat) (x1 : Int32) (x2 : Int32) : Sn G yX12_book cX12_book 4 (some FieldType.int) 11 236 (fun v : Int32 => some (.int v)) (X12_book_175 k110 this x1 x2) 175 [some (va_rf (some this)), some (.int x1), some (.int x2), none] [] := by
  unfold X12_book_175
  refine sn_iinc (v := x2) (w := 1) (L' := [some (va_rf (some this)), some (.int x1), some (.int (x2 + (1 : Int32))), none]) (pc' := 178) dX12_book_175 rfl rfl rfl (by decide) rfl ?_
  refine sn_goto (pc' := 110) dX12_book_178 rfl ?_
  exact sn_weak (le_s (le_s (le_s (le_n le_e)))) (hk110 this x1 (x2 + (1 : Int32)))
set_option maxRecDepth 100000 in
set_option maxHeartbeats 4000000 in
theorem s_X12_book_125_st (G : GG) (k110 : Nat → Int32 → Int32 → MM Int32) (hk110 : ∀ (this : Nat) (x1 : Int32) (x2 : Int32), Sn G yX12_book cX12_book 4 (some FieldType.int) 11 236 (fun v : Int32 => some (.int v)) (k110 this x1 x2) 110 [some (va_rf (some this)), some (.int x1), some (.int x2), none] []) (k125 : Nat → Int32 → Int32 → Int32 → MM Int32) (hk125 : ∀ (this : Nat) (x1 : Int32) (x2 : Int32) (x3 : Int32), Sn G yX12_book cX12_book 4 (some FieldType.int) 11 236 (fun v : Int32 => some (.int v)) (k125 this x1 x2 x3) 125 [some (va_rf (some this)), some (.int x1), some (.int x2), some (.int x3)] []) (this : Nat) (x1 : Int32) (x2 : Int32) (x3 : Int32) : Sn G yX12_book cX12_book 4 (some FieldType.int) 11 236 (fun v : Int32 => some (.int v)) (X12_book_125_st k110 k125 this x1 x2 x3) 125 [some (va_rf (some this)), some (.int x1), some (.int x2), some (.int x3)] [] := by
  unfold X12_book_125_st
  refine sn_iload_n (v := x3) (pc' := 126) dX12_book_125 rfl rfl rfl ?_
  refine sn_aload_n (v := (some this)) (pc' := 127) dX12_book_126 rfl rfl rfl ?_
  refine sn_gR (k := 27) (pc' := 130) ci_13 rfl (Or.inl tw1305) dX12_book_127 rfl (fun v1 => ?_)
  refine sn_iload_n (v := x2) (pc' := 131) dX12_book_130 rfl rfl rfl ?_
  refine sn_aI (pc' := 132) dX12_book_131 rfl (fun v2 => ?_)
  refine sn_ic_gt (pt := 175) (pf := 135) dX12_book_132 rfl rfl ?_ ?_
  · exact sn_weak (le_s (le_s (le_s (le_n le_e)))) (s_X12_book_175 G k110 hk110 this x1 x2)
  · refine sn_aload_n (v := (some this)) (pc' := 136) dX12_book_135 rfl rfl rfl ?_
    refine sn_iload_n (v := x1) (pc' := 137) dX12_book_136 rfl rfl rfl ?_
    refine sn_iload_n (v := x3) (pc' := 138) dX12_book_137 rfl rfl rfl ?_
    refine sn_iload_n (v := x3) (pc' := 139) dX12_book_138 rfl rfl rfl ?_
    refine sn_aload_n (v := (some this)) (pc' := 140) dX12_book_139 rfl rfl rfl ?_
    refine sn_gR (k := 26) (pc' := 143) ci_13 rfl (Or.inl tw1304) dX12_book_140 rfl (fun v3 => ?_)
    refine sn_iload_n (v := x2) (pc' := 144) dX12_book_143 rfl rfl rfl ?_
    refine sn_aI (pc' := 145) dX12_book_144 rfl (fun v4 => ?_)
    refine sn_isub (pc' := 146) dX12_book_145 rfl ?_
    refine sn_iconst (v := (2 : Int32)) (pc' := 147) dX12_book_146 rfl (by decide) ?_
    refine sn_rI (pc' := 148) dX12_book_147 rfl (fun v5 => ?_)
    refine sn_if_ne (pt := 160) (pf := 151) dX12_book_148 rfl rfl ?_ ?_
    · refine sn_aload_n (v := (some this)) (pc' := 152) dX12_book_151 rfl rfl rfl ?_
      refine sn_gR (k := 29) (pc' := 155) ci_13 rfl (Or.inl tw1307) dX12_book_152 rfl (fun v6 => ?_)
      refine sn_iload_n (v := x2) (pc' := 156) dX12_book_155 rfl rfl rfl ?_
      refine sn_aI (pc' := 157) dX12_book_156 rfl (fun v7 => ?_)
      refine sn_goto (pc' := 166) dX12_book_157 rfl ?_
      exact sn_weak (le_s (le_s (le_s (le_s le_e)))) (s_X12_book_166 G k110 k125 hk110 hk125 this x1 x2 x3 v7 x3 x1)
    · refine sn_aload_n (v := (some this)) (pc' := 161) dX12_book_160 rfl rfl rfl ?_
      refine sn_gR (k := 30) (pc' := 164) ci_13 rfl (Or.inl tw1308) dX12_book_161 rfl (fun v8 => ?_)
      refine sn_iload_n (v := x2) (pc' := 165) dX12_book_164 rfl rfl rfl ?_
      refine sn_aI (pc' := 166) dX12_book_165 rfl (fun v9 => ?_)
      exact sn_weak (le_s (le_s (le_s (le_s le_e)))) (s_X12_book_166 G k110 k125 hk110 hk125 this x1 x2 x3 v9 x3 x1)
set_option maxRecDepth 100000 in
set_option maxHeartbeats 4000000 in
theorem s_X12_book_125 (G : GG) (k110 : Nat → Int32 → Int32 → MM Int32) (hk110 : ∀ (this : Nat) (x1 : Int32) (x2 : Int32), Sn G yX12_book cX12_book 4 (some FieldType.int) 11 236 (fun v : Int32 => some (.int v)) (k110 this x1 x2) 110 [some (va_rf (some this)), some (.int x1), some (.int x2), none] []) : ∀ (n : Nat) (this : Nat) (x1 : Int32) (x2 : Int32) (x3 : Int32), Sn G yX12_book cX12_book 4 (some FieldType.int) 11 236 (fun v : Int32 => some (.int v)) (X12_book_125 k110 n this x1 x2 x3) 125 [some (va_rf (some this)), some (.int x1), some (.int x2), some (.int x3)] [] := by
  intro n
  induction n with
  | zero => intro this x1 x2 x3; exact sn_mf
  | succ n ih => intro this x1 x2 x3; exact s_X12_book_125_st G k110 hk110 (X12_book_125 k110 n) ih this x1 x2 x3
set_option maxRecDepth 100000 in
set_option maxHeartbeats 4000000 in
theorem s_X12_book_203 (G : GG)   (this : Nat) (x1 : Int32) : Sn G yX12_book cX12_book 4 (some FieldType.int) 11 236 (fun v : Int32 => some (.int v)) (X12_book_203  this x1) 203 [some (va_rf (some this)), some (.int x1), none, none] [] := by
  unfold X12_book_203
  refine sn_aload_n (v := (some this)) (pc' := 204) dX12_book_203 rfl rfl rfl ?_
  refine sn_iload_n (v := x1) (pc' := 205) dX12_book_204 rfl rfl rfl ?_
  refine sn_cV (r := (some this)) (st := []) (As := [.int x1]) (st2 := (fun v => .int v :: [])) (pc' := 208) ci_13 (fun t => c_X12_isMade G t x1) cw_X12_isMade rfl rfl tw1538 pw65 tw1540 rfl rfl cat_nil rfl (fun _ => rfl) dX12_book_205 rfl (fun v1 => ?_)
  exact sn_iret dX12_book_208 rfl rfl
set_option maxRecDepth 100000 in
set_option maxHeartbeats 4000000 in
theorem s_X12_book_183_st (G : GG)   (k183 : Nat → Int32 → Int32 → MM Int32) (hk183 : ∀ (this : Nat) (x1 : Int32) (x2 : Int32), Sn G yX12_book cX12_book 4 (some FieldType.int) 11 236 (fun v : Int32 => some (.int v)) (k183 this x1 x2) 183 [some (va_rf (some this)), some (.int x1), some (.int x2), none] []) (this : Nat) (x1 : Int32) (x2 : Int32) : Sn G yX12_book cX12_book 4 (some FieldType.int) 11 236 (fun v : Int32 => some (.int v)) (X12_book_183_st  k183 this x1 x2) 183 [some (va_rf (some this)), some (.int x1), some (.int x2), none] [] := by
  unfold X12_book_183_st
  refine sn_iload_n (v := x2) (pc' := 184) dX12_book_183 rfl rfl rfl ?_
  refine sn_aload_n (v := (some this)) (pc' := 185) dX12_book_184 rfl rfl rfl ?_
  refine sn_gI (k := 25) (pc' := 188) ci_13 rfl (Or.inl tw1303) dX12_book_185 rfl (fun v1 => ?_)
  refine sn_ic_ge (pt := 203) (pf := 191) dX12_book_188 rfl rfl ?_ ?_
  · exact sn_weak (le_s (le_s (le_n (le_n le_e)))) (s_X12_book_203 G this x1)
  · refine sn_aload_n (v := (some this)) (pc' := 192) dX12_book_191 rfl rfl rfl ?_
    refine sn_iload_n (v := x1) (pc' := 193) dX12_book_192 rfl rfl rfl ?_
    refine sn_iload_n (v := x2) (pc' := 194) dX12_book_193 rfl rfl rfl ?_
    refine sn_cV (r := (some this)) (st := []) (As := [.int x1, .int x2]) (st2 := (fun _ => [])) (pc' := 197) ci_13 (fun t => c_X12_apply G t x1 x2) cw_X12_apply rfl rfl tw1530 pw63 tw1532 rfl rfl cat_nil rfl (fun _ => rfl) dX12_book_194 rfl (fun _ => ?_)
    refine sn_iinc (v := x2) (w := 1) (L' := [some (va_rf (some this)), some (.int x1), some (.int (x2 + (1 : Int32))), none]) (pc' := 200) dX12_book_197 rfl rfl rfl (by decide) rfl ?_
    refine sn_goto (pc' := 183) dX12_book_200 rfl ?_
    exact sn_weak (le_s (le_s (le_s (le_n le_e)))) (hk183 this x1 (x2 + (1 : Int32)))
set_option maxRecDepth 100000 in
set_option maxHeartbeats 4000000 in
theorem s_X12_book_183 (G : GG)   : ∀ (n : Nat) (this : Nat) (x1 : Int32) (x2 : Int32), Sn G yX12_book cX12_book 4 (some FieldType.int) 11 236 (fun v : Int32 => some (.int v)) (X12_book_183  n this x1 x2) 183 [some (va_rf (some this)), some (.int x1), some (.int x2), none] [] := by
  intro n
  induction n with
  | zero => intro this x1 x2; exact sn_mf
  | succ n ih => intro this x1 x2; exact s_X12_book_183_st G   (X12_book_183  n) ih this x1 x2
set_option maxRecDepth 100000 in
set_option maxHeartbeats 4000000 in
theorem s_X12_book_181 (G : GG)   (this : Nat) (x1 : Int32) : Sn G yX12_book cX12_book 4 (some FieldType.int) 11 236 (fun v : Int32 => some (.int v)) (X12_book_181  this x1) 181 [some (va_rf (some this)), some (.int x1), none, none] [] := by
  unfold X12_book_181
  refine sn_iconst (v := (0 : Int32)) (pc' := 182) dX12_book_181 rfl (by decide) ?_
  refine sn_istore_n (v := (0 : Int32)) (L' := [some (va_rf (some this)), some (.int x1), some (.int (0 : Int32)), none]) (pc' := 183) dX12_book_182 rfl rfl rfl rfl ?_
  exact sn_weak (le_s (le_s (le_s (le_n le_e)))) (s_X12_book_183 G LFU this x1 (0 : Int32))
set_option maxRecDepth 100000 in
set_option maxHeartbeats 4000000 in
theorem s_X12_book_110_st (G : GG)   (k110 : Nat → Int32 → Int32 → MM Int32) (hk110 : ∀ (this : Nat) (x1 : Int32) (x2 : Int32), Sn G yX12_book cX12_book 4 (some FieldType.int) 11 236 (fun v : Int32 => some (.int v)) (k110 this x1 x2) 110 [some (va_rf (some this)), some (.int x1), some (.int x2), none] []) (this : Nat) (x1 : Int32) (x2 : Int32) : Sn G yX12_book cX12_book 4 (some FieldType.int) 11 236 (fun v : Int32 => some (.int v)) (X12_book_110_st  k110 this x1 x2) 110 [some (va_rf (some this)), some (.int x1), some (.int x2), none] [] := by
  unfold X12_book_110_st
  refine sn_iload_n (v := x2) (pc' := 111) dX12_book_110 rfl rfl rfl ?_
  refine sn_aload_n (v := (some this)) (pc' := 112) dX12_book_111 rfl rfl rfl ?_
  refine sn_gI (k := 24) (pc' := 115) ci_13 rfl (Or.inl tw1302) dX12_book_112 rfl (fun v1 => ?_)
  refine sn_ic_ge (pt := 181) (pf := 118) dX12_book_115 rfl rfl ?_ ?_
  · exact sn_weak (le_s (le_s (le_n (le_n le_e)))) (s_X12_book_181 G this x1)
  · refine sn_aload_n (v := (some this)) (pc' := 119) dX12_book_118 rfl rfl rfl ?_
    refine sn_gR (k := 26) (pc' := 122) ci_13 rfl (Or.inl tw1304) dX12_book_119 rfl (fun v2 => ?_)
    refine sn_iload_n (v := x2) (pc' := 123) dX12_book_122 rfl rfl rfl ?_
    refine sn_aI (pc' := 124) dX12_book_123 rfl (fun v3 => ?_)
    refine sn_istore_n (v := v3) (L' := [some (va_rf (some this)), some (.int x1), some (.int x2), some (.int v3)]) (pc' := 125) dX12_book_124 rfl rfl rfl rfl ?_
    exact sn_weak (le_s (le_s (le_s (le_s le_e)))) (s_X12_book_125 G k110 hk110 LFU this x1 x2 v3)
set_option maxRecDepth 100000 in
set_option maxHeartbeats 4000000 in
theorem s_X12_book_110 (G : GG)   : ∀ (n : Nat) (this : Nat) (x1 : Int32) (x2 : Int32), Sn G yX12_book cX12_book 4 (some FieldType.int) 11 236 (fun v : Int32 => some (.int v)) (X12_book_110  n this x1 x2) 110 [some (va_rf (some this)), some (.int x1), some (.int x2), none] [] := by
  intro n
  induction n with
  | zero => intro this x1 x2; exact sn_mf
  | succ n ih => intro this x1 x2; exact s_X12_book_110_st G   (X12_book_110  n) ih this x1 x2
set_option maxRecDepth 100000 in
set_option maxHeartbeats 4000000 in
theorem s_X12_book_46 (G : GG)   (this : Nat) : Sn G yX12_book cX12_book 4 (some FieldType.int) 11 236 (fun v : Int32 => some (.int v)) (X12_book_46  this) 46 [some (va_rf (some this)), none, none, none] [] := by
  unfold X12_book_46
  refine sn_aload_n (v := (some this)) (pc' := 47) dX12_book_46 rfl rfl rfl ?_
  refine sn_cV (r := (some this)) (st := []) (As := []) (st2 := (fun v => .int v :: [])) (pc' := 50) ci_13 (fun t => c_X12_ends G t ) cw_X12_ends rfl rfl tw1500 pw57 tw1502 rfl rfl cat_nil rfl (fun _ => rfl) dX12_book_47 rfl (fun v1 => ?_)
  refine sn_if_ne (pt := 59) (pf := 53) dX12_book_50 rfl rfl ?_ ?_
  · refine sn_aload_n (v := (some this)) (pc' := 54) dX12_book_53 rfl rfl rfl ?_
    refine sn_iconst (v := (2 : Int32)) (pc' := 55) dX12_book_54 rfl (by decide) ?_
    refine sn_cV (r := (some this)) (st := []) (As := [.int (2 : Int32)]) (st2 := (fun v => .int v :: [])) (pc' := 58) ci_13 (fun t => c_X12_no G t (2 : Int32)) cw_X12_no rfl rfl tw1431 pw44 tw1433 rfl rfl cat_nil rfl (fun _ => rfl) dX12_book_55 rfl (fun v2 => ?_)
    exact sn_iret dX12_book_58 rfl rfl
  · refine sn_aload_n (v := (some this)) (pc' := 60) dX12_book_59 rfl rfl rfl ?_
    refine sn_aload_n (v := (some this)) (pc' := 61) dX12_book_60 rfl rfl rfl ?_
    refine sn_cV (r := (some this)) (st := [va_rf (some this)]) (As := []) (st2 := (fun v => .int v :: [va_rf (some this)])) (pc' := 64) ci_13 (fun t => c_X12_faultOfAll G t ) cw_X12_faultOfAll rfl rfl tw1504 pw58 tw1506 rfl rfl (cat_q cat_nil) rfl (fun _ => rfl) dX12_book_61 rfl (fun v3 => ?_)
    refine sn_pI (k := 4) (pc' := 67) ci_13 rfl (Or.inl tw1282) (Or.inl rfl) rfl dX12_book_64 rfl (fun _ => ?_)
    refine sn_aload_n (v := (some this)) (pc' := 68) dX12_book_67 rfl rfl rfl ?_
    refine sn_gI (k := 4) (pc' := 71) ci_13 rfl (Or.inl tw1282) dX12_book_68 rfl (fun v4 => ?_)
    refine sn_if_le (pt := 80) (pf := 74) dX12_book_71 rfl rfl ?_ ?_
    · refine sn_aload_n (v := (some this)) (pc' := 81) dX12_book_80 rfl rfl rfl ?_
      refine sn_gI (k := 5) (pc' := 84) ci_13 rfl (Or.inl tw1283) dX12_book_81 rfl (fun v5 => ?_)
      refine sn_bipush (v := (8 : Int32)) (pc' := 86) dX12_book_84 rfl (by decide) ?_
      refine sn_ic_ne (pt := 96) (pf := 89) dX12_book_86 rfl rfl ?_ ?_
      · refine sn_aload_n (v := (some this)) (pc' := 90) dX12_book_89 rfl rfl rfl ?_
        refine sn_bipush (v := (9 : Int32)) (pc' := 92) dX12_book_90 rfl (by decide) ?_
        refine sn_cV (r := (some this)) (st := []) (As := [.int (9 : Int32)]) (st2 := (fun v => .int v :: [])) (pc' := 95) ci_13 (fun t => c_X12_no G t (9 : Int32)) cw_X12_no rfl rfl tw1431 pw44 tw1433 rfl rfl cat_nil rfl (fun _ => rfl) dX12_book_92 rfl (fun v6 => ?_)
        exact sn_iret dX12_book_95 rfl rfl
      · refine sn_aload_n (v := (some this)) (pc' := 97) dX12_book_96 rfl rfl rfl ?_
        refine sn_gI (k := 5) (pc' := 100) ci_13 rfl (Or.inl tw1283) dX12_book_97 rfl (fun v7 => ?_)
        refine sn_istore_n (v := v7) (L' := [some (va_rf (some this)), some (.int v7), none, none]) (pc' := 101) dX12_book_100 rfl rfl rfl rfl ?_
        refine sn_aload_n (v := (some this)) (pc' := 102) dX12_book_101 rfl rfl rfl ?_
        refine sn_gR (k := 6) (pc' := 105) ci_13 rfl (Or.inl tw1284) dX12_book_102 rfl (fun v8 => ?_)
        refine sn_iload_n (v := v7) (pc' := 106) dX12_book_105 rfl rfl rfl ?_
        refine sn_iconst (v := (0 : Int32)) (pc' := 107) dX12_book_106 rfl (by decide) ?_
        refine sn_sI (pc' := 108) dX12_book_107 rfl (fun _ => ?_)
        refine sn_iconst (v := (0 : Int32)) (pc' := 109) dX12_book_108 rfl (by decide) ?_
        refine sn_istore_n (v := (0 : Int32)) (L' := [some (va_rf (some this)), some (.int v7), some (.int (0 : Int32)), none]) (pc' := 110) dX12_book_109 rfl rfl rfl rfl ?_
        exact sn_weak (le_s (le_s (le_s (le_n le_e)))) (s_X12_book_110 G LFU this v7 (0 : Int32))
    · refine sn_aload_n (v := (some this)) (pc' := 75) dX12_book_74 rfl rfl rfl ?_
      refine sn_iconst (v := (4 : Int32)) (pc' := 76) dX12_book_75 rfl (by decide) ?_
      refine sn_cV (r := (some this)) (st := []) (As := [.int (4 : Int32)]) (st2 := (fun v => .int v :: [])) (pc' := 79) ci_13 (fun t => c_X12_no G t (4 : Int32)) cw_X12_no rfl rfl tw1431 pw44 tw1433 rfl rfl cat_nil rfl (fun _ => rfl) dX12_book_76 rfl (fun v9 => ?_)
      exact sn_iret dX12_book_79 rfl rfl
set_option maxRecDepth 100000 in
set_option maxHeartbeats 4000000 in
theorem s_X12_book_25_st (G : GG)   (k25 : Nat → MM Int32) (hk25 : ∀ (this : Nat), Sn G yX12_book cX12_book 4 (some FieldType.int) 11 236 (fun v : Int32 => some (.int v)) (k25 this) 25 [some (va_rf (some this)), none, none, none] []) (this : Nat) : Sn G yX12_book cX12_book 4 (some FieldType.int) 11 236 (fun v : Int32 => some (.int v)) (X12_book_25_st  k25 this) 25 [some (va_rf (some this)), none, none, none] [] := by
  unfold X12_book_25_st
  refine sn_aload_n (v := (some this)) (pc' := 26) dX12_book_25 rfl rfl rfl ?_
  refine sn_gI (k := 23) (pc' := 29) ci_13 rfl (Or.inl tw1301) dX12_book_26 rfl (fun v1 => ?_)
  refine sn_if_eq (pt := 46) (pf := 32) dX12_book_29 rfl rfl ?_ ?_
  · exact sn_weak (le_s (le_n (le_n (le_n le_e)))) (s_X12_book_46 G this)
  · refine sn_aload_n (v := (some this)) (pc' := 33) dX12_book_32 rfl rfl rfl ?_
    refine sn_gI (k := 21) (pc' := 36) ci_13 rfl (Or.inl tw1299) dX12_book_33 rfl (fun v2 => ?_)
    refine sn_if_eq (pt := 46) (pf := 39) dX12_book_36 rfl rfl ?_ ?_
    · exact sn_weak (le_s (le_n (le_n (le_n le_e)))) (s_X12_book_46 G this)
    · refine sn_aload_n (v := (some this)) (pc' := 40) dX12_book_39 rfl rfl rfl ?_
      refine sn_cV (r := (some this)) (st := []) (As := []) (st2 := (fun _ => [])) (pc' := 43) ci_13 (fun t => c_X12_readGroup G t ) cw_X12_readGroup rfl rfl tw1472 pw50 tw1474 rfl rfl cat_nil rfl (fun _ => rfl) dX12_book_40 rfl (fun _ => ?_)
      refine sn_goto (pc' := 25) dX12_book_43 rfl ?_
      exact sn_weak (le_s (le_n (le_n (le_n le_e)))) (hk25 this)
set_option maxRecDepth 100000 in
set_option maxHeartbeats 4000000 in
theorem s_X12_book_25 (G : GG)   : ∀ (n : Nat) (this : Nat), Sn G yX12_book cX12_book 4 (some FieldType.int) 11 236 (fun v : Int32 => some (.int v)) (X12_book_25  n this) 25 [some (va_rf (some this)), none, none, none] [] := by
  intro n
  induction n with
  | zero => intro this; exact sn_mf
  | succ n ih => intro this; exact s_X12_book_25_st G   (X12_book_25  n) ih this
set_option maxRecDepth 100000 in
set_option maxHeartbeats 4000000 in
theorem s_X12_book (G : GG) (this : Nat) : Sn G yX12_book cX12_book 4 (some FieldType.int) 11 236 (fun v : Int32 => some (.int v)) (X12_book this) 0 [some (va_rf (some this)), none, none, none] [] := by
  unfold X12_book
  refine sn_aload_n (v := (some this)) (pc' := 1) dX12_book_0 rfl rfl rfl ?_
  refine sn_cV (r := (some this)) (st := []) (As := []) (st2 := (fun _ => [])) (pc' := 4) ci_13 (fun t => c_X12_begins G t ) cw_X12_begins rfl rfl tw1450 pw46 tw1452 rfl rfl cat_nil rfl (fun _ => rfl) dX12_book_1 rfl (fun _ => ?_)
  refine sn_aload_n (v := (some this)) (pc' := 5) dX12_book_4 rfl rfl rfl ?_
  refine sn_iconst (v := (0 : Int32)) (pc' := 6) dX12_book_5 rfl (by decide) ?_
  refine sn_pI (k := 24) (pc' := 9) ci_13 rfl (Or.inl tw1302) (Or.inl rfl) rfl dX12_book_6 rfl (fun _ => ?_)
  refine sn_aload_n (v := (some this)) (pc' := 10) dX12_book_9 rfl rfl rfl ?_
  refine sn_iconst (v := (0 : Int32)) (pc' := 11) dX12_book_10 rfl (by decide) ?_
  refine sn_pI (k := 25) (pc' := 14) ci_13 rfl (Or.inl tw1303) (Or.inl rfl) rfl dX12_book_11 rfl (fun _ => ?_)
  refine sn_aload_n (v := (some this)) (pc' := 15) dX12_book_14 rfl rfl rfl ?_
  refine sn_gR (k := 31) (pc' := 18) ci_13 rfl (Or.inl tw1309) dX12_book_15 rfl (fun v1 => ?_)
  refine sn_iconst (v := (0 : Int32)) (pc' := 19) dX12_book_18 rfl (by decide) ?_
  refine sn_iconst (v := (0 : Int32)) (pc' := 20) dX12_book_19 rfl (by decide) ?_
  refine sn_sI (pc' := 21) dX12_book_20 rfl (fun _ => ?_)
  refine sn_aload_n (v := (some this)) (pc' := 22) dX12_book_21 rfl rfl rfl ?_
  refine sn_cV (r := (some this)) (st := []) (As := []) (st2 := (fun _ => [])) (pc' := 25) ci_13 (fun t => c_X12_readGroup G t ) cw_X12_readGroup rfl rfl tw1472 pw50 tw1474 rfl rfl cat_nil rfl (fun _ => rfl) dX12_book_22 rfl (fun _ => ?_)
  exact sn_weak (le_s (le_n (le_n (le_n le_e)))) (s_X12_book_25 G LFU this)
theorem c_X12_book (G : GG) (this : Nat) : Cal G yX12_book cX12_book 4 (some FieldType.int) 11 236 (fun v : Int32 => some (.int v)) (X12_book this) [.ref this] :=
  Cal.of (by decide) (cat_t cat_nil) rfl (sn_weak (le_s (le_z (le_z (le_z le_e)))) (s_X12_book G this))
theorem cw_X12_book : CW yX12_book cX12_book 4 (some FieldType.int) 0 := ⟨tw1449, tw15, by decide, by decide +kernel⟩
/-! X12_faultOfChanges -/
theorem dX12_faultOfChanges_0 : decode cX12_faultOfChanges 0 = .ok (.iconst 0, 1) := by decide +kernel
theorem dX12_faultOfChanges_1 : decode cX12_faultOfChanges 1 = .ok (.istore_n 2, 1) := by decide +kernel
theorem dX12_faultOfChanges_2 : decode cX12_faultOfChanges 2 = .ok (.iload_n 2, 1) := by decide +kernel
theorem dX12_faultOfChanges_3 : decode cX12_faultOfChanges 3 = .ok (.aload_n 0, 1) := by decide +kernel
theorem dX12_faultOfChanges_4 : decode cX12_faultOfChanges 4 = .ok (.getfield 120, 3) := by decide +kernel
theorem dX12_faultOfChanges_7 : decode cX12_faultOfChanges 7 = .ok (.if_icmp .ge 51, 3) := by decide +kernel
theorem dX12_faultOfChanges_10 : decode cX12_faultOfChanges 10 = .ok (.aload_n 0, 1) := by decide +kernel
theorem dX12_faultOfChanges_11 : decode cX12_faultOfChanges 11 = .ok (.iload_n 1, 1) := by decide +kernel
theorem dX12_faultOfChanges_12 : decode cX12_faultOfChanges 12 = .ok (.aload_n 0, 1) := by decide +kernel
theorem dX12_faultOfChanges_13 : decode cX12_faultOfChanges 13 = .ok (.getfield 129, 3) := by decide +kernel
theorem dX12_faultOfChanges_16 : decode cX12_faultOfChanges 16 = .ok (.iload_n 2, 1) := by decide +kernel
theorem dX12_faultOfChanges_17 : decode cX12_faultOfChanges 17 = .ok (.iaload, 1) := by decide +kernel
theorem dX12_faultOfChanges_18 : decode cX12_faultOfChanges 18 = .ok (.invokevirtual 186, 3) := by decide +kernel
theorem dX12_faultOfChanges_21 : decode cX12_faultOfChanges 21 = .ok (.istore_n 3, 1) := by decide +kernel
theorem dX12_faultOfChanges_22 : decode cX12_faultOfChanges 22 = .ok (.iload_n 3, 1) := by decide +kernel
theorem dX12_faultOfChanges_23 : decode cX12_faultOfChanges 23 = .ok (.ifCond .lt 27, 3) := by decide +kernel
theorem dX12_faultOfChanges_26 : decode cX12_faultOfChanges 26 = .ok (.aload_n 0, 1) := by decide +kernel
theorem dX12_faultOfChanges_27 : decode cX12_faultOfChanges 27 = .ok (.getfield 135, 3) := by decide +kernel
theorem dX12_faultOfChanges_30 : decode cX12_faultOfChanges 30 = .ok (.iload_n 2, 1) := by decide +kernel
theorem dX12_faultOfChanges_31 : decode cX12_faultOfChanges 31 = .ok (.iaload, 1) := by decide +kernel
theorem dX12_faultOfChanges_32 : decode cX12_faultOfChanges 32 = .ok (.iconst 1, 1) := by decide +kernel
theorem dX12_faultOfChanges_33 : decode cX12_faultOfChanges 33 = .ok (.aload_n 0, 1) := by decide +kernel
theorem dX12_faultOfChanges_34 : decode cX12_faultOfChanges 34 = .ok (.getfield 24, 3) := by decide +kernel
theorem dX12_faultOfChanges_37 : decode cX12_faultOfChanges 37 = .ok (.iload_n 1, 1) := by decide +kernel
theorem dX12_faultOfChanges_38 : decode cX12_faultOfChanges 38 = .ok (.bipush 71, 2) := by decide +kernel
theorem dX12_faultOfChanges_40 : decode cX12_faultOfChanges 40 = .ok (.imul, 1) := by decide +kernel
theorem dX12_faultOfChanges_41 : decode cX12_faultOfChanges 41 = .ok (.iload_n 3, 1) := by decide +kernel
theorem dX12_faultOfChanges_42 : decode cX12_faultOfChanges 42 = .ok (.iadd, 1) := by decide +kernel
theorem dX12_faultOfChanges_43 : decode cX12_faultOfChanges 43 = .ok (.iaload, 1) := by decide +kernel
theorem dX12_faultOfChanges_44 : decode cX12_faultOfChanges 44 = .ok (.invokestatic 10, 3) := by decide +kernel
theorem dX12_faultOfChanges_47 : decode cX12_faultOfChanges 47 = .ok (.ifCond .ne 5, 3) := by decide +kernel
theorem dX12_faultOfChanges_50 : decode cX12_faultOfChanges 50 = .ok (.iconst 4, 1) := by decide +kernel
theorem dX12_faultOfChanges_51 : decode cX12_faultOfChanges 51 = .ok (.ireturn, 1) := by decide +kernel
theorem dX12_faultOfChanges_52 : decode cX12_faultOfChanges 52 = .ok (.iinc 2 1, 3) := by decide +kernel
theorem dX12_faultOfChanges_55 : decode cX12_faultOfChanges 55 = .ok (.goto (-53), 3) := by decide +kernel
theorem dX12_faultOfChanges_58 : decode cX12_faultOfChanges 58 = .ok (.aload_n 0, 1) := by decide +kernel
theorem dX12_faultOfChanges_59 : decode cX12_faultOfChanges 59 = .ok (.iconst 0, 1) := by decide +kernel
theorem dX12_faultOfChanges_60 : decode cX12_faultOfChanges 60 = .ok (.aload_n 0, 1) := by decide +kernel
theorem dX12_faultOfChanges_61 : decode cX12_faultOfChanges 61 = .ok (.getfield 120, 3) := by decide +kernel
theorem dX12_faultOfChanges_64 : decode cX12_faultOfChanges 64 = .ok (.invokevirtual 176, 3) := by decide +kernel
theorem dX12_faultOfChanges_67 : decode cX12_faultOfChanges 67 = .ok (.ifCond .ne 5, 3) := by decide +kernel
theorem dX12_faultOfChanges_70 : decode cX12_faultOfChanges 70 = .ok (.iconst 5, 1) := by decide +kernel
theorem dX12_faultOfChanges_71 : decode cX12_faultOfChanges 71 = .ok (.ireturn, 1) := by decide +kernel
theorem dX12_faultOfChanges_72 : decode cX12_faultOfChanges 72 = .ok (.aload_n 0, 1) := by decide +kernel
theorem dX12_faultOfChanges_73 : decode cX12_faultOfChanges 73 = .ok (.iconst 0, 1) := by decide +kernel
theorem dX12_faultOfChanges_74 : decode cX12_faultOfChanges 74 = .ok (.aload_n 0, 1) := by decide +kernel
theorem dX12_faultOfChanges_75 : decode cX12_faultOfChanges 75 = .ok (.getfield 120, 3) := by decide +kernel
theorem dX12_faultOfChanges_78 : decode cX12_faultOfChanges 78 = .ok (.invokevirtual 179, 3) := by decide +kernel
theorem dX12_faultOfChanges_81 : decode cX12_faultOfChanges 81 = .ok (.istore_n 2, 1) := by decide +kernel
theorem dX12_faultOfChanges_82 : decode cX12_faultOfChanges 82 = .ok (.iconst 0, 1) := by decide +kernel
theorem dX12_faultOfChanges_83 : decode cX12_faultOfChanges 83 = .ok (.istore_n 3, 1) := by decide +kernel
theorem dX12_faultOfChanges_84 : decode cX12_faultOfChanges 84 = .ok (.iload_n 3, 1) := by decide +kernel
theorem dX12_faultOfChanges_85 : decode cX12_faultOfChanges 85 = .ok (.aload_n 0, 1) := by decide +kernel
theorem dX12_faultOfChanges_86 : decode cX12_faultOfChanges 86 = .ok (.getfield 120, 3) := by decide +kernel
theorem dX12_faultOfChanges_89 : decode cX12_faultOfChanges 89 = .ok (.if_icmp .ge 73, 3) := by decide +kernel
theorem dX12_faultOfChanges_92 : decode cX12_faultOfChanges 92 = .ok (.iload_n 1, 1) := by decide +kernel
theorem dX12_faultOfChanges_93 : decode cX12_faultOfChanges 93 = .ok (.aload_n 0, 1) := by decide +kernel
theorem dX12_faultOfChanges_94 : decode cX12_faultOfChanges 94 = .ok (.iload_n 1, 1) := by decide +kernel
theorem dX12_faultOfChanges_95 : decode cX12_faultOfChanges 95 = .ok (.aload_n 0, 1) := by decide +kernel
theorem dX12_faultOfChanges_96 : decode cX12_faultOfChanges 96 = .ok (.getfield 129, 3) := by decide +kernel
theorem dX12_faultOfChanges_99 : decode cX12_faultOfChanges 99 = .ok (.iload_n 3, 1) := by decide +kernel
theorem dX12_faultOfChanges_100 : decode cX12_faultOfChanges 100 = .ok (.iaload, 1) := by decide +kernel
theorem dX12_faultOfChanges_101 : decode cX12_faultOfChanges 101 = .ok (.invokevirtual 186, 3) := by decide +kernel
theorem dX12_faultOfChanges_104 : decode cX12_faultOfChanges 104 = .ok (.aload_n 0, 1) := by decide +kernel
theorem dX12_faultOfChanges_105 : decode cX12_faultOfChanges 105 = .ok (.getfield 135, 3) := by decide +kernel
theorem dX12_faultOfChanges_108 : decode cX12_faultOfChanges 108 = .ok (.iload_n 3, 1) := by decide +kernel
theorem dX12_faultOfChanges_109 : decode cX12_faultOfChanges 109 = .ok (.iaload, 1) := by decide +kernel
theorem dX12_faultOfChanges_110 : decode cX12_faultOfChanges 110 = .ok (.invokestatic 27, 3) := by decide +kernel
theorem dX12_faultOfChanges_113 : decode cX12_faultOfChanges 113 = .ok (.istore 4, 2) := by decide +kernel
theorem dX12_faultOfChanges_115 : decode cX12_faultOfChanges 115 = .ok (.iload_n 2, 1) := by decide +kernel
theorem dX12_faultOfChanges_116 : decode cX12_faultOfChanges 116 = .ok (.ifCond .ne 34, 3) := by decide +kernel
theorem dX12_faultOfChanges_119 : decode cX12_faultOfChanges 119 = .ok (.aload_n 0, 1) := by decide +kernel
theorem dX12_faultOfChanges_120 : decode cX12_faultOfChanges 120 = .ok (.getfield 123, 3) := by decide +kernel
theorem dX12_faultOfChanges_123 : decode cX12_faultOfChanges 123 = .ok (.iload_n 3, 1) := by decide +kernel
theorem dX12_faultOfChanges_124 : decode cX12_faultOfChanges 124 = .ok (.iaload, 1) := by decide +kernel
theorem dX12_faultOfChanges_125 : decode cX12_faultOfChanges 125 = .ok (.bipush 43, 2) := by decide +kernel
theorem dX12_faultOfChanges_127 : decode cX12_faultOfChanges 127 = .ok (.if_icmp .ne 13, 3) := by decide +kernel
theorem dX12_faultOfChanges_130 : decode cX12_faultOfChanges 130 = .ok (.aload_n 0, 1) := by decide +kernel
theorem dX12_faultOfChanges_131 : decode cX12_faultOfChanges 131 = .ok (.getfield 34, 3) := by decide +kernel
theorem dX12_faultOfChanges_134 : decode cX12_faultOfChanges 134 = .ok (.iload 4, 2) := by decide +kernel
theorem dX12_faultOfChanges_136 : decode cX12_faultOfChanges 136 = .ok (.iaload, 1) := by decide +kernel
theorem dX12_faultOfChanges_137 : decode cX12_faultOfChanges 137 = .ok (.goto 10, 3) := by decide +kernel
theorem dX12_faultOfChanges_140 : decode cX12_faultOfChanges 140 = .ok (.aload_n 0, 1) := by decide +kernel
theorem dX12_faultOfChanges_141 : decode cX12_faultOfChanges 141 = .ok (.getfield 31, 3) := by decide +kernel
theorem dX12_faultOfChanges_144 : decode cX12_faultOfChanges 144 = .ok (.iload 4, 2) := by decide +kernel
theorem dX12_faultOfChanges_146 : decode cX12_faultOfChanges 146 = .ok (.iaload, 1) := by decide +kernel
theorem dX12_faultOfChanges_147 : decode cX12_faultOfChanges 147 = .ok (.ifCond .le 7, 3) := by decide +kernel
theorem dX12_faultOfChanges_150 : decode cX12_faultOfChanges 150 = .ok (.iconst 1, 1) := by decide +kernel
theorem dX12_faultOfChanges_151 : decode cX12_faultOfChanges 151 = .ok (.goto 4, 3) := by decide +kernel
theorem dX12_faultOfChanges_154 : decode cX12_faultOfChanges 154 = .ok (.iconst 0, 1) := by decide +kernel
theorem dX12_faultOfChanges_155 : decode cX12_faultOfChanges 155 = .ok (.istore_n 2, 1) := by decide +kernel
theorem dX12_faultOfChanges_156 : decode cX12_faultOfChanges 156 = .ok (.iinc 3 1, 3) := by decide +kernel
theorem dX12_faultOfChanges_159 : decode cX12_faultOfChanges 159 = .ok (.goto (-75), 3) := by decide +kernel
theorem dX12_faultOfChanges_162 : decode cX12_faultOfChanges 162 = .ok (.iload_n 2, 1) := by decide +kernel
theorem dX12_faultOfChanges_163 : decode cX12_faultOfChanges 163 = .ok (.ifCond .eq 8, 3) := by decide +kernel
theorem dX12_faultOfChanges_166 : decode cX12_faultOfChanges 166 = .ok (.bipush 6, 2) := by decide +kernel
theorem dX12_faultOfChanges_168 : decode cX12_faultOfChanges 168 = .ok (.goto 4, 3) := by decide +kernel
theorem dX12_faultOfChanges_171 : decode cX12_faultOfChanges 171 = .ok (.iconst 0, 1) := by decide +kernel
theorem dX12_faultOfChanges_172 : decode cX12_faultOfChanges 172 = .ok (.ireturn, 1) := by decide +kernel
def X12_faultOfChanges_155 (k84 : Nat → Int32 → Int32 → Int32 → MM Int32) (this : Nat) (x1 : Int32) (x3 : Int32) (y0 : Int32) : MM Int32 :=
  (k84 this x1 y0 (x3 + (1 : Int32)))
def X12_faultOfChanges_150 (k84 : Nat → Int32 → Int32 → Int32 → MM Int32) (this : Nat) (x1 : Int32) (x3 : Int32) : MM Int32 :=
  (X12_faultOfChanges_155 k84 this x1 x3 (1 : Int32))
def X12_faultOfChanges_147 (k84 : Nat → Int32 → Int32 → Int32 → MM Int32) (this : Nat) (x1 : Int32) (x3 : Int32) (y0 : Int32) : MM Int32 :=
  if y0 ≤ 0 then ((X12_faultOfChanges_155 k84 this x1 x3 (0 : Int32))) else ((X12_faultOfChanges_150 k84 this x1 x3))
def X12_faultOfChanges_162  (x2 : Int32) : MM Int32 :=
  if x2 = 0 then (mr (0 : Int32)) else (mr (6 : Int32))
def X12_faultOfChanges_84_st  (k84 : Nat → Int32 → Int32 → Int32 → MM Int32) (this : Nat) (x1 : Int32) (x2 : Int32) (x3 : Int32) : MM Int32 :=
  mb (gI 13 (some this) 25) fun v1 =>
  if v1 ≤ x3 then ((X12_faultOfChanges_162 x2)) else (mb (gR 13 (some this) 33) fun v2 =>
  mb (aI v2 x3) fun v3 =>
  mb (wc 13 (some this) fun t => X12_gatheringOf t x1 v3) fun v4 =>
  mb (gR 13 (some this) 34) fun v5 =>
  mb (aI v5 x3) fun v6 =>
  mb (X12_spot x1 v4 v6) fun v7 =>
  if x2 = 0 then (mb (gR 13 (some this) 32) fun v8 =>
  mb (aI v8 x3) fun v9 =>
  if v9 = (43 : Int32) then (mb (gR 13 (some this) 10) fun v10 =>
  mb (aI v10 v7) fun v11 =>
  (X12_faultOfChanges_147 k84 this x1 x3 v11)) else (mb (gR 13 (some this) 9) fun v12 =>
  mb (aI v12 v7) fun v13 =>
  (X12_faultOfChanges_147 k84 this x1 x3 v13))) else ((X12_faultOfChanges_150 k84 this x1 x3)))
def X12_faultOfChanges_84  : Nat → Nat → Int32 → Int32 → Int32 → MM Int32
  | 0 => fun _ _ _ _ => mf
  | n + 1 => fun this x1 x2 x3 => X12_faultOfChanges_84_st  (X12_faultOfChanges_84  n) this x1 x2 x3
def X12_faultOfChanges_58  (this : Nat) (x1 : Int32) : MM Int32 :=
  mb (gI 13 (some this) 25) fun v1 =>
  mb (wc 13 (some this) fun t => X12_isFewPut t (0 : Int32) v1) fun v2 =>
  if v2 = 0 then (mr (5 : Int32)) else (mb (gI 13 (some this) 25) fun v3 =>
  mb (wc 13 (some this) fun t => X12_isTwice t (0 : Int32) v3) fun v4 =>
  (X12_faultOfChanges_84 LFU this x1 v4 (0 : Int32)))
def X12_faultOfChanges_2_st  (k2 : Nat → Int32 → Int32 → MM Int32) (this : Nat) (x1 : Int32) (x2 : Int32) : MM Int32 :=
  mb (gI 13 (some this) 25) fun v1 =>
  if v1 ≤ x2 then ((X12_faultOfChanges_58 this x1)) else (mb (gR 13 (some this) 33) fun v2 =>
  mb (aI v2 x2) fun v3 =>
  mb (wc 13 (some this) fun t => X12_gatheringOf t x1 v3) fun v4 =>
  if v4 < 0 then (mr (4 : Int32)) else (mb (gR 13 (some this) 34) fun v5 =>
  mb (aI v5 x2) fun v6 =>
  mb (gR 13 (some this) 8) fun v7 =>
  mb (aI v7 ((x1 * (71 : Int32)) + v4)) fun v8 =>
  mb (X12_isIn v6 (1 : Int32) v8) fun v9 =>
  if v9 = 0 then (mr (4 : Int32)) else ((k2 this x1 (x2 + (1 : Int32))))))
def X12_faultOfChanges_2  : Nat → Nat → Int32 → Int32 → MM Int32
  | 0 => fun _ _ _ => mf
  | n + 1 => fun this x1 x2 => X12_faultOfChanges_2_st  (X12_faultOfChanges_2  n) this x1 x2
def X12_faultOfChanges (this : Nat) (a1 : Int32) : MM Int32 :=
  (X12_faultOfChanges_2 LFU this a1 (0 : Int32))
set_option maxRecDepth 100000 in
set_option maxHeartbeats 4000000 in
theorem s_X12_faultOfChanges_155 (G : GG) (k84 : Nat → Int32 → Int32 → Int32 → MM Int32) (hk84 : ∀ (this : Nat) (x1 : Int32) (x2 : Int32) (x3 : Int32), Sn G yX12_faultOfChanges cX12_faultOfChanges 5 (some FieldType.int) 2 46 (fun v : Int32 => some (.int v)) (k84 this x1 x2 x3) 84 [some (va_rf (some this)), some (.int x1), some (.int x2), some (.int x3), none] []) (this : Nat) (x1 : Int32) (x3 : Int32) (y0 : Int32) : Sn G yX12_faultOfChanges cX12_faultOfChanges 5 (some FieldType.int) 2 46 (fun v : Int32 => some (.int v)) (X12_faultOfChanges_155 k84 this x1 x3 y0) 155 [some (va_rf (some this)), some (.int x1), none, some (.int x3), none] [.int y0] := by
  unfold X12_faultOfChanges_155
  refine sn_istore_n (v := y0) (L' := [some (va_rf (some this)), some (.int x1), some (.int y0), some (.int x3), none]) (pc' := 156) dX12_faultOfChanges_155 rfl rfl rfl rfl ?_
  refine sn_iinc (v := x3) (w := 1) (L' := [some (va_rf (some this)), some (.int x1), some (.int y0), some (.int (x3 + (1 : Int32))), none]) (pc' := 159) dX12_faultOfChanges_156 rfl rfl rfl (by decide) rfl ?_
  refine sn_goto (pc' := 84) dX12_faultOfChanges_159 rfl ?_
  exact sn_weak (le_s (le_s (le_s (le_s (le_n le_e))))) (hk84 this x1 y0 (x3 + (1 : Int32)))
set_option maxRecDepth 100000 in
set_option maxHeartbeats 4000000 in
theorem s_X12_faultOfChanges_150 (G : GG) (k84 : Nat → Int32 → Int32 → Int32 → MM Int32) (hk84 : ∀ (this : Nat) (x1 : Int32) (x2 : Int32) (x3 : Int32), Sn G yX12_faultOfChanges cX12_faultOfChanges 5 (some FieldType.int) 2 46 (fun v : Int32 => some (.int v)) (k84 this x1 x2 x3) 84 [some (va_rf (some this)), some (.int x1), some (.int x2), some (.int x3), none] []) (this : Nat) (x1 : Int32) (x3 : Int32) : Sn G yX12_faultOfChanges cX12_faultOfChanges 5 (some FieldType.int) 2 46 (fun v : Int32 => some (.int v)) (X12_faultOfChanges_150 k84 this x1 x3) 150 [some (va_rf (some this)), some (.int x1), none, some (.int x3), none] [] := by
  unfold X12_faultOfChanges_150
  refine sn_iconst (v := (1 : Int32)) (pc' := 151) dX12_faultOfChanges_150 rfl (by decide) ?_
  refine sn_goto (pc' := 155) dX12_faultOfChanges_151 rfl ?_
  exact sn_weak (le_s (le_s (le_n (le_s (le_n le_e))))) (s_X12_faultOfChanges_155 G k84 hk84 this x1 x3 (1 : Int32))
set_option maxRecDepth 100000 in
set_option maxHeartbeats 4000000 in
theorem s_X12_faultOfChanges_147 (G : GG) (k84 : Nat → Int32 → Int32 → Int32 → MM Int32) (hk84 : ∀ (this : Nat) (x1 : Int32) (x2 : Int32) (x3 : Int32), Sn G yX12_faultOfChanges cX12_faultOfChanges 5 (some FieldType.int) 2 46 (fun v : Int32 => some (.int v)) (k84 this x1 x2 x3) 84 [some (va_rf (some this)), some (.int x1), some (.int x2), some (.int x3), none] []) (this : Nat) (x1 : Int32) (x3 : Int32) (y0 : Int32) : Sn G yX12_faultOfChanges cX12_faultOfChanges 5 (some FieldType.int) 2 46 (fun v : Int32 => some (.int v)) (X12_faultOfChanges_147 k84 this x1 x3 y0) 147 [some (va_rf (some this)), some (.int x1), none, some (.int x3), none] [.int y0] := by
  unfold X12_faultOfChanges_147
  refine sn_if_le (pt := 154) (pf := 150) dX12_faultOfChanges_147 rfl rfl ?_ ?_
  · refine sn_iconst (v := (0 : Int32)) (pc' := 155) dX12_faultOfChanges_154 rfl (by decide) ?_
    exact sn_weak (le_s (le_s (le_n (le_s (le_n le_e))))) (s_X12_faultOfChanges_155 G k84 hk84 this x1 x3 (0 : Int32))
  · exact sn_weak (le_s (le_s (le_n (le_s (le_n le_e))))) (s_X12_faultOfChanges_150 G k84 hk84 this x1 x3)
set_option maxRecDepth 100000 in
set_option maxHeartbeats 4000000 in
theorem s_X12_faultOfChanges_162 (G : GG)   (x2 : Int32) : Sn G yX12_faultOfChanges cX12_faultOfChanges 5 (some FieldType.int) 2 46 (fun v : Int32 => some (.int v)) (X12_faultOfChanges_162  x2) 162 [none, none, some (.int x2), none, none] [] := by
  unfold X12_faultOfChanges_162
  refine sn_iload_n (v := x2) (pc' := 163) dX12_faultOfChanges_162 rfl rfl rfl ?_
  refine sn_if_eq (pt := 171) (pf := 166) dX12_faultOfChanges_163 rfl rfl ?_ ?_
  · refine sn_iconst (v := (0 : Int32)) (pc' := 172) dX12_faultOfChanges_171 rfl (by decide) ?_
    exact sn_iret dX12_faultOfChanges_172 rfl rfl
  · refine sn_bipush (v := (6 : Int32)) (pc' := 168) dX12_faultOfChanges_166 rfl (by decide) ?_
    refine sn_goto (pc' := 172) dX12_faultOfChanges_168 rfl ?_
    exact sn_iret dX12_faultOfChanges_172 rfl rfl
set_option maxRecDepth 100000 in
set_option maxHeartbeats 4000000 in
theorem s_X12_faultOfChanges_84_st (G : GG)   (k84 : Nat → Int32 → Int32 → Int32 → MM Int32) (hk84 : ∀ (this : Nat) (x1 : Int32) (x2 : Int32) (x3 : Int32), Sn G yX12_faultOfChanges cX12_faultOfChanges 5 (some FieldType.int) 2 46 (fun v : Int32 => some (.int v)) (k84 this x1 x2 x3) 84 [some (va_rf (some this)), some (.int x1), some (.int x2), some (.int x3), none] []) (this : Nat) (x1 : Int32) (x2 : Int32) (x3 : Int32) : Sn G yX12_faultOfChanges cX12_faultOfChanges 5 (some FieldType.int) 2 46 (fun v : Int32 => some (.int v)) (X12_faultOfChanges_84_st  k84 this x1 x2 x3) 84 [some (va_rf (some this)), some (.int x1), some (.int x2), some (.int x3), none] [] := by
  unfold X12_faultOfChanges_84_st
  refine sn_iload_n (v := x3) (pc' := 85) dX12_faultOfChanges_84 rfl rfl rfl ?_
  refine sn_aload_n (v := (some this)) (pc' := 86) dX12_faultOfChanges_85 rfl rfl rfl ?_
  refine sn_gI (k := 25) (pc' := 89) ci_13 rfl (Or.inl tw1303) dX12_faultOfChanges_86 rfl (fun v1 => ?_)
  refine sn_ic_ge (pt := 162) (pf := 92) dX12_faultOfChanges_89 rfl rfl ?_ ?_
  · exact sn_weak (le_n (le_n (le_s (le_n (le_n le_e))))) (s_X12_faultOfChanges_162 G x2)
  · refine sn_iload_n (v := x1) (pc' := 93) dX12_faultOfChanges_92 rfl rfl rfl ?_
    refine sn_aload_n (v := (some this)) (pc' := 94) dX12_faultOfChanges_93 rfl rfl rfl ?_
    refine sn_iload_n (v := x1) (pc' := 95) dX12_faultOfChanges_94 rfl rfl rfl ?_
    refine sn_aload_n (v := (some this)) (pc' := 96) dX12_faultOfChanges_95 rfl rfl rfl ?_
    refine sn_gR (k := 33) (pc' := 99) ci_13 rfl (Or.inl tw1311) dX12_faultOfChanges_96 rfl (fun v2 => ?_)
    refine sn_iload_n (v := x3) (pc' := 100) dX12_faultOfChanges_99 rfl rfl rfl ?_
    refine sn_aI (pc' := 101) dX12_faultOfChanges_100 rfl (fun v3 => ?_)
    refine sn_cV (r := (some this)) (st := [.int x1]) (As := [.int x1, .int v3]) (st2 := (fun v => .int v :: [.int x1])) (pc' := 104) ci_13 (fun t => c_X12_gatheringOf G t x1 v3) cw_X12_gatheringOf rfl rfl tw1534 pw64 tw1536 rfl rfl (cat_i cat_nil) rfl (fun _ => rfl) dX12_faultOfChanges_101 rfl (fun v4 => ?_)
    refine sn_aload_n (v := (some this)) (pc' := 105) dX12_faultOfChanges_104 rfl rfl rfl ?_
    refine sn_gR (k := 34) (pc' := 108) ci_13 rfl (Or.inl tw1312) dX12_faultOfChanges_105 rfl (fun v5 => ?_)
    refine sn_iload_n (v := x3) (pc' := 109) dX12_faultOfChanges_108 rfl rfl rfl ?_
    refine sn_aI (pc' := 110) dX12_faultOfChanges_109 rfl (fun v6 => ?_)
    refine sn_cS (st := []) (As := [.int x1, .int v4, .int v6]) (st2 := (fun v => .int v :: [])) (pc' := 113) (c_X12_spot G x1 v4 v6) cw_X12_spot rfl rfl tw1527 tw1528 rfl rfl cat_nil rfl (fun _ => rfl) dX12_faultOfChanges_110 rfl (fun v7 => ?_)
    refine sn_istore (v := v7) (L' := [some (va_rf (some this)), some (.int x1), some (.int x2), some (.int x3), some (.int v7)]) (pc' := 115) dX12_faultOfChanges_113 rfl rfl rfl ?_
    refine sn_iload_n (v := x2) (pc' := 116) dX12_faultOfChanges_115 rfl rfl rfl ?_
    refine sn_if_ne (pt := 150) (pf := 119) dX12_faultOfChanges_116 rfl rfl ?_ ?_
    · refine sn_aload_n (v := (some this)) (pc' := 120) dX12_faultOfChanges_119 rfl rfl rfl ?_
      refine sn_gR (k := 32) (pc' := 123) ci_13 rfl (Or.inl tw1310) dX12_faultOfChanges_120 rfl (fun v8 => ?_)
      refine sn_iload_n (v := x3) (pc' := 124) dX12_faultOfChanges_123 rfl rfl rfl ?_
      refine sn_aI (pc' := 125) dX12_faultOfChanges_124 rfl (fun v9 => ?_)
      refine sn_bipush (v := (43 : Int32)) (pc' := 127) dX12_faultOfChanges_125 rfl (by decide) ?_
      refine sn_ic_ne (pt := 140) (pf := 130) dX12_faultOfChanges_127 rfl rfl ?_ ?_
      · refine sn_aload_n (v := (some this)) (pc' := 131) dX12_faultOfChanges_130 rfl rfl rfl ?_
        refine sn_gR (k := 10) (pc' := 134) ci_13 rfl (Or.inl tw1288) dX12_faultOfChanges_131 rfl (fun v10 => ?_)
        refine sn_iload (v := v7) (pc' := 136) dX12_faultOfChanges_134 rfl rfl ?_
        refine sn_aI (pc' := 137) dX12_faultOfChanges_136 rfl (fun v11 => ?_)
        refine sn_goto (pc' := 147) dX12_faultOfChanges_137 rfl ?_
        exact sn_weak (le_s (le_s (le_n (le_s (le_n le_e))))) (s_X12_faultOfChanges_147 G k84 hk84 this x1 x3 v11)
      · refine sn_aload_n (v := (some this)) (pc' := 141) dX12_faultOfChanges_140 rfl rfl rfl ?_
        refine sn_gR (k := 9) (pc' := 144) ci_13 rfl (Or.inl tw1287) dX12_faultOfChanges_141 rfl (fun v12 => ?_)
        refine sn_iload (v := v7) (pc' := 146) dX12_faultOfChanges_144 rfl rfl ?_
        refine sn_aI (pc' := 147) dX12_faultOfChanges_146 rfl (fun v13 => ?_)
        exact sn_weak (le_s (le_s (le_n (le_s (le_n le_e))))) (s_X12_faultOfChanges_147 G k84 hk84 this x1 x3 v13)
    · exact sn_weak (le_s (le_s (le_n (le_s (le_n le_e))))) (s_X12_faultOfChanges_150 G k84 hk84 this x1 x3)
set_option maxRecDepth 100000 in
set_option maxHeartbeats 4000000 in
theorem s_X12_faultOfChanges_84 (G : GG)   : ∀ (n : Nat) (this : Nat) (x1 : Int32) (x2 : Int32) (x3 : Int32), Sn G yX12_faultOfChanges cX12_faultOfChanges 5 (some FieldType.int) 2 46 (fun v : Int32 => some (.int v)) (X12_faultOfChanges_84  n this x1 x2 x3) 84 [some (va_rf (some this)), some (.int x1), some (.int x2), some (.int x3), none] [] := by
  intro n
  induction n with
  | zero => intro this x1 x2 x3; exact sn_mf
  | succ n ih => intro this x1 x2 x3; exact s_X12_faultOfChanges_84_st G   (X12_faultOfChanges_84  n) ih this x1 x2 x3
set_option maxRecDepth 100000 in
set_option maxHeartbeats 4000000 in
theorem s_X12_faultOfChanges_58 (G : GG)   (this : Nat) (x1 : Int32) : Sn G yX12_faultOfChanges cX12_faultOfChanges 5 (some FieldType.int) 2 46 (fun v : Int32 => some (.int v)) (X12_faultOfChanges_58  this x1) 58 [some (va_rf (some this)), some (.int x1), none, none, none] [] := by
  unfold X12_faultOfChanges_58
  refine sn_aload_n (v := (some this)) (pc' := 59) dX12_faultOfChanges_58 rfl rfl rfl ?_
  refine sn_iconst (v := (0 : Int32)) (pc' := 60) dX12_faultOfChanges_59 rfl (by decide) ?_
  refine sn_aload_n (v := (some this)) (pc' := 61) dX12_faultOfChanges_60 rfl rfl rfl ?_
  refine sn_gI (k := 25) (pc' := 64) ci_13 rfl (Or.inl tw1303) dX12_faultOfChanges_61 rfl (fun v1 => ?_)
  refine sn_cV (r := (some this)) (st := []) (As := [.int (0 : Int32), .int v1]) (st2 := (fun v => .int v :: [])) (pc' := 67) ci_13 (fun t => c_X12_isFewPut G t (0 : Int32) v1) cw_X12_isFewPut rfl rfl tw1515 pw60 tw1517 rfl rfl cat_nil rfl (fun _ => rfl) dX12_faultOfChanges_64 rfl (fun v2 => ?_)
  refine sn_if_ne (pt := 72) (pf := 70) dX12_faultOfChanges_67 rfl rfl ?_ ?_
  · refine sn_iconst (v := (5 : Int32)) (pc' := 71) dX12_faultOfChanges_70 rfl (by decide) ?_
    exact sn_iret dX12_faultOfChanges_71 rfl rfl
  · refine sn_aload_n (v := (some this)) (pc' := 73) dX12_faultOfChanges_72 rfl rfl rfl ?_
    refine sn_iconst (v := (0 : Int32)) (pc' := 74) dX12_faultOfChanges_73 rfl (by decide) ?_
    refine sn_aload_n (v := (some this)) (pc' := 75) dX12_faultOfChanges_74 rfl rfl rfl ?_
    refine sn_gI (k := 25) (pc' := 78) ci_13 rfl (Or.inl tw1303) dX12_faultOfChanges_75 rfl (fun v3 => ?_)
    refine sn_cV (r := (some this)) (st := []) (As := [.int (0 : Int32), .int v3]) (st2 := (fun v => .int v :: [])) (pc' := 81) ci_13 (fun t => c_X12_isTwice G t (0 : Int32) v3) cw_X12_isTwice rfl rfl tw1519 pw61 tw1521 rfl rfl cat_nil rfl (fun _ => rfl) dX12_faultOfChanges_78 rfl (fun v4 => ?_)
    refine sn_istore_n (v := v4) (L' := [some (va_rf (some this)), some (.int x1), some (.int v4), none, none]) (pc' := 82) dX12_faultOfChanges_81 rfl rfl rfl rfl ?_
    refine sn_iconst (v := (0 : Int32)) (pc' := 83) dX12_faultOfChanges_82 rfl (by decide) ?_
    refine sn_istore_n (v := (0 : Int32)) (L' := [some (va_rf (some this)), some (.int x1), some (.int v4), some (.int (0 : Int32)), none]) (pc' := 84) dX12_faultOfChanges_83 rfl rfl rfl rfl ?_
    exact sn_weak (le_s (le_s (le_s (le_s (le_n le_e))))) (s_X12_faultOfChanges_84 G LFU this x1 v4 (0 : Int32))
set_option maxRecDepth 100000 in
set_option maxHeartbeats 4000000 in
theorem s_X12_faultOfChanges_2_st (G : GG)   (k2 : Nat → Int32 → Int32 → MM Int32) (hk2 : ∀ (this : Nat) (x1 : Int32) (x2 : Int32), Sn G yX12_faultOfChanges cX12_faultOfChanges 5 (some FieldType.int) 2 46 (fun v : Int32 => some (.int v)) (k2 this x1 x2) 2 [some (va_rf (some this)), some (.int x1), some (.int x2), none, none] []) (this : Nat) (x1 : Int32) (x2 : Int32) : Sn G yX12_faultOfChanges cX12_faultOfChanges 5 (some FieldType.int) 2 46 (fun v : Int32 => some (.int v)) (X12_faultOfChanges_2_st  k2 this x1 x2) 2 [some (va_rf (some this)), some (.int x1), some (.int x2), none, none] [] := by
  unfold X12_faultOfChanges_2_st
  refine sn_iload_n (v := x2) (pc' := 3) dX12_faultOfChanges_2 rfl rfl rfl ?_
  refine sn_aload_n (v := (some this)) (pc' := 4) dX12_faultOfChanges_3 rfl rfl rfl ?_
  refine sn_gI (k := 25) (pc' := 7) ci_13 rfl (Or.inl tw1303) dX12_faultOfChanges_4 rfl (fun v1 => ?_)
  refine sn_ic_ge (pt := 58) (pf := 10) dX12_faultOfChanges_7 rfl rfl ?_ ?_
  · exact sn_weak (le_s (le_s (le_n (le_n (le_n le_e))))) (s_X12_faultOfChanges_58 G this x1)
  · refine sn_aload_n (v := (some this)) (pc' := 11) dX12_faultOfChanges_10 rfl rfl rfl ?_
    refine sn_iload_n (v := x1) (pc' := 12) dX12_faultOfChanges_11 rfl rfl rfl ?_
    refine sn_aload_n (v := (some this)) (pc' := 13) dX12_faultOfChanges_12 rfl rfl rfl ?_
    refine sn_gR (k := 33) (pc' := 16) ci_13 rfl (Or.inl tw1311) dX12_faultOfChanges_13 rfl (fun v2 => ?_)
    refine sn_iload_n (v := x2) (pc' := 17) dX12_faultOfChanges_16 rfl rfl rfl ?_
    refine sn_aI (pc' := 18) dX12_faultOfChanges_17 rfl (fun v3 => ?_)
    refine sn_cV (r := (some this)) (st := []) (As := [.int x1, .int v3]) (st2 := (fun v => .int v :: [])) (pc' := 21) ci_13 (fun t => c_X12_gatheringOf G t x1 v3) cw_X12_gatheringOf rfl rfl tw1534 pw64 tw1536 rfl rfl cat_nil rfl (fun _ => rfl) dX12_faultOfChanges_18 rfl (fun v4 => ?_)
    refine sn_istore_n (v := v4) (L' := [some (va_rf (some this)), some (.int x1), some (.int x2), some (.int v4), none]) (pc' := 22) dX12_faultOfChanges_21 rfl rfl rfl rfl ?_
    refine sn_iload_n (v := v4) (pc' := 23) dX12_faultOfChanges_22 rfl rfl rfl ?_
    refine sn_if_lt (pt := 50) (pf := 26) dX12_faultOfChanges_23 rfl rfl ?_ ?_
    · refine sn_iconst (v := (4 : Int32)) (pc' := 51) dX12_faultOfChanges_50 rfl (by decide) ?_
      exact sn_iret dX12_faultOfChanges_51 rfl rfl
    · refine sn_aload_n (v := (some this)) (pc' := 27) dX12_faultOfChanges_26 rfl rfl rfl ?_
      refine sn_gR (k := 34) (pc' := 30) ci_13 rfl (Or.inl tw1312) dX12_faultOfChanges_27 rfl (fun v5 => ?_)
      refine sn_iload_n (v := x2) (pc' := 31) dX12_faultOfChanges_30 rfl rfl rfl ?_
      refine sn_aI (pc' := 32) dX12_faultOfChanges_31 rfl (fun v6 => ?_)
      refine sn_iconst (v := (1 : Int32)) (pc' := 33) dX12_faultOfChanges_32 rfl (by decide) ?_
      refine sn_aload_n (v := (some this)) (pc' := 34) dX12_faultOfChanges_33 rfl rfl rfl ?_
      refine sn_gR (k := 8) (pc' := 37) ci_13 rfl (Or.inl tw1286) dX12_faultOfChanges_34 rfl (fun v7 => ?_)
      refine sn_iload_n (v := x1) (pc' := 38) dX12_faultOfChanges_37 rfl rfl rfl ?_
      refine sn_bipush (v := (71 : Int32)) (pc' := 40) dX12_faultOfChanges_38 rfl (by decide) ?_
      refine sn_imul (pc' := 41) dX12_faultOfChanges_40 rfl ?_
      refine sn_iload_n (v := v4) (pc' := 42) dX12_faultOfChanges_41 rfl rfl rfl ?_
      refine sn_iadd (pc' := 43) dX12_faultOfChanges_42 rfl ?_
      refine sn_aI (pc' := 44) dX12_faultOfChanges_43 rfl (fun v8 => ?_)
      refine sn_cS (st := []) (As := [.int v6, .int (1 : Int32), .int v8]) (st2 := (fun v => .int v :: [])) (pc' := 47) (c_X12_isIn G v6 (1 : Int32) v8) cw_X12_isIn rfl rfl tw1443 tw1444 rfl rfl cat_nil rfl (fun _ => rfl) dX12_faultOfChanges_44 rfl (fun v9 => ?_)
      refine sn_if_ne (pt := 52) (pf := 50) dX12_faultOfChanges_47 rfl rfl ?_ ?_
      · refine sn_iconst (v := (4 : Int32)) (pc' := 51) dX12_faultOfChanges_50 rfl (by decide) ?_
        exact sn_iret dX12_faultOfChanges_51 rfl rfl
      · refine sn_iinc (v := x2) (w := 1) (L' := [some (va_rf (some this)), some (.int x1), some (.int (x2 + (1 : Int32))), some (.int v4), none]) (pc' := 55) dX12_faultOfChanges_52 rfl rfl rfl (by decide) rfl ?_
        refine sn_goto (pc' := 2) dX12_faultOfChanges_55 rfl ?_
        exact sn_weak (le_s (le_s (le_s (le_n (le_n le_e))))) (hk2 this x1 (x2 + (1 : Int32)))
set_option maxRecDepth 100000 in
set_option maxHeartbeats 4000000 in
theorem s_X12_faultOfChanges_2 (G : GG)   : ∀ (n : Nat) (this : Nat) (x1 : Int32) (x2 : Int32), Sn G yX12_faultOfChanges cX12_faultOfChanges 5 (some FieldType.int) 2 46 (fun v : Int32 => some (.int v)) (X12_faultOfChanges_2  n this x1 x2) 2 [some (va_rf (some this)), some (.int x1), some (.int x2), none, none] [] := by
  intro n
  induction n with
  | zero => intro this x1 x2; exact sn_mf
  | succ n ih => intro this x1 x2; exact s_X12_faultOfChanges_2_st G   (X12_faultOfChanges_2  n) ih this x1 x2
set_option maxRecDepth 100000 in
set_option maxHeartbeats 4000000 in
theorem s_X12_faultOfChanges (G : GG) (this : Nat) (a1 : Int32) : Sn G yX12_faultOfChanges cX12_faultOfChanges 5 (some FieldType.int) 2 46 (fun v : Int32 => some (.int v)) (X12_faultOfChanges this a1) 0 [some (va_rf (some this)), some (.int a1), none, none, none] [] := by
  unfold X12_faultOfChanges
  refine sn_iconst (v := (0 : Int32)) (pc' := 1) dX12_faultOfChanges_0 rfl (by decide) ?_
  refine sn_istore_n (v := (0 : Int32)) (L' := [some (va_rf (some this)), some (.int a1), some (.int (0 : Int32)), none, none]) (pc' := 2) dX12_faultOfChanges_1 rfl rfl rfl rfl ?_
  exact sn_weak (le_s (le_s (le_s (le_n (le_n le_e))))) (s_X12_faultOfChanges_2 G LFU this a1 (0 : Int32))
theorem c_X12_faultOfChanges (G : GG) (this : Nat) (a1 : Int32) : Cal G yX12_faultOfChanges cX12_faultOfChanges 5 (some FieldType.int) 2 46 (fun v : Int32 => some (.int v)) (X12_faultOfChanges this a1) [.ref this, .int a1] :=
  Cal.of (by decide) (cat_t (cat_i cat_nil)) rfl (sn_weak (le_s (le_s (le_z (le_z (le_z le_e))))) (s_X12_faultOfChanges G this a1))
theorem cw_X12_faultOfChanges : CW yX12_faultOfChanges cX12_faultOfChanges 5 (some FieldType.int) 1 := ⟨tw1561, tw15, by decide, by decide +kernel⟩
/-! X12_change -/
theorem dX12_change_0 : decode cX12_change 0 = .ok (.aload_n 0, 1) := by decide +kernel
theorem dX12_change_1 : decode cX12_change 1 = .ok (.iload_n 1, 1) := by decide +kernel
theorem dX12_change_2 : decode cX12_change 2 = .ok (.invokevirtual 333, 3) := by decide +kernel
theorem dX12_change_5 : decode cX12_change 5 = .ok (.ifCond .ne 14, 3) := by decide +kernel
theorem dX12_change_8 : decode cX12_change 8 = .ok (.aload_n 0, 1) := by decide +kernel
theorem dX12_change_9 : decode cX12_change 9 = .ok (.iconst 0, 1) := by decide +kernel
theorem dX12_change_10 : decode cX12_change 10 = .ok (.putfield 90, 3) := by decide +kernel
theorem dX12_change_13 : decode cX12_change 13 = .ok (.aload_n 0, 1) := by decide +kernel
theorem dX12_change_14 : decode cX12_change 14 = .ok (.iconst 1, 1) := by decide +kernel
theorem dX12_change_15 : decode cX12_change 15 = .ok (.invokevirtual 193, 3) := by decide +kernel
theorem dX12_change_18 : decode cX12_change 18 = .ok (.ireturn, 1) := by decide +kernel
theorem dX12_change_19 : decode cX12_change 19 = .ok (.aload_n 0, 1) := by decide +kernel
theorem dX12_change_20 : decode cX12_change 20 = .ok (.invokevirtual 311, 3) := by decide +kernel
theorem dX12_change_23 : decode cX12_change 23 = .ok (.aload_n 0, 1) := by decide +kernel
theorem dX12_change_24 : decode cX12_change 24 = .ok (.iconst 0, 1) := by decide +kernel
theorem dX12_change_25 : decode cX12_change 25 = .ok (.putfield 120, 3) := by decide +kernel
theorem dX12_change_28 : decode cX12_change 28 = .ok (.aload_n 0, 1) := by decide +kernel
theorem dX12_change_29 : decode cX12_change 29 = .ok (.invokevirtual 167, 3) := by decide +kernel
theorem dX12_change_32 : decode cX12_change 32 = .ok (.aload_n 0, 1) := by decide +kernel
theorem dX12_change_33 : decode cX12_change 33 = .ok (.invokevirtual 317, 3) := by decide +kernel
theorem dX12_change_36 : decode cX12_change 36 = .ok (.ifCond .ne 9, 3) := by decide +kernel
theorem dX12_change_39 : decode cX12_change 39 = .ok (.aload_n 0, 1) := by decide +kernel
theorem dX12_change_40 : decode cX12_change 40 = .ok (.iconst 2, 1) := by decide +kernel
theorem dX12_change_41 : decode cX12_change 41 = .ok (.invokevirtual 193, 3) := by decide +kernel
theorem dX12_change_44 : decode cX12_change 44 = .ok (.ireturn, 1) := by decide +kernel
theorem dX12_change_45 : decode cX12_change 45 = .ok (.aload_n 0, 1) := by decide +kernel
theorem dX12_change_46 : decode cX12_change 46 = .ok (.aload_n 0, 1) := by decide +kernel
theorem dX12_change_47 : decode cX12_change 47 = .ok (.iload_n 1, 1) := by decide +kernel
theorem dX12_change_48 : decode cX12_change 48 = .ok (.invokevirtual 336, 3) := by decide +kernel
theorem dX12_change_51 : decode cX12_change 51 = .ok (.putfield 114, 3) := by decide +kernel
theorem dX12_change_54 : decode cX12_change 54 = .ok (.aload_n 0, 1) := by decide +kernel
theorem dX12_change_55 : decode cX12_change 55 = .ok (.getfield 114, 3) := by decide +kernel
theorem dX12_change_58 : decode cX12_change 58 = .ok (.ifCond .le 9, 3) := by decide +kernel
theorem dX12_change_61 : decode cX12_change 61 = .ok (.aload_n 0, 1) := by decide +kernel
theorem dX12_change_62 : decode cX12_change 62 = .ok (.iconst 4, 1) := by decide +kernel
theorem dX12_change_63 : decode cX12_change 63 = .ok (.invokevirtual 193, 3) := by decide +kernel
theorem dX12_change_66 : decode cX12_change 66 = .ok (.ireturn, 1) := by decide +kernel
theorem dX12_change_67 : decode cX12_change 67 = .ok (.aload_n 0, 1) := by decide +kernel
theorem dX12_change_68 : decode cX12_change 68 = .ok (.getfield 7, 3) := by decide +kernel
theorem dX12_change_71 : decode cX12_change 71 = .ok (.bipush 8, 2) := by decide +kernel
theorem dX12_change_73 : decode cX12_change 73 = .ok (.if_icmp .ne 10, 3) := by decide +kernel
theorem dX12_change_76 : decode cX12_change 76 = .ok (.aload_n 0, 1) := by decide +kernel
theorem dX12_change_77 : decode cX12_change 77 = .ok (.bipush 9, 2) := by decide +kernel
theorem dX12_change_79 : decode cX12_change 79 = .ok (.invokevirtual 193, 3) := by decide +kernel
theorem dX12_change_82 : decode cX12_change 82 = .ok (.ireturn, 1) := by decide +kernel
theorem dX12_change_83 : decode cX12_change 83 = .ok (.aload_n 0, 1) := by decide +kernel
theorem dX12_change_84 : decode cX12_change 84 = .ok (.getfield 7, 3) := by decide +kernel
theorem dX12_change_87 : decode cX12_change 87 = .ok (.istore_n 2, 1) := by decide +kernel
theorem dX12_change_88 : decode cX12_change 88 = .ok (.aload_n 0, 1) := by decide +kernel
theorem dX12_change_89 : decode cX12_change 89 = .ok (.getfield 17, 3) := by decide +kernel
theorem dX12_change_92 : decode cX12_change 92 = .ok (.iload_n 2, 1) := by decide +kernel
theorem dX12_change_93 : decode cX12_change 93 = .ok (.iconst 0, 1) := by decide +kernel
theorem dX12_change_94 : decode cX12_change 94 = .ok (.iastore, 1) := by decide +kernel
theorem dX12_change_95 : decode cX12_change 95 = .ok (.iconst 0, 1) := by decide +kernel
theorem dX12_change_96 : decode cX12_change 96 = .ok (.istore_n 3, 1) := by decide +kernel
theorem dX12_change_97 : decode cX12_change 97 = .ok (.iload_n 3, 1) := by decide +kernel
theorem dX12_change_98 : decode cX12_change 98 = .ok (.aload_n 0, 1) := by decide +kernel
theorem dX12_change_99 : decode cX12_change 99 = .ok (.getfield 17, 3) := by decide +kernel
theorem dX12_change_102 : decode cX12_change 102 = .ok (.iload_n 1, 1) := by decide +kernel
theorem dX12_change_103 : decode cX12_change 103 = .ok (.iaload, 1) := by decide +kernel
theorem dX12_change_104 : decode cX12_change 104 = .ok (.if_icmp .ge 100, 3) := by decide +kernel
theorem dX12_change_107 : decode cX12_change 107 = .ok (.aload_n 0, 1) := by decide +kernel
theorem dX12_change_108 : decode cX12_change 108 = .ok (.iload_n 2, 1) := by decide +kernel
theorem dX12_change_109 : decode cX12_change 109 = .ok (.aload_n 0, 1) := by decide +kernel
theorem dX12_change_110 : decode cX12_change 110 = .ok (.getfield 21, 3) := by decide +kernel
theorem dX12_change_113 : decode cX12_change 113 = .ok (.iload_n 1, 1) := by decide +kernel
theorem dX12_change_114 : decode cX12_change 114 = .ok (.bipush 71, 2) := by decide +kernel
theorem dX12_change_116 : decode cX12_change 116 = .ok (.imul, 1) := by decide +kernel
theorem dX12_change_117 : decode cX12_change 117 = .ok (.iload_n 3, 1) := by decide +kernel
theorem dX12_change_118 : decode cX12_change 118 = .ok (.iadd, 1) := by decide +kernel
theorem dX12_change_119 : decode cX12_change 119 = .ok (.iaload, 1) := by decide +kernel
theorem dX12_change_120 : decode cX12_change 120 = .ok (.aload_n 0, 1) := by decide +kernel
theorem dX12_change_121 : decode cX12_change 121 = .ok (.getfield 24, 3) := by decide +kernel
theorem dX12_change_124 : decode cX12_change 124 = .ok (.iload_n 1, 1) := by decide +kernel
theorem dX12_change_125 : decode cX12_change 125 = .ok (.bipush 71, 2) := by decide +kernel
theorem dX12_change_127 : decode cX12_change 127 = .ok (.imul, 1) := by decide +kernel
theorem dX12_change_128 : decode cX12_change 128 = .ok (.iload_n 3, 1) := by decide +kernel
theorem dX12_change_129 : decode cX12_change 129 = .ok (.iadd, 1) := by decide +kernel
theorem dX12_change_130 : decode cX12_change 130 = .ok (.iaload, 1) := by decide +kernel
theorem dX12_change_131 : decode cX12_change 131 = .ok (.invokevirtual 324, 3) := by decide +kernel
theorem dX12_change_134 : decode cX12_change 134 = .ok (.iconst 1, 1) := by decide +kernel
theorem dX12_change_135 : decode cX12_change 135 = .ok (.istore 4, 2) := by decide +kernel
theorem dX12_change_137 : decode cX12_change 137 = .ok (.iload 4, 2) := by decide +kernel
theorem dX12_change_139 : decode cX12_change 139 = .ok (.bipush 12, 2) := by decide +kernel
theorem dX12_change_141 : decode cX12_change 141 = .ok (.if_icmp .gt 57, 3) := by decide +kernel
theorem dX12_change_144 : decode cX12_change 144 = .ok (.aload_n 0, 1) := by decide +kernel
theorem dX12_change_145 : decode cX12_change 145 = .ok (.getfield 31, 3) := by decide +kernel
theorem dX12_change_148 : decode cX12_change 148 = .ok (.iload_n 2, 1) := by decide +kernel
theorem dX12_change_149 : decode cX12_change 149 = .ok (.iload_n 3, 1) := by decide +kernel
theorem dX12_change_150 : decode cX12_change 150 = .ok (.iload 4, 2) := by decide +kernel
theorem dX12_change_152 : decode cX12_change 152 = .ok (.invokestatic 27, 3) := by decide +kernel
theorem dX12_change_155 : decode cX12_change 155 = .ok (.aload_n 0, 1) := by decide +kernel
theorem dX12_change_156 : decode cX12_change 156 = .ok (.getfield 31, 3) := by decide +kernel
theorem dX12_change_159 : decode cX12_change 159 = .ok (.iload_n 1, 1) := by decide +kernel
theorem dX12_change_160 : decode cX12_change 160 = .ok (.iload_n 3, 1) := by decide +kernel
theorem dX12_change_161 : decode cX12_change 161 = .ok (.iload 4, 2) := by decide +kernel
theorem dX12_change_163 : decode cX12_change 163 = .ok (.invokestatic 27, 3) := by decide +kernel
theorem dX12_change_166 : decode cX12_change 166 = .ok (.iaload, 1) := by decide +kernel
theorem dX12_change_167 : decode cX12_change 167 = .ok (.iastore, 1) := by decide +kernel
theorem dX12_change_168 : decode cX12_change 168 = .ok (.aload_n 0, 1) := by decide +kernel
theorem dX12_change_169 : decode cX12_change 169 = .ok (.getfield 34, 3) := by decide +kernel
theorem dX12_change_172 : decode cX12_change 172 = .ok (.iload_n 2, 1) := by decide +kernel
theorem dX12_change_173 : decode cX12_change 173 = .ok (.iload_n 3, 1) := by decide +kernel
theorem dX12_change_174 : decode cX12_change 174 = .ok (.iload 4, 2) := by decide +kernel
theorem dX12_change_176 : decode cX12_change 176 = .ok (.invokestatic 27, 3) := by decide +kernel
theorem dX12_change_179 : decode cX12_change 179 = .ok (.aload_n 0, 1) := by decide +kernel
theorem dX12_change_180 : decode cX12_change 180 = .ok (.getfield 34, 3) := by decide +kernel
theorem dX12_change_183 : decode cX12_change 183 = .ok (.iload_n 1, 1) := by decide +kernel
theorem dX12_change_184 : decode cX12_change 184 = .ok (.iload_n 3, 1) := by decide +kernel
theorem dX12_change_185 : decode cX12_change 185 = .ok (.iload 4, 2) := by decide +kernel
theorem dX12_change_187 : decode cX12_change 187 = .ok (.invokestatic 27, 3) := by decide +kernel
theorem dX12_change_190 : decode cX12_change 190 = .ok (.iaload, 1) := by decide +kernel
theorem dX12_change_191 : decode cX12_change 191 = .ok (.iastore, 1) := by decide +kernel
theorem dX12_change_192 : decode cX12_change 192 = .ok (.iinc 4 1, 3) := by decide +kernel
theorem dX12_change_195 : decode cX12_change 195 = .ok (.goto (-58), 3) := by decide +kernel
theorem dX12_change_198 : decode cX12_change 198 = .ok (.iinc 3 1, 3) := by decide +kernel
theorem dX12_change_201 : decode cX12_change 201 = .ok (.goto (-104), 3) := by decide +kernel
theorem dX12_change_204 : decode cX12_change 204 = .ok (.iconst 0, 1) := by decide +kernel
theorem dX12_change_205 : decode cX12_change 205 = .ok (.istore_n 3, 1) := by decide +kernel
theorem dX12_change_206 : decode cX12_change 206 = .ok (.iload_n 3, 1) := by decide +kernel
theorem dX12_change_207 : decode cX12_change 207 = .ok (.aload_n 0, 1) := by decide +kernel
theorem dX12_change_208 : decode cX12_change 208 = .ok (.getfield 120, 3) := by decide +kernel
theorem dX12_change_211 : decode cX12_change 211 = .ok (.if_icmp .ge 15, 3) := by decide +kernel
theorem dX12_change_214 : decode cX12_change 214 = .ok (.aload_n 0, 1) := by decide +kernel
theorem dX12_change_215 : decode cX12_change 215 = .ok (.iload_n 2, 1) := by decide +kernel
theorem dX12_change_216 : decode cX12_change 216 = .ok (.iload_n 3, 1) := by decide +kernel
theorem dX12_change_217 : decode cX12_change 217 = .ok (.invokevirtual 327, 3) := by decide +kernel
theorem dX12_change_220 : decode cX12_change 220 = .ok (.iinc 3 1, 3) := by decide +kernel
theorem dX12_change_223 : decode cX12_change 223 = .ok (.goto (-17), 3) := by decide +kernel
theorem dX12_change_226 : decode cX12_change 226 = .ok (.aload_n 0, 1) := by decide +kernel
theorem dX12_change_227 : decode cX12_change 227 = .ok (.iload_n 2, 1) := by decide +kernel
theorem dX12_change_228 : decode cX12_change 228 = .ok (.invokevirtual 330, 3) := by decide +kernel
theorem dX12_change_231 : decode cX12_change 231 = .ok (.ireturn, 1) := by decide +kernel
def X12_change_198 (k97 : Nat → Int32 → Int32 → Int32 → MM Int32) (this : Nat) (x1 : Int32) (x2 : Int32) (x3 : Int32) : MM Int32 :=
  (k97 this x1 x2 (x3 + (1 : Int32)))
def X12_change_137_st (k97 : Nat → Int32 → Int32 → Int32 → MM Int32) (k137 : Nat → Int32 → Int32 → Int32 → Int32 → MM Int32) (this : Nat) (x1 : Int32) (x2 : Int32) (x3 : Int32) (x4 : Int32) : MM Int32 :=
  if (12 : Int32) < x4 then ((X12_change_198 k97 this x1 x2 x3)) else (mb (gR 13 (some this) 9) fun v1 =>
  mb (X12_spot x2 x3 x4) fun v2 =>
  mb (gR 13 (some this) 9) fun v3 =>
  mb (X12_spot x1 x3 x4) fun v4 =>
  mb (aI v3 v4) fun v5 =>
  mb (sI v1 v2 v5) fun _ =>
  mb (gR 13 (some this) 10) fun v6 =>
  mb (X12_spot x2 x3 x4) fun v7 =>
  mb (gR 13 (some this) 10) fun v8 =>
  mb (X12_spot x1 x3 x4) fun v9 =>
  mb (aI v8 v9) fun v10 =>
  mb (sI v6 v7 v10) fun _ =>
  (k137 this x1 x2 x3 (x4 + (1 : Int32))))
def X12_change_137 (k97 : Nat → Int32 → Int32 → Int32 → MM Int32) : Nat → Nat → Int32 → Int32 → Int32 → Int32 → MM Int32
  | 0 => fun _ _ _ _ _ => mf
  | n + 1 => fun this x1 x2 x3 x4 => X12_change_137_st k97 (X12_change_137 k97 n) this x1 x2 x3 x4
def X12_change_226  (this : Nat) (x2 : Int32) : MM Int32 :=
  mb (wc 13 (some this) fun t => X12_isMade t x2) fun v1 =>
  mr v1
def X12_change_206_st  (k206 : Nat → Int32 → Int32 → MM Int32) (this : Nat) (x2 : Int32) (x3 : Int32) : MM Int32 :=
  mb (gI 13 (some this) 25) fun v1 =>
  if v1 ≤ x3 then ((X12_change_226 this x2)) else (mb (wc 13 (some this) fun t => X12_apply t x2 x3) fun _ =>
  (k206 this x2 (x3 + (1 : Int32))))
def X12_change_206  : Nat → Nat → Int32 → Int32 → MM Int32
  | 0 => fun _ _ _ => mf
  | n + 1 => fun this x2 x3 => X12_change_206_st  (X12_change_206  n) this x2 x3
def X12_change_204  (this : Nat) (x2 : Int32) : MM Int32 :=
  (X12_change_206 LFU this x2 (0 : Int32))
def X12_change_97_st  (k97 : Nat → Int32 → Int32 → Int32 → MM Int32) (this : Nat) (x1 : Int32) (x2 : Int32) (x3 : Int32) : MM Int32 :=
  mb (gR 13 (some this) 6) fun v1 =>
  mb (aI v1 x1) fun v2 =>
  if v2 ≤ x3 then ((X12_change_204 this x2)) else (mb (gR 13 (some this) 7) fun v3 =>
  mb (aI v3 ((x1 * (71 : Int32)) + x3)) fun v4 =>
  mb (gR 13 (some this) 8) fun v5 =>
  mb (aI v5 ((x1 * (71 : Int32)) + x3)) fun v6 =>
  mb (wc 13 (some this) fun t => X12_add t x2 v4 v6) fun _ =>
  (X12_change_137 k97 LFU this x1 x2 x3 (1 : Int32)))
def X12_change_97  : Nat → Nat → Int32 → Int32 → Int32 → MM Int32
  | 0 => fun _ _ _ _ => mf
  | n + 1 => fun this x1 x2 x3 => X12_change_97_st  (X12_change_97  n) this x1 x2 x3
def X12_change (this : Nat) (a1 : Int32) : MM Int32 :=
  mb (wc 13 (some this) fun t => X12_isBook t a1) fun v1 =>
  if v1 = 0 then (mb (pI 13 (some this) 1 (0 : Int32)) fun _ =>
  mb (wc 13 (some this) fun t => X12_no t (1 : Int32)) fun v2 =>
  mr v2) else (mb (wc 13 (some this) fun t => X12_begins t ) fun _ =>
  mb (pI 13 (some this) 25 (0 : Int32)) fun _ =>
  mb (wc 13 (some this) fun t => X12_readChanges t ) fun _ =>
  mb (wc 13 (some this) fun t => X12_ends t ) fun v3 =>
  if v3 = 0 then (mb (wc 13 (some this) fun t => X12_no t (2 : Int32)) fun v4 =>
  mr v4) else (mb (wc 13 (some this) fun t => X12_faultOfChanges t a1) fun v5 =>
  mb (pI 13 (some this) 4 v5) fun _ =>
  mb (gI 13 (some this) 4) fun v6 =>
  if v6 ≤ 0 then (mb (gI 13 (some this) 5) fun v7 =>
  if v7 = (8 : Int32) then (mb (wc 13 (some this) fun t => X12_no t (9 : Int32)) fun v8 =>
  mr v8) else (mb (gI 13 (some this) 5) fun v9 =>
  mb (gR 13 (some this) 6) fun v10 =>
  mb (sI v10 v9 (0 : Int32)) fun _ =>
  (X12_change_97 LFU this a1 v9 (0 : Int32)))) else (mb (wc 13 (some this) fun t => X12_no t (4 : Int32)) fun v11 =>
  mr v11)))
set_option maxRecDepth 100000 in
set_option maxHeartbeats 4000000 in
theorem s_X12_change_198 (G : GG) (k97 : Nat → Int32 → Int32 → Int32 → MM Int32) (hk97 : ∀ (this : Nat) (x1 : Int32) (x2 : Int32) (x3 : Int32), Sn G yX12_change cX12_change 5 (some FieldType.int) 10 215 (fun v : Int32 => some (.int v)) (k97 this x1 x2 x3) 97 [some (va_rf (some this)), some (.int x1), some (.int x2), some (.int x3), none] []) (this : Nat) (x1 : Int32) (x2 : Int32) (x3 : Int32) : Sn G yX12_change cX12_change 5 (some FieldType.int) 10 215 (fun v : Int32 => some (.int v)) (X12_change_198 k97 this x1 x2 x3) 198 [some (va_rf (some this)), some (.int x1), some (.int x2), some (.int x3), none] [] := by
  unfold X12_change_198
  refine sn_iinc (v := x3) (w := 1) (L' := [some (va_rf (some this)), some (.int x1), some (.int x2), some (.int (x3 + (1 : Int32))), none]) (pc' := 201) dX12_change_198 rfl rfl rfl (by decide) rfl ?_
  refine sn_goto (pc' := 97) dX12_change_201 rfl ?_
  exact sn_weak (le_s (le_s (le_s (le_s (le_n le_e))))) (hk97 this x1 x2 (x3 + (1 : Int32)))
set_option maxRecDepth 100000 in
set_option maxHeartbeats 4000000 in
theorem s_X12_change_137_st (G : GG) (k97 : Nat → Int32 → Int32 → Int32 → MM Int32) (hk97 : ∀ (this : Nat) (x1 : Int32) (x2 : Int32) (x3 : Int32), Sn G yX12_change cX12_change 5 (some FieldType.int) 10 215 (fun v : Int32 => some (.int v)) (k97 this x1 x2 x3) 97 [some (va_rf (some this)), some (.int x1), some (.int x2), some (.int x3), none] []) (k137 : Nat → Int32 → Int32 → Int32 → Int32 → MM Int32) (hk137 : ∀ (this : Nat) (x1 : Int32) (x2 : Int32) (x3 : Int32) (x4 : Int32), Sn G yX12_change cX12_change 5 (some FieldType.int) 10 215 (fun v : Int32 => some (.int v)) (k137 this x1 x2 x3 x4) 137 [some (va_rf (some this)), some (.int x1), some (.int x2), some (.int x3), some (.int x4)] []) (this : Nat) (x1 : Int32) (x2 : Int32) (x3 : Int32) (x4 : Int32) : Sn G yX12_change cX12_change 5 (some FieldType.int) 10 215 (fun v : Int32 => some (.int v)) (X12_change_137_st k97 k137 this x1 x2 x3 x4) 137 [some (va_rf (some this)), some (.int x1), some (.int x2), some (.int x3), some (.int x4)] [] := by
  unfold X12_change_137_st
  refine sn_iload (v := x4) (pc' := 139) dX12_change_137 rfl rfl ?_
  refine sn_bipush (v := (12 : Int32)) (pc' := 141) dX12_change_139 rfl (by decide) ?_
  refine sn_ic_gt (pt := 198) (pf := 144) dX12_change_141 rfl rfl ?_ ?_
  · exact sn_weak (le_s (le_s (le_s (le_s (le_n le_e))))) (s_X12_change_198 G k97 hk97 this x1 x2 x3)
  · refine sn_aload_n (v := (some this)) (pc' := 145) dX12_change_144 rfl rfl rfl ?_
    refine sn_gR (k := 9) (pc' := 148) ci_13 rfl (Or.inl tw1287) dX12_change_145 rfl (fun v1 => ?_)
    refine sn_iload_n (v := x2) (pc' := 149) dX12_change_148 rfl rfl rfl ?_
    refine sn_iload_n (v := x3) (pc' := 150) dX12_change_149 rfl rfl rfl ?_
    refine sn_iload (v := x4) (pc' := 152) dX12_change_150 rfl rfl ?_
    refine sn_cS (st := [va_rf v1]) (As := [.int x2, .int x3, .int x4]) (st2 := (fun v => .int v :: [va_rf v1])) (pc' := 155) (c_X12_spot G x2 x3 x4) cw_X12_spot rfl rfl tw1527 tw1528 rfl rfl (cat_q cat_nil) rfl (fun _ => rfl) dX12_change_152 rfl (fun v2 => ?_)
    refine sn_aload_n (v := (some this)) (pc' := 156) dX12_change_155 rfl rfl rfl ?_
    refine sn_gR (k := 9) (pc' := 159) ci_13 rfl (Or.inl tw1287) dX12_change_156 rfl (fun v3 => ?_)
    refine sn_iload_n (v := x1) (pc' := 160) dX12_change_159 rfl rfl rfl ?_
    refine sn_iload_n (v := x3) (pc' := 161) dX12_change_160 rfl rfl rfl ?_
    refine sn_iload (v := x4) (pc' := 163) dX12_change_161 rfl rfl ?_
    refine sn_cS (st := [va_rf v3, .int v2, va_rf v1]) (As := [.int x1, .int x3, .int x4]) (st2 := (fun v => .int v :: [va_rf v3, .int v2, va_rf v1])) (pc' := 166) (c_X12_spot G x1 x3 x4) cw_X12_spot rfl rfl tw1527 tw1528 rfl rfl (cat_q (cat_i (cat_q cat_nil))) rfl (fun _ => rfl) dX12_change_163 rfl (fun v4 => ?_)
    refine sn_aI (pc' := 167) dX12_change_166 rfl (fun v5 => ?_)
    refine sn_sI (pc' := 168) dX12_change_167 rfl (fun _ => ?_)
    refine sn_aload_n (v := (some this)) (pc' := 169) dX12_change_168 rfl rfl rfl ?_
    refine sn_gR (k := 10) (pc' := 172) ci_13 rfl (Or.inl tw1288) dX12_change_169 rfl (fun v6 => ?_)
    refine sn_iload_n (v := x2) (pc' := 173) dX12_change_172 rfl rfl rfl ?_
    refine sn_iload_n (v := x3) (pc' := 174) dX12_change_173 rfl rfl rfl ?_
    refine sn_iload (v := x4) (pc' := 176) dX12_change_174 rfl rfl ?_
    refine sn_cS (st := [va_rf v6]) (As := [.int x2, .int x3, .int x4]) (st2 := (fun v => .int v :: [va_rf v6])) (pc' := 179) (c_X12_spot G x2 x3 x4) cw_X12_spot rfl rfl tw1527 tw1528 rfl rfl (cat_q cat_nil) rfl (fun _ => rfl) dX12_change_176 rfl (fun v7 => ?_)
    refine sn_aload_n (v := (some this)) (pc' := 180) dX12_change_179 rfl rfl rfl ?_
    refine sn_gR (k := 10) (pc' := 183) ci_13 rfl (Or.inl tw1288) dX12_change_180 rfl (fun v8 => ?_)
    refine sn_iload_n (v := x1) (pc' := 184) dX12_change_183 rfl rfl rfl ?_
    refine sn_iload_n (v := x3) (pc' := 185) dX12_change_184 rfl rfl rfl ?_
    refine sn_iload (v := x4) (pc' := 187) dX12_change_185 rfl rfl ?_
    refine sn_cS (st := [va_rf v8, .int v7, va_rf v6]) (As := [.int x1, .int x3, .int x4]) (st2 := (fun v => .int v :: [va_rf v8, .int v7, va_rf v6])) (pc' := 190) (c_X12_spot G x1 x3 x4) cw_X12_spot rfl rfl tw1527 tw1528 rfl rfl (cat_q (cat_i (cat_q cat_nil))) rfl (fun _ => rfl) dX12_change_187 rfl (fun v9 => ?_)
    refine sn_aI (pc' := 191) dX12_change_190 rfl (fun v10 => ?_)
    refine sn_sI (pc' := 192) dX12_change_191 rfl (fun _ => ?_)
    refine sn_iinc (v := x4) (w := 1) (L' := [some (va_rf (some this)), some (.int x1), some (.int x2), some (.int x3), some (.int (x4 + (1 : Int32)))]) (pc' := 195) dX12_change_192 rfl rfl rfl (by decide) rfl ?_
    refine sn_goto (pc' := 137) dX12_change_195 rfl ?_
    exact sn_weak (le_s (le_s (le_s (le_s (le_s le_e))))) (hk137 this x1 x2 x3 (x4 + (1 : Int32)))
set_option maxRecDepth 100000 in
set_option maxHeartbeats 4000000 in
theorem s_X12_change_137 (G : GG) (k97 : Nat → Int32 → Int32 → Int32 → MM Int32) (hk97 : ∀ (this : Nat) (x1 : Int32) (x2 : Int32) (x3 : Int32), Sn G yX12_change cX12_change 5 (some FieldType.int) 10 215 (fun v : Int32 => some (.int v)) (k97 this x1 x2 x3) 97 [some (va_rf (some this)), some (.int x1), some (.int x2), some (.int x3), none] []) : ∀ (n : Nat) (this : Nat) (x1 : Int32) (x2 : Int32) (x3 : Int32) (x4 : Int32), Sn G yX12_change cX12_change 5 (some FieldType.int) 10 215 (fun v : Int32 => some (.int v)) (X12_change_137 k97 n this x1 x2 x3 x4) 137 [some (va_rf (some this)), some (.int x1), some (.int x2), some (.int x3), some (.int x4)] [] := by
  intro n
  induction n with
  | zero => intro this x1 x2 x3 x4; exact sn_mf
  | succ n ih => intro this x1 x2 x3 x4; exact s_X12_change_137_st G k97 hk97 (X12_change_137 k97 n) ih this x1 x2 x3 x4
set_option maxRecDepth 100000 in
set_option maxHeartbeats 4000000 in
theorem s_X12_change_226 (G : GG)   (this : Nat) (x2 : Int32) : Sn G yX12_change cX12_change 5 (some FieldType.int) 10 215 (fun v : Int32 => some (.int v)) (X12_change_226  this x2) 226 [some (va_rf (some this)), none, some (.int x2), none, none] [] := by
  unfold X12_change_226
  refine sn_aload_n (v := (some this)) (pc' := 227) dX12_change_226 rfl rfl rfl ?_
  refine sn_iload_n (v := x2) (pc' := 228) dX12_change_227 rfl rfl rfl ?_
  refine sn_cV (r := (some this)) (st := []) (As := [.int x2]) (st2 := (fun v => .int v :: [])) (pc' := 231) ci_13 (fun t => c_X12_isMade G t x2) cw_X12_isMade rfl rfl tw1538 pw65 tw1540 rfl rfl cat_nil rfl (fun _ => rfl) dX12_change_228 rfl (fun v1 => ?_)
  exact sn_iret dX12_change_231 rfl rfl
set_option maxRecDepth 100000 in
set_option maxHeartbeats 4000000 in
theorem s_X12_change_206_st (G : GG)   (k206 : Nat → Int32 → Int32 → MM Int32) (hk206 : ∀ (this : Nat) (x2 : Int32) (x3 : Int32), Sn G yX12_change cX12_change 5 (some FieldType.int) 10 215 (fun v : Int32 => some (.int v)) (k206 this x2 x3) 206 [some (va_rf (some this)), none, some (.int x2), some (.int x3), none] []) (this : Nat) (x2 : Int32) (x3 : Int32) : Sn G yX12_change cX12_change 5 (some FieldType.int) 10 215 (fun v : Int32 => some (.int v)) (X12_change_206_st  k206 this x2 x3) 206 [some (va_rf (some this)), none, some (.int x2), some (.int x3), none] [] := by
  unfold X12_change_206_st
  refine sn_iload_n (v := x3) (pc' := 207) dX12_change_206 rfl rfl rfl ?_
  refine sn_aload_n (v := (some this)) (pc' := 208) dX12_change_207 rfl rfl rfl ?_
  refine sn_gI (k := 25) (pc' := 211) ci_13 rfl (Or.inl tw1303) dX12_change_208 rfl (fun v1 => ?_)
  refine sn_ic_ge (pt := 226) (pf := 214) dX12_change_211 rfl rfl ?_ ?_
  · exact sn_weak (le_s (le_n (le_s (le_n (le_n le_e))))) (s_X12_change_226 G this x2)
  · refine sn_aload_n (v := (some this)) (pc' := 215) dX12_change_214 rfl rfl rfl ?_
    refine sn_iload_n (v := x2) (pc' := 216) dX12_change_215 rfl rfl rfl ?_
    refine sn_iload_n (v := x3) (pc' := 217) dX12_change_216 rfl rfl rfl ?_
    refine sn_cV (r := (some this)) (st := []) (As := [.int x2, .int x3]) (st2 := (fun _ => [])) (pc' := 220) ci_13 (fun t => c_X12_apply G t x2 x3) cw_X12_apply rfl rfl tw1530 pw63 tw1532 rfl rfl cat_nil rfl (fun _ => rfl) dX12_change_217 rfl (fun _ => ?_)
    refine sn_iinc (v := x3) (w := 1) (L' := [some (va_rf (some this)), none, some (.int x2), some (.int (x3 + (1 : Int32))), none]) (pc' := 223) dX12_change_220 rfl rfl rfl (by decide) rfl ?_
    refine sn_goto (pc' := 206) dX12_change_223 rfl ?_
    exact sn_weak (le_s (le_n (le_s (le_s (le_n le_e))))) (hk206 this x2 (x3 + (1 : Int32)))
set_option maxRecDepth 100000 in
set_option maxHeartbeats 4000000 in
theorem s_X12_change_206 (G : GG)   : ∀ (n : Nat) (this : Nat) (x2 : Int32) (x3 : Int32), Sn G yX12_change cX12_change 5 (some FieldType.int) 10 215 (fun v : Int32 => some (.int v)) (X12_change_206  n this x2 x3) 206 [some (va_rf (some this)), none, some (.int x2), some (.int x3), none] [] := by
  intro n
  induction n with
  | zero => intro this x2 x3; exact sn_mf
  | succ n ih => intro this x2 x3; exact s_X12_change_206_st G   (X12_change_206  n) ih this x2 x3
set_option maxRecDepth 100000 in
set_option maxHeartbeats 4000000 in
theorem s_X12_change_204 (G : GG)   (this : Nat) (x2 : Int32) : Sn G yX12_change cX12_change 5 (some FieldType.int) 10 215 (fun v : Int32 => some (.int v)) (X12_change_204  this x2) 204 [some (va_rf (some this)), none, some (.int x2), none, none] [] := by
  unfold X12_change_204
  refine sn_iconst (v := (0 : Int32)) (pc' := 205) dX12_change_204 rfl (by decide) ?_
  refine sn_istore_n (v := (0 : Int32)) (L' := [some (va_rf (some this)), none, some (.int x2), some (.int (0 : Int32)), none]) (pc' := 206) dX12_change_205 rfl rfl rfl rfl ?_
  exact sn_weak (le_s (le_n (le_s (le_s (le_n le_e))))) (s_X12_change_206 G LFU this x2 (0 : Int32))
set_option maxRecDepth 100000 in
set_option maxHeartbeats 4000000 in
theorem s_X12_change_97_st (G : GG)   (k97 : Nat → Int32 → Int32 → Int32 → MM Int32) (hk97 : ∀ (this : Nat) (x1 : Int32) (x2 : Int32) (x3 : Int32), Sn G yX12_change cX12_change 5 (some FieldType.int) 10 215 (fun v : Int32 => some (.int v)) (k97 this x1 x2 x3) 97 [some (va_rf (some this)), some (.int x1), some (.int x2), some (.int x3), none] []) (this : Nat) (x1 : Int32) (x2 : Int32) (x3 : Int32) : Sn G yX12_change cX12_change 5 (some FieldType.int) 10 215 (fun v : Int32 => some (.int v)) (X12_change_97_st  k97 this x1 x2 x3) 97 [some (va_rf (some this)), some (.int x1), some (.int x2), some (.int x3), none] [] := by
  unfold X12_change_97_st
  refine sn_iload_n (v := x3) (pc' := 98) dX12_change_97 rfl rfl rfl ?_
  refine sn_aload_n (v := (some this)) (pc' := 99) dX12_change_98 rfl rfl rfl ?_
  refine sn_gR (k := 6) (pc' := 102) ci_13 rfl (Or.inl tw1284) dX12_change_99 rfl (fun v1 => ?_)
  refine sn_iload_n (v := x1) (pc' := 103) dX12_change_102 rfl rfl rfl ?_
  refine sn_aI (pc' := 104) dX12_change_103 rfl (fun v2 => ?_)
  refine sn_ic_ge (pt := 204) (pf := 107) dX12_change_104 rfl rfl ?_ ?_
  · exact sn_weak (le_s (le_n (le_s (le_n (le_n le_e))))) (s_X12_change_204 G this x2)
  · refine sn_aload_n (v := (some this)) (pc' := 108) dX12_change_107 rfl rfl rfl ?_
    refine sn_iload_n (v := x2) (pc' := 109) dX12_change_108 rfl rfl rfl ?_
    refine sn_aload_n (v := (some this)) (pc' := 110) dX12_change_109 rfl rfl rfl ?_
    refine sn_gR (k := 7) (pc' := 113) ci_13 rfl (Or.inl tw1285) dX12_change_110 rfl (fun v3 => ?_)
    refine sn_iload_n (v := x1) (pc' := 114) dX12_change_113 rfl rfl rfl ?_
    refine sn_bipush (v := (71 : Int32)) (pc' := 116) dX12_change_114 rfl (by decide) ?_
    refine sn_imul (pc' := 117) dX12_change_116 rfl ?_
    refine sn_iload_n (v := x3) (pc' := 118) dX12_change_117 rfl rfl rfl ?_
    refine sn_iadd (pc' := 119) dX12_change_118 rfl ?_
    refine sn_aI (pc' := 120) dX12_change_119 rfl (fun v4 => ?_)
    refine sn_aload_n (v := (some this)) (pc' := 121) dX12_change_120 rfl rfl rfl ?_
    refine sn_gR (k := 8) (pc' := 124) ci_13 rfl (Or.inl tw1286) dX12_change_121 rfl (fun v5 => ?_)
    refine sn_iload_n (v := x1) (pc' := 125) dX12_change_124 rfl rfl rfl ?_
    refine sn_bipush (v := (71 : Int32)) (pc' := 127) dX12_change_125 rfl (by decide) ?_
    refine sn_imul (pc' := 128) dX12_change_127 rfl ?_
    refine sn_iload_n (v := x3) (pc' := 129) dX12_change_128 rfl rfl rfl ?_
    refine sn_iadd (pc' := 130) dX12_change_129 rfl ?_
    refine sn_aI (pc' := 131) dX12_change_130 rfl (fun v6 => ?_)
    refine sn_cV (r := (some this)) (st := []) (As := [.int x2, .int v4, .int v6]) (st2 := (fun _ => [])) (pc' := 134) ci_13 (fun t => c_X12_add G t x2 v4 v6) cw_X12_add rfl rfl tw1523 pw62 tw1525 rfl rfl cat_nil rfl (fun _ => rfl) dX12_change_131 rfl (fun _ => ?_)
    refine sn_iconst (v := (1 : Int32)) (pc' := 135) dX12_change_134 rfl (by decide) ?_
    refine sn_istore (v := (1 : Int32)) (L' := [some (va_rf (some this)), some (.int x1), some (.int x2), some (.int x3), some (.int (1 : Int32))]) (pc' := 137) dX12_change_135 rfl rfl rfl ?_
    exact sn_weak (le_s (le_s (le_s (le_s (le_s le_e))))) (s_X12_change_137 G k97 hk97 LFU this x1 x2 x3 (1 : Int32))
set_option maxRecDepth 100000 in
set_option maxHeartbeats 4000000 in
theorem s_X12_change_97 (G : GG)   : ∀ (n : Nat) (this : Nat) (x1 : Int32) (x2 : Int32) (x3 : Int32), Sn G yX12_change cX12_change 5 (some FieldType.int) 10 215 (fun v : Int32 => some (.int v)) (X12_change_97  n this x1 x2 x3) 97 [some (va_rf (some this)), some (.int x1), some (.int x2), some (.int x3), none] [] := by
  intro n
  induction n with
  | zero => intro this x1 x2 x3; exact sn_mf
  | succ n ih => intro this x1 x2 x3; exact s_X12_change_97_st G   (X12_change_97  n) ih this x1 x2 x3
set_option maxRecDepth 100000 in
set_option maxHeartbeats 4000000 in
theorem s_X12_change (G : GG) (this : Nat) (a1 : Int32) : Sn G yX12_change cX12_change 5 (some FieldType.int) 10 215 (fun v : Int32 => some (.int v)) (X12_change this a1) 0 [some (va_rf (some this)), some (.int a1), none, none, none] [] := by
  unfold X12_change
  refine sn_aload_n (v := (some this)) (pc' := 1) dX12_change_0 rfl rfl rfl ?_
  refine sn_iload_n (v := a1) (pc' := 2) dX12_change_1 rfl rfl rfl ?_
  refine sn_cV (r := (some this)) (st := []) (As := [.int a1]) (st2 := (fun v => .int v :: [])) (pc' := 5) ci_13 (fun t => c_X12_isBook G t a1) cw_X12_isBook rfl rfl tw1554 pw68 tw1556 rfl rfl cat_nil rfl (fun _ => rfl) dX12_change_2 rfl (fun v1 => ?_)
  refine sn_if_ne (pt := 19) (pf := 8) dX12_change_5 rfl rfl ?_ ?_
  · refine sn_aload_n (v := (some this)) (pc' := 9) dX12_change_8 rfl rfl rfl ?_
    refine sn_iconst (v := (0 : Int32)) (pc' := 10) dX12_change_9 rfl (by decide) ?_
    refine sn_pI (k := 1) (pc' := 13) ci_13 rfl (Or.inl tw1279) (Or.inl rfl) rfl dX12_change_10 rfl (fun _ => ?_)
    refine sn_aload_n (v := (some this)) (pc' := 14) dX12_change_13 rfl rfl rfl ?_
    refine sn_iconst (v := (1 : Int32)) (pc' := 15) dX12_change_14 rfl (by decide) ?_
    refine sn_cV (r := (some this)) (st := []) (As := [.int (1 : Int32)]) (st2 := (fun v => .int v :: [])) (pc' := 18) ci_13 (fun t => c_X12_no G t (1 : Int32)) cw_X12_no rfl rfl tw1431 pw44 tw1433 rfl rfl cat_nil rfl (fun _ => rfl) dX12_change_15 rfl (fun v2 => ?_)
    exact sn_iret dX12_change_18 rfl rfl
  · refine sn_aload_n (v := (some this)) (pc' := 20) dX12_change_19 rfl rfl rfl ?_
    refine sn_cV (r := (some this)) (st := []) (As := []) (st2 := (fun _ => [])) (pc' := 23) ci_13 (fun t => c_X12_begins G t ) cw_X12_begins rfl rfl tw1450 pw46 tw1452 rfl rfl cat_nil rfl (fun _ => rfl) dX12_change_20 rfl (fun _ => ?_)
    refine sn_aload_n (v := (some this)) (pc' := 24) dX12_change_23 rfl rfl rfl ?_
    refine sn_iconst (v := (0 : Int32)) (pc' := 25) dX12_change_24 rfl (by decide) ?_
    refine sn_pI (k := 25) (pc' := 28) ci_13 rfl (Or.inl tw1303) (Or.inl rfl) rfl dX12_change_25 rfl (fun _ => ?_)
    refine sn_aload_n (v := (some this)) (pc' := 29) dX12_change_28 rfl rfl rfl ?_
    refine sn_cV (r := (some this)) (st := []) (As := []) (st2 := (fun _ => [])) (pc' := 32) ci_13 (fun t => c_X12_readChanges G t ) cw_X12_readChanges rfl rfl tw1488 pw54 tw1490 rfl rfl cat_nil rfl (fun _ => rfl) dX12_change_29 rfl (fun _ => ?_)
    refine sn_aload_n (v := (some this)) (pc' := 33) dX12_change_32 rfl rfl rfl ?_
    refine sn_cV (r := (some this)) (st := []) (As := []) (st2 := (fun v => .int v :: [])) (pc' := 36) ci_13 (fun t => c_X12_ends G t ) cw_X12_ends rfl rfl tw1500 pw57 tw1502 rfl rfl cat_nil rfl (fun _ => rfl) dX12_change_33 rfl (fun v3 => ?_)
    refine sn_if_ne (pt := 45) (pf := 39) dX12_change_36 rfl rfl ?_ ?_
    · refine sn_aload_n (v := (some this)) (pc' := 40) dX12_change_39 rfl rfl rfl ?_
      refine sn_iconst (v := (2 : Int32)) (pc' := 41) dX12_change_40 rfl (by decide) ?_
      refine sn_cV (r := (some this)) (st := []) (As := [.int (2 : Int32)]) (st2 := (fun v => .int v :: [])) (pc' := 44) ci_13 (fun t => c_X12_no G t (2 : Int32)) cw_X12_no rfl rfl tw1431 pw44 tw1433 rfl rfl cat_nil rfl (fun _ => rfl) dX12_change_41 rfl (fun v4 => ?_)
      exact sn_iret dX12_change_44 rfl rfl
    · refine sn_aload_n (v := (some this)) (pc' := 46) dX12_change_45 rfl rfl rfl ?_
      refine sn_aload_n (v := (some this)) (pc' := 47) dX12_change_46 rfl rfl rfl ?_
      refine sn_iload_n (v := a1) (pc' := 48) dX12_change_47 rfl rfl rfl ?_
      refine sn_cV (r := (some this)) (st := [va_rf (some this)]) (As := [.int a1]) (st2 := (fun v => .int v :: [va_rf (some this)])) (pc' := 51) ci_13 (fun t => c_X12_faultOfChanges G t a1) cw_X12_faultOfChanges rfl rfl tw1558 pw69 tw1560 rfl rfl (cat_q cat_nil) rfl (fun _ => rfl) dX12_change_48 rfl (fun v5 => ?_)
      refine sn_pI (k := 4) (pc' := 54) ci_13 rfl (Or.inl tw1282) (Or.inl rfl) rfl dX12_change_51 rfl (fun _ => ?_)
      refine sn_aload_n (v := (some this)) (pc' := 55) dX12_change_54 rfl rfl rfl ?_
      refine sn_gI (k := 4) (pc' := 58) ci_13 rfl (Or.inl tw1282) dX12_change_55 rfl (fun v6 => ?_)
      refine sn_if_le (pt := 67) (pf := 61) dX12_change_58 rfl rfl ?_ ?_
      · refine sn_aload_n (v := (some this)) (pc' := 68) dX12_change_67 rfl rfl rfl ?_
        refine sn_gI (k := 5) (pc' := 71) ci_13 rfl (Or.inl tw1283) dX12_change_68 rfl (fun v7 => ?_)
        refine sn_bipush (v := (8 : Int32)) (pc' := 73) dX12_change_71 rfl (by decide) ?_
        refine sn_ic_ne (pt := 83) (pf := 76) dX12_change_73 rfl rfl ?_ ?_
        · refine sn_aload_n (v := (some this)) (pc' := 77) dX12_change_76 rfl rfl rfl ?_
          refine sn_bipush (v := (9 : Int32)) (pc' := 79) dX12_change_77 rfl (by decide) ?_
          refine sn_cV (r := (some this)) (st := []) (As := [.int (9 : Int32)]) (st2 := (fun v => .int v :: [])) (pc' := 82) ci_13 (fun t => c_X12_no G t (9 : Int32)) cw_X12_no rfl rfl tw1431 pw44 tw1433 rfl rfl cat_nil rfl (fun _ => rfl) dX12_change_79 rfl (fun v8 => ?_)
          exact sn_iret dX12_change_82 rfl rfl
        · refine sn_aload_n (v := (some this)) (pc' := 84) dX12_change_83 rfl rfl rfl ?_
          refine sn_gI (k := 5) (pc' := 87) ci_13 rfl (Or.inl tw1283) dX12_change_84 rfl (fun v9 => ?_)
          refine sn_istore_n (v := v9) (L' := [some (va_rf (some this)), some (.int a1), some (.int v9), none, none]) (pc' := 88) dX12_change_87 rfl rfl rfl rfl ?_
          refine sn_aload_n (v := (some this)) (pc' := 89) dX12_change_88 rfl rfl rfl ?_
          refine sn_gR (k := 6) (pc' := 92) ci_13 rfl (Or.inl tw1284) dX12_change_89 rfl (fun v10 => ?_)
          refine sn_iload_n (v := v9) (pc' := 93) dX12_change_92 rfl rfl rfl ?_
          refine sn_iconst (v := (0 : Int32)) (pc' := 94) dX12_change_93 rfl (by decide) ?_
          refine sn_sI (pc' := 95) dX12_change_94 rfl (fun _ => ?_)
          refine sn_iconst (v := (0 : Int32)) (pc' := 96) dX12_change_95 rfl (by decide) ?_
          refine sn_istore_n (v := (0 : Int32)) (L' := [some (va_rf (some this)), some (.int a1), some (.int v9), some (.int (0 : Int32)), none]) (pc' := 97) dX12_change_96 rfl rfl rfl rfl ?_
          exact sn_weak (le_s (le_s (le_s (le_s (le_n le_e))))) (s_X12_change_97 G LFU this a1 v9 (0 : Int32))
      · refine sn_aload_n (v := (some this)) (pc' := 62) dX12_change_61 rfl rfl rfl ?_
        refine sn_iconst (v := (4 : Int32)) (pc' := 63) dX12_change_62 rfl (by decide) ?_
        refine sn_cV (r := (some this)) (st := []) (As := [.int (4 : Int32)]) (st2 := (fun v => .int v :: [])) (pc' := 66) ci_13 (fun t => c_X12_no G t (4 : Int32)) cw_X12_no rfl rfl tw1431 pw44 tw1433 rfl rfl cat_nil rfl (fun _ => rfl) dX12_change_63 rfl (fun v11 => ?_)
        exact sn_iret dX12_change_66 rfl rfl
theorem c_X12_change (G : GG) (this : Nat) (a1 : Int32) : Cal G yX12_change cX12_change 5 (some FieldType.int) 10 215 (fun v : Int32 => some (.int v)) (X12_change this a1) [.ref this, .int a1] :=
  Cal.of (by decide) (cat_t (cat_i cat_nil)) rfl (sn_weak (le_s (le_s (le_z (le_z (le_z le_e))))) (s_X12_change G this a1))
theorem cw_X12_change : CW yX12_change cX12_change 5 (some FieldType.int) 1 := ⟨tw1553, tw15, by decide, by decide +kernel⟩
/-! X12_readName -/
theorem dX12_readName_0 : decode cX12_readName 0 = .ok (.aload_n 0, 1) := by decide +kernel
theorem dX12_readName_1 : decode cX12_readName 1 = .ok (.aload_n 0, 1) := by decide +kernel
theorem dX12_readName_2 : decode cX12_readName 2 = .ok (.iconst 2, 1) := by decide +kernel
theorem dX12_readName_3 : decode cX12_readName 3 = .ok (.invokevirtual 132, 3) := by decide +kernel
theorem dX12_readName_6 : decode cX12_readName 6 = .ok (.putfield 339, 3) := by decide +kernel
theorem dX12_readName_9 : decode cX12_readName 9 = .ok (.aload_n 0, 1) := by decide +kernel
theorem dX12_readName_10 : decode cX12_readName 10 = .ok (.aload_n 0, 1) := by decide +kernel
theorem dX12_readName_11 : decode cX12_readName 11 = .ok (.iconst 3, 1) := by decide +kernel
theorem dX12_readName_12 : decode cX12_readName 12 = .ok (.invokevirtual 132, 3) := by decide +kernel
theorem dX12_readName_15 : decode cX12_readName 15 = .ok (.putfield 342, 3) := by decide +kernel
theorem dX12_readName_18 : decode cX12_readName 18 = .ok (.aload_n 0, 1) := by decide +kernel
theorem dX12_readName_19 : decode cX12_readName 19 = .ok (.aload_n 0, 1) := by decide +kernel
theorem dX12_readName_20 : decode cX12_readName 20 = .ok (.bipush 43, 2) := by decide +kernel
theorem dX12_readName_22 : decode cX12_readName 22 = .ok (.invokevirtual 126, 3) := by decide +kernel
theorem dX12_readName_25 : decode cX12_readName 25 = .ok (.ifCond .eq 11, 3) := by decide +kernel
theorem dX12_readName_28 : decode cX12_readName 28 = .ok (.aload_n 0, 1) := by decide +kernel
theorem dX12_readName_29 : decode cX12_readName 29 = .ok (.iconst 3, 1) := by decide +kernel
theorem dX12_readName_30 : decode cX12_readName 30 = .ok (.invokevirtual 132, 3) := by decide +kernel
theorem dX12_readName_33 : decode cX12_readName 33 = .ok (.goto 4, 3) := by decide +kernel
theorem dX12_readName_36 : decode cX12_readName 36 = .ok (.iconst (-1), 1) := by decide +kernel
theorem dX12_readName_37 : decode cX12_readName 37 = .ok (.putfield 345, 3) := by decide +kernel
theorem dX12_readName_40 : decode cX12_readName 40 = .ok (.return_, 1) := by decide +kernel
def X12_readName (this : Nat) : MM Unit :=
  mb (wc 13 (some this) fun t => X12_take t (2 : Int32)) fun v1 =>
  mb (pI 13 (some this) 42 v1) fun _ =>
  mb (wc 13 (some this) fun t => X12_take t (3 : Int32)) fun v2 =>
  mb (pI 13 (some this) 43 v2) fun _ =>
  mb (wc 13 (some this) fun t => X12_goes t (43 : Int32)) fun v3 =>
  if v3 = 0 then (mb (pI 13 (some this) 44 (-1 : Int32)) fun _ =>
  mr ()) else (mb (wc 13 (some this) fun t => X12_take t (3 : Int32)) fun v4 =>
  mb (pI 13 (some this) 44 v4) fun _ =>
  mr ())
set_option maxRecDepth 100000 in
set_option maxHeartbeats 4000000 in
theorem s_X12_readName (G : GG) (this : Nat) : Sn G yX12_readName cX12_readName 1 none 8 174 (fun _ : Unit => none) (X12_readName this) 0 [some (va_rf (some this))] [] := by
  unfold X12_readName
  refine sn_aload_n (v := (some this)) (pc' := 1) dX12_readName_0 rfl rfl rfl ?_
  refine sn_aload_n (v := (some this)) (pc' := 2) dX12_readName_1 rfl rfl rfl ?_
  refine sn_iconst (v := (2 : Int32)) (pc' := 3) dX12_readName_2 rfl (by decide) ?_
  refine sn_cV (r := (some this)) (st := [va_rf (some this)]) (As := [.int (2 : Int32)]) (st2 := (fun v => .int v :: [va_rf (some this)])) (pc' := 6) ci_13 (fun t => c_X12_take G t (2 : Int32)) cw_X12_take rfl rfl tw1476 pw51 tw1478 rfl rfl (cat_q cat_nil) rfl (fun _ => rfl) dX12_readName_3 rfl (fun v1 => ?_)
  refine sn_pI (k := 42) (pc' := 9) ci_13 rfl (Or.inl tw1320) (Or.inl rfl) rfl dX12_readName_6 rfl (fun _ => ?_)
  refine sn_aload_n (v := (some this)) (pc' := 10) dX12_readName_9 rfl rfl rfl ?_
  refine sn_aload_n (v := (some this)) (pc' := 11) dX12_readName_10 rfl rfl rfl ?_
  refine sn_iconst (v := (3 : Int32)) (pc' := 12) dX12_readName_11 rfl (by decide) ?_
  refine sn_cV (r := (some this)) (st := [va_rf (some this)]) (As := [.int (3 : Int32)]) (st2 := (fun v => .int v :: [va_rf (some this)])) (pc' := 15) ci_13 (fun t => c_X12_take G t (3 : Int32)) cw_X12_take rfl rfl tw1476 pw51 tw1478 rfl rfl (cat_q cat_nil) rfl (fun _ => rfl) dX12_readName_12 rfl (fun v2 => ?_)
  refine sn_pI (k := 43) (pc' := 18) ci_13 rfl (Or.inl tw1321) (Or.inl rfl) rfl dX12_readName_15 rfl (fun _ => ?_)
  refine sn_aload_n (v := (some this)) (pc' := 19) dX12_readName_18 rfl rfl rfl ?_
  refine sn_aload_n (v := (some this)) (pc' := 20) dX12_readName_19 rfl rfl rfl ?_
  refine sn_bipush (v := (43 : Int32)) (pc' := 22) dX12_readName_20 rfl (by decide) ?_
  refine sn_cV (r := (some this)) (st := [va_rf (some this)]) (As := [.int (43 : Int32)]) (st2 := (fun v => .int v :: [va_rf (some this)])) (pc' := 25) ci_13 (fun t => c_X12_goes G t (43 : Int32)) cw_X12_goes rfl rfl tw1480 pw52 tw1482 rfl rfl (cat_q cat_nil) rfl (fun _ => rfl) dX12_readName_22 rfl (fun v3 => ?_)
  refine sn_if_eq (pt := 36) (pf := 28) dX12_readName_25 rfl rfl ?_ ?_
  · refine sn_iconst (v := (-1 : Int32)) (pc' := 37) dX12_readName_36 rfl (by decide) ?_
    refine sn_pI (k := 44) (pc' := 40) ci_13 rfl (Or.inl tw1322) (Or.inl rfl) rfl dX12_readName_37 rfl (fun _ => ?_)
    exact sn_vret dX12_readName_40 rfl
  · refine sn_aload_n (v := (some this)) (pc' := 29) dX12_readName_28 rfl rfl rfl ?_
    refine sn_iconst (v := (3 : Int32)) (pc' := 30) dX12_readName_29 rfl (by decide) ?_
    refine sn_cV (r := (some this)) (st := [va_rf (some this)]) (As := [.int (3 : Int32)]) (st2 := (fun v => .int v :: [va_rf (some this)])) (pc' := 33) ci_13 (fun t => c_X12_take G t (3 : Int32)) cw_X12_take rfl rfl tw1476 pw51 tw1478 rfl rfl (cat_q cat_nil) rfl (fun _ => rfl) dX12_readName_30 rfl (fun v4 => ?_)
    refine sn_goto (pc' := 37) dX12_readName_33 rfl ?_
    refine sn_pI (k := 44) (pc' := 40) ci_13 rfl (Or.inl tw1322) (Or.inl rfl) rfl dX12_readName_37 rfl (fun _ => ?_)
    exact sn_vret dX12_readName_40 rfl
theorem c_X12_readName (G : GG) (this : Nat) : Cal G yX12_readName cX12_readName 1 none 8 174 (fun _ : Unit => none) (X12_readName this) [.ref this] :=
  Cal.of (by decide) (cat_t cat_nil) rfl (sn_weak (le_s le_e) (s_X12_readName G this))
theorem cw_X12_readName : CW yX12_readName cX12_readName 1 none 0 := ⟨tw1569, tw15, by decide, by decide +kernel⟩
/-! X12_named -/
theorem dX12_named_0 : decode cX12_named 0 = .ok (.aload_n 0, 1) := by decide +kernel
theorem dX12_named_1 : decode cX12_named 1 = .ok (.getfield 345, 3) := by decide +kernel
theorem dX12_named_4 : decode cX12_named 4 = .ok (.ifCond .ne 7, 3) := by decide +kernel
theorem dX12_named_7 : decode cX12_named 7 = .ok (.iconst (-1), 1) := by decide +kernel
theorem dX12_named_8 : decode cX12_named 8 = .ok (.goto 31, 3) := by decide +kernel
theorem dX12_named_11 : decode cX12_named 11 = .ok (.aload_n 0, 1) := by decide +kernel
theorem dX12_named_12 : decode cX12_named 12 = .ok (.iload_n 1, 1) := by decide +kernel
theorem dX12_named_13 : decode cX12_named 13 = .ok (.aload_n 0, 1) := by decide +kernel
theorem dX12_named_14 : decode cX12_named 14 = .ok (.getfield 339, 3) := by decide +kernel
theorem dX12_named_17 : decode cX12_named 17 = .ok (.aload_n 0, 1) := by decide +kernel
theorem dX12_named_18 : decode cX12_named 18 = .ok (.getfield 342, 3) := by decide +kernel
theorem dX12_named_21 : decode cX12_named 21 = .ok (.aload_n 0, 1) := by decide +kernel
theorem dX12_named_22 : decode cX12_named 22 = .ok (.getfield 345, 3) := by decide +kernel
theorem dX12_named_25 : decode cX12_named 25 = .ok (.ifCond .ge 7, 3) := by decide +kernel
theorem dX12_named_28 : decode cX12_named 28 = .ok (.iconst 0, 1) := by decide +kernel
theorem dX12_named_29 : decode cX12_named 29 = .ok (.goto 7, 3) := by decide +kernel
theorem dX12_named_32 : decode cX12_named 32 = .ok (.aload_n 0, 1) := by decide +kernel
theorem dX12_named_33 : decode cX12_named 33 = .ok (.getfield 345, 3) := by decide +kernel
theorem dX12_named_36 : decode cX12_named 36 = .ok (.invokevirtual 53, 3) := by decide +kernel
theorem dX12_named_39 : decode cX12_named 39 = .ok (.ireturn, 1) := by decide +kernel
def X12_named_36  (this : Nat) (y0 : Int32) (y1 : Int32) (y2 : Int32) (y3 : Int32) : MM Int32 :=
  mb (wc 13 (some this) fun t => X12_placeOf t y3 y2 y1 y0) fun v1 =>
  mr v1
def X12_named (this : Nat) (a1 : Int32) : MM Int32 :=
  mb (gI 13 (some this) 44) fun v1 =>
  if v1 = 0 then (mr (-1 : Int32)) else (mb (gI 13 (some this) 42) fun v2 =>
  mb (gI 13 (some this) 43) fun v3 =>
  mb (gI 13 (some this) 44) fun v4 =>
  if 0 ≤ v4 then (mb (gI 13 (some this) 44) fun v5 =>
  (X12_named_36 this v5 v3 v2 a1)) else ((X12_named_36 this (0 : Int32) v3 v2 a1)))
set_option maxRecDepth 100000 in
set_option maxHeartbeats 4000000 in
theorem s_X12_named_36 (G : GG)   (this : Nat) (y0 : Int32) (y1 : Int32) (y2 : Int32) (y3 : Int32) : Sn G yX12_named cX12_named 2 (some FieldType.int) 1 26 (fun v : Int32 => some (.int v)) (X12_named_36  this y0 y1 y2 y3) 36 [none, none] [.int y0, .int y1, .int y2, .int y3, va_rf (some this)] := by
  unfold X12_named_36
  refine sn_cV (r := (some this)) (st := []) (As := [.int y3, .int y2, .int y1, .int y0]) (st2 := (fun v => .int v :: [])) (pc' := 39) ci_13 (fun t => c_X12_placeOf G t y3 y2 y1 y0) cw_X12_placeOf rfl rfl tw1574 pw72 tw1576 rfl rfl cat_nil rfl (fun _ => rfl) dX12_named_36 rfl (fun v1 => ?_)
  exact sn_iret dX12_named_39 rfl rfl
set_option maxRecDepth 100000 in
set_option maxHeartbeats 4000000 in
theorem s_X12_named (G : GG) (this : Nat) (a1 : Int32) : Sn G yX12_named cX12_named 2 (some FieldType.int) 1 26 (fun v : Int32 => some (.int v)) (X12_named this a1) 0 [some (va_rf (some this)), some (.int a1)] [] := by
  unfold X12_named
  refine sn_aload_n (v := (some this)) (pc' := 1) dX12_named_0 rfl rfl rfl ?_
  refine sn_gI (k := 44) (pc' := 4) ci_13 rfl (Or.inl tw1322) dX12_named_1 rfl (fun v1 => ?_)
  refine sn_if_ne (pt := 11) (pf := 7) dX12_named_4 rfl rfl ?_ ?_
  · refine sn_iconst (v := (-1 : Int32)) (pc' := 8) dX12_named_7 rfl (by decide) ?_
    refine sn_goto (pc' := 39) dX12_named_8 rfl ?_
    exact sn_iret dX12_named_39 rfl rfl
  · refine sn_aload_n (v := (some this)) (pc' := 12) dX12_named_11 rfl rfl rfl ?_
    refine sn_iload_n (v := a1) (pc' := 13) dX12_named_12 rfl rfl rfl ?_
    refine sn_aload_n (v := (some this)) (pc' := 14) dX12_named_13 rfl rfl rfl ?_
    refine sn_gI (k := 42) (pc' := 17) ci_13 rfl (Or.inl tw1320) dX12_named_14 rfl (fun v2 => ?_)
    refine sn_aload_n (v := (some this)) (pc' := 18) dX12_named_17 rfl rfl rfl ?_
    refine sn_gI (k := 43) (pc' := 21) ci_13 rfl (Or.inl tw1321) dX12_named_18 rfl (fun v3 => ?_)
    refine sn_aload_n (v := (some this)) (pc' := 22) dX12_named_21 rfl rfl rfl ?_
    refine sn_gI (k := 44) (pc' := 25) ci_13 rfl (Or.inl tw1322) dX12_named_22 rfl (fun v4 => ?_)
    refine sn_if_ge (pt := 32) (pf := 28) dX12_named_25 rfl rfl ?_ ?_
    · refine sn_aload_n (v := (some this)) (pc' := 33) dX12_named_32 rfl rfl rfl ?_
      refine sn_gI (k := 44) (pc' := 36) ci_13 rfl (Or.inl tw1322) dX12_named_33 rfl (fun v5 => ?_)
      exact sn_weak (le_n (le_n le_e)) (s_X12_named_36 G this v5 v3 v2 a1)
    · refine sn_iconst (v := (0 : Int32)) (pc' := 29) dX12_named_28 rfl (by decide) ?_
      refine sn_goto (pc' := 36) dX12_named_29 rfl ?_
      exact sn_weak (le_n (le_n le_e)) (s_X12_named_36 G this (0 : Int32) v3 v2 a1)
theorem c_X12_named (G : GG) (this : Nat) (a1 : Int32) : Cal G yX12_named cX12_named 2 (some FieldType.int) 1 26 (fun v : Int32 => some (.int v)) (X12_named this a1) [.ref this, .int a1] :=
  Cal.of (by decide) (cat_t (cat_i cat_nil)) rfl (sn_weak (le_s (le_s le_e)) (s_X12_named G this a1))
theorem cw_X12_named : CW yX12_named cX12_named 2 (some FieldType.int) 1 := ⟨tw1573, tw15, by decide, by decide +kernel⟩
/-! X12_copy -/
theorem dX12_copy_0 : decode cX12_copy 0 = .ok (.aload_n 0, 1) := by decide +kernel
theorem dX12_copy_1 : decode cX12_copy 1 = .ok (.iload_n 1, 1) := by decide +kernel
theorem dX12_copy_2 : decode cX12_copy 2 = .ok (.invokevirtual 333, 3) := by decide +kernel
theorem dX12_copy_5 : decode cX12_copy 5 = .ok (.ifCond .ne 14, 3) := by decide +kernel
theorem dX12_copy_8 : decode cX12_copy 8 = .ok (.aload_n 0, 1) := by decide +kernel
theorem dX12_copy_9 : decode cX12_copy 9 = .ok (.iconst 0, 1) := by decide +kernel
theorem dX12_copy_10 : decode cX12_copy 10 = .ok (.putfield 90, 3) := by decide +kernel
theorem dX12_copy_13 : decode cX12_copy 13 = .ok (.aload_n 0, 1) := by decide +kernel
theorem dX12_copy_14 : decode cX12_copy 14 = .ok (.iconst 1, 1) := by decide +kernel
theorem dX12_copy_15 : decode cX12_copy 15 = .ok (.invokevirtual 193, 3) := by decide +kernel
theorem dX12_copy_18 : decode cX12_copy 18 = .ok (.ireturn, 1) := by decide +kernel
theorem dX12_copy_19 : decode cX12_copy 19 = .ok (.aload_n 0, 1) := by decide +kernel
theorem dX12_copy_20 : decode cX12_copy 20 = .ok (.invokevirtual 311, 3) := by decide +kernel
theorem dX12_copy_23 : decode cX12_copy 23 = .ok (.iconst 0, 1) := by decide +kernel
theorem dX12_copy_24 : decode cX12_copy 24 = .ok (.istore_n 2, 1) := by decide +kernel
theorem dX12_copy_25 : decode cX12_copy 25 = .ok (.iconst 0, 1) := by decide +kernel
theorem dX12_copy_26 : decode cX12_copy 26 = .ok (.istore_n 3, 1) := by decide +kernel
theorem dX12_copy_27 : decode cX12_copy 27 = .ok (.aload_n 0, 1) := by decide +kernel
theorem dX12_copy_28 : decode cX12_copy 28 = .ok (.invokevirtual 348, 3) := by decide +kernel
theorem dX12_copy_31 : decode cX12_copy 31 = .ok (.aload_n 0, 1) := by decide +kernel
theorem dX12_copy_32 : decode cX12_copy 32 = .ok (.getfield 299, 3) := by decide +kernel
theorem dX12_copy_35 : decode cX12_copy 35 = .ok (.iload_n 2, 1) := by decide +kernel
theorem dX12_copy_36 : decode cX12_copy 36 = .ok (.aload_n 0, 1) := by decide +kernel
theorem dX12_copy_37 : decode cX12_copy 37 = .ok (.iload_n 1, 1) := by decide +kernel
theorem dX12_copy_38 : decode cX12_copy 38 = .ok (.invokevirtual 351, 3) := by decide +kernel
theorem dX12_copy_41 : decode cX12_copy 41 = .ok (.iastore, 1) := by decide +kernel
theorem dX12_copy_42 : decode cX12_copy 42 = .ok (.aload_n 0, 1) := by decide +kernel
theorem dX12_copy_43 : decode cX12_copy 43 = .ok (.getfield 302, 3) := by decide +kernel
theorem dX12_copy_46 : decode cX12_copy 46 = .ok (.iload_n 2, 1) := by decide +kernel
theorem dX12_copy_47 : decode cX12_copy 47 = .ok (.aload_n 0, 1) := by decide +kernel
theorem dX12_copy_48 : decode cX12_copy 48 = .ok (.getfield 299, 3) := by decide +kernel
theorem dX12_copy_51 : decode cX12_copy 51 = .ok (.iload_n 2, 1) := by decide +kernel
theorem dX12_copy_52 : decode cX12_copy 52 = .ok (.iaload, 1) := by decide +kernel
theorem dX12_copy_53 : decode cX12_copy 53 = .ok (.iastore, 1) := by decide +kernel
theorem dX12_copy_54 : decode cX12_copy 54 = .ok (.aload_n 0, 1) := by decide +kernel
theorem dX12_copy_55 : decode cX12_copy 55 = .ok (.bipush 45, 2) := by decide +kernel
theorem dX12_copy_57 : decode cX12_copy 57 = .ok (.invokevirtual 126, 3) := by decide +kernel
theorem dX12_copy_60 : decode cX12_copy 60 = .ok (.istore 4, 2) := by decide +kernel
theorem dX12_copy_62 : decode cX12_copy 62 = .ok (.iload 4, 2) := by decide +kernel
theorem dX12_copy_64 : decode cX12_copy 64 = .ok (.ifCond .eq 18, 3) := by decide +kernel
theorem dX12_copy_67 : decode cX12_copy 67 = .ok (.aload_n 0, 1) := by decide +kernel
theorem dX12_copy_68 : decode cX12_copy 68 = .ok (.invokevirtual 348, 3) := by decide +kernel
theorem dX12_copy_71 : decode cX12_copy 71 = .ok (.aload_n 0, 1) := by decide +kernel
theorem dX12_copy_72 : decode cX12_copy 72 = .ok (.getfield 302, 3) := by decide +kernel
theorem dX12_copy_75 : decode cX12_copy 75 = .ok (.iload_n 2, 1) := by decide +kernel
theorem dX12_copy_76 : decode cX12_copy 76 = .ok (.aload_n 0, 1) := by decide +kernel
theorem dX12_copy_77 : decode cX12_copy 77 = .ok (.iload_n 1, 1) := by decide +kernel
theorem dX12_copy_78 : decode cX12_copy 78 = .ok (.invokevirtual 351, 3) := by decide +kernel
theorem dX12_copy_81 : decode cX12_copy 81 = .ok (.iastore, 1) := by decide +kernel
theorem dX12_copy_82 : decode cX12_copy 82 = .ok (.iload_n 3, 1) := by decide +kernel
theorem dX12_copy_83 : decode cX12_copy 83 = .ok (.ifCond .ne 41, 3) := by decide +kernel
theorem dX12_copy_86 : decode cX12_copy 86 = .ok (.aload_n 0, 1) := by decide +kernel
theorem dX12_copy_87 : decode cX12_copy 87 = .ok (.getfield 299, 3) := by decide +kernel
theorem dX12_copy_90 : decode cX12_copy 90 = .ok (.iload_n 2, 1) := by decide +kernel
theorem dX12_copy_91 : decode cX12_copy 91 = .ok (.iaload, 1) := by decide +kernel
theorem dX12_copy_92 : decode cX12_copy 92 = .ok (.ifCond .lt 32, 3) := by decide +kernel
theorem dX12_copy_95 : decode cX12_copy 95 = .ok (.aload_n 0, 1) := by decide +kernel
theorem dX12_copy_96 : decode cX12_copy 96 = .ok (.getfield 302, 3) := by decide +kernel
theorem dX12_copy_99 : decode cX12_copy 99 = .ok (.iload_n 2, 1) := by decide +kernel
theorem dX12_copy_100 : decode cX12_copy 100 = .ok (.iaload, 1) := by decide +kernel
theorem dX12_copy_101 : decode cX12_copy 101 = .ok (.ifCond .lt 23, 3) := by decide +kernel
theorem dX12_copy_104 : decode cX12_copy 104 = .ok (.iload 4, 2) := by decide +kernel
theorem dX12_copy_106 : decode cX12_copy 106 = .ok (.ifCond .eq 22, 3) := by decide +kernel
theorem dX12_copy_109 : decode cX12_copy 109 = .ok (.aload_n 0, 1) := by decide +kernel
theorem dX12_copy_110 : decode cX12_copy 110 = .ok (.getfield 302, 3) := by decide +kernel
theorem dX12_copy_113 : decode cX12_copy 113 = .ok (.iload_n 2, 1) := by decide +kernel
theorem dX12_copy_114 : decode cX12_copy 114 = .ok (.iaload, 1) := by decide +kernel
theorem dX12_copy_115 : decode cX12_copy 115 = .ok (.aload_n 0, 1) := by decide +kernel
theorem dX12_copy_116 : decode cX12_copy 116 = .ok (.getfield 299, 3) := by decide +kernel
theorem dX12_copy_119 : decode cX12_copy 119 = .ok (.iload_n 2, 1) := by decide +kernel
theorem dX12_copy_120 : decode cX12_copy 120 = .ok (.iaload, 1) := by decide +kernel
theorem dX12_copy_121 : decode cX12_copy 121 = .ok (.if_icmp .gt 7, 3) := by decide +kernel
theorem dX12_copy_124 : decode cX12_copy 124 = .ok (.iconst 1, 1) := by decide +kernel
theorem dX12_copy_125 : decode cX12_copy 125 = .ok (.goto 4, 3) := by decide +kernel
theorem dX12_copy_128 : decode cX12_copy 128 = .ok (.iconst 0, 1) := by decide +kernel
theorem dX12_copy_129 : decode cX12_copy 129 = .ok (.istore_n 3, 1) := by decide +kernel
theorem dX12_copy_130 : decode cX12_copy 130 = .ok (.iinc 2 1, 3) := by decide +kernel
theorem dX12_copy_133 : decode cX12_copy 133 = .ok (.aload_n 0, 1) := by decide +kernel
theorem dX12_copy_134 : decode cX12_copy 134 = .ok (.getfield 102, 3) := by decide +kernel
theorem dX12_copy_137 : decode cX12_copy 137 = .ok (.ifCond .eq 10, 3) := by decide +kernel
theorem dX12_copy_140 : decode cX12_copy 140 = .ok (.aload_n 0, 1) := by decide +kernel
theorem dX12_copy_141 : decode cX12_copy 141 = .ok (.getfield 93, 3) := by decide +kernel
theorem dX12_copy_144 : decode cX12_copy 144 = .ok (.ifCond .ne (-117), 3) := by decide +kernel
theorem dX12_copy_147 : decode cX12_copy 147 = .ok (.aload_n 0, 1) := by decide +kernel
theorem dX12_copy_148 : decode cX12_copy 148 = .ok (.invokevirtual 317, 3) := by decide +kernel
theorem dX12_copy_151 : decode cX12_copy 151 = .ok (.ifCond .ne 9, 3) := by decide +kernel
theorem dX12_copy_154 : decode cX12_copy 154 = .ok (.aload_n 0, 1) := by decide +kernel
theorem dX12_copy_155 : decode cX12_copy 155 = .ok (.iconst 2, 1) := by decide +kernel
theorem dX12_copy_156 : decode cX12_copy 156 = .ok (.invokevirtual 193, 3) := by decide +kernel
theorem dX12_copy_159 : decode cX12_copy 159 = .ok (.ireturn, 1) := by decide +kernel
theorem dX12_copy_160 : decode cX12_copy 160 = .ok (.aload_n 0, 1) := by decide +kernel
theorem dX12_copy_161 : decode cX12_copy 161 = .ok (.iload_n 3, 1) := by decide +kernel
theorem dX12_copy_162 : decode cX12_copy 162 = .ok (.ifCond .eq 8, 3) := by decide +kernel
theorem dX12_copy_165 : decode cX12_copy 165 = .ok (.bipush 7, 2) := by decide +kernel
theorem dX12_copy_167 : decode cX12_copy 167 = .ok (.goto 4, 3) := by decide +kernel
theorem dX12_copy_170 : decode cX12_copy 170 = .ok (.iconst 0, 1) := by decide +kernel
theorem dX12_copy_171 : decode cX12_copy 171 = .ok (.putfield 114, 3) := by decide +kernel
theorem dX12_copy_174 : decode cX12_copy 174 = .ok (.iload_n 3, 1) := by decide +kernel
theorem dX12_copy_175 : decode cX12_copy 175 = .ok (.ifCond .eq 9, 3) := by decide +kernel
theorem dX12_copy_178 : decode cX12_copy 178 = .ok (.aload_n 0, 1) := by decide +kernel
theorem dX12_copy_179 : decode cX12_copy 179 = .ok (.iconst 4, 1) := by decide +kernel
theorem dX12_copy_180 : decode cX12_copy 180 = .ok (.invokevirtual 193, 3) := by decide +kernel
theorem dX12_copy_183 : decode cX12_copy 183 = .ok (.ireturn, 1) := by decide +kernel
theorem dX12_copy_184 : decode cX12_copy 184 = .ok (.iconst 0, 1) := by decide +kernel
theorem dX12_copy_185 : decode cX12_copy 185 = .ok (.istore 4, 2) := by decide +kernel
theorem dX12_copy_187 : decode cX12_copy 187 = .ok (.iconst 0, 1) := by decide +kernel
theorem dX12_copy_188 : decode cX12_copy 188 = .ok (.istore 5, 2) := by decide +kernel
theorem dX12_copy_190 : decode cX12_copy 190 = .ok (.iload 5, 2) := by decide +kernel
theorem dX12_copy_192 : decode cX12_copy 192 = .ok (.iload_n 2, 1) := by decide +kernel
theorem dX12_copy_193 : decode cX12_copy 193 = .ok (.if_icmp .ge 31, 3) := by decide +kernel
theorem dX12_copy_196 : decode cX12_copy 196 = .ok (.iload 4, 2) := by decide +kernel
theorem dX12_copy_198 : decode cX12_copy 198 = .ok (.aload_n 0, 1) := by decide +kernel
theorem dX12_copy_199 : decode cX12_copy 199 = .ok (.getfield 302, 3) := by decide +kernel
theorem dX12_copy_202 : decode cX12_copy 202 = .ok (.iload 5, 2) := by decide +kernel
theorem dX12_copy_204 : decode cX12_copy 204 = .ok (.iaload, 1) := by decide +kernel
theorem dX12_copy_205 : decode cX12_copy 205 = .ok (.aload_n 0, 1) := by decide +kernel
theorem dX12_copy_206 : decode cX12_copy 206 = .ok (.getfield 299, 3) := by decide +kernel
theorem dX12_copy_209 : decode cX12_copy 209 = .ok (.iload 5, 2) := by decide +kernel
theorem dX12_copy_211 : decode cX12_copy 211 = .ok (.iaload, 1) := by decide +kernel
theorem dX12_copy_212 : decode cX12_copy 212 = .ok (.isub, 1) := by decide +kernel
theorem dX12_copy_213 : decode cX12_copy 213 = .ok (.iconst 1, 1) := by decide +kernel
theorem dX12_copy_214 : decode cX12_copy 214 = .ok (.iadd, 1) := by decide +kernel
theorem dX12_copy_215 : decode cX12_copy 215 = .ok (.iadd, 1) := by decide +kernel
theorem dX12_copy_216 : decode cX12_copy 216 = .ok (.istore 4, 2) := by decide +kernel
theorem dX12_copy_218 : decode cX12_copy 218 = .ok (.iinc 5 1, 3) := by decide +kernel
theorem dX12_copy_221 : decode cX12_copy 221 = .ok (.goto (-31), 3) := by decide +kernel
theorem dX12_copy_224 : decode cX12_copy 224 = .ok (.aload_n 0, 1) := by decide +kernel
theorem dX12_copy_225 : decode cX12_copy 225 = .ok (.getfield 14, 3) := by decide +kernel
theorem dX12_copy_228 : decode cX12_copy 228 = .ok (.bipush 16, 2) := by decide +kernel
theorem dX12_copy_230 : decode cX12_copy 230 = .ok (.if_icmp .eq 11, 3) := by decide +kernel
theorem dX12_copy_233 : decode cX12_copy 233 = .ok (.iload 4, 2) := by decide +kernel
theorem dX12_copy_235 : decode cX12_copy 235 = .ok (.sipush 400, 3) := by decide +kernel
theorem dX12_copy_238 : decode cX12_copy 238 = .ok (.if_icmp .le 10, 3) := by decide +kernel
theorem dX12_copy_241 : decode cX12_copy 241 = .ok (.aload_n 0, 1) := by decide +kernel
theorem dX12_copy_242 : decode cX12_copy 242 = .ok (.bipush 9, 2) := by decide +kernel
theorem dX12_copy_244 : decode cX12_copy 244 = .ok (.invokevirtual 193, 3) := by decide +kernel
theorem dX12_copy_247 : decode cX12_copy 247 = .ok (.ireturn, 1) := by decide +kernel
theorem dX12_copy_248 : decode cX12_copy 248 = .ok (.aload_n 0, 1) := by decide +kernel
theorem dX12_copy_249 : decode cX12_copy 249 = .ok (.getfield 14, 3) := by decide +kernel
theorem dX12_copy_252 : decode cX12_copy 252 = .ok (.istore 5, 2) := by decide +kernel
theorem dX12_copy_254 : decode cX12_copy 254 = .ok (.iconst 0, 1) := by decide +kernel
theorem dX12_copy_255 : decode cX12_copy 255 = .ok (.istore 4, 2) := by decide +kernel
theorem dX12_copy_257 : decode cX12_copy 257 = .ok (.iconst 0, 1) := by decide +kernel
theorem dX12_copy_258 : decode cX12_copy 258 = .ok (.istore 6, 2) := by decide +kernel
theorem dX12_copy_260 : decode cX12_copy 260 = .ok (.iload 6, 2) := by decide +kernel
theorem dX12_copy_262 : decode cX12_copy 262 = .ok (.iload_n 2, 1) := by decide +kernel
theorem dX12_copy_263 : decode cX12_copy 263 = .ok (.if_icmp .ge 55, 3) := by decide +kernel
theorem dX12_copy_266 : decode cX12_copy 266 = .ok (.aload_n 0, 1) := by decide +kernel
theorem dX12_copy_267 : decode cX12_copy 267 = .ok (.getfield 299, 3) := by decide +kernel
theorem dX12_copy_270 : decode cX12_copy 270 = .ok (.iload 6, 2) := by decide +kernel
theorem dX12_copy_272 : decode cX12_copy 272 = .ok (.iaload, 1) := by decide +kernel
theorem dX12_copy_273 : decode cX12_copy 273 = .ok (.istore 7, 2) := by decide +kernel
theorem dX12_copy_275 : decode cX12_copy 275 = .ok (.iload 7, 2) := by decide +kernel
theorem dX12_copy_277 : decode cX12_copy 277 = .ok (.aload_n 0, 1) := by decide +kernel
theorem dX12_copy_278 : decode cX12_copy 278 = .ok (.getfield 302, 3) := by decide +kernel
theorem dX12_copy_281 : decode cX12_copy 281 = .ok (.iload 6, 2) := by decide +kernel
theorem dX12_copy_283 : decode cX12_copy 283 = .ok (.iaload, 1) := by decide +kernel
theorem dX12_copy_284 : decode cX12_copy 284 = .ok (.if_icmp .gt 28, 3) := by decide +kernel
theorem dX12_copy_287 : decode cX12_copy 287 = .ok (.aload_n 0, 1) := by decide +kernel
theorem dX12_copy_288 : decode cX12_copy 288 = .ok (.getfield 245, 3) := by decide +kernel
theorem dX12_copy_291 : decode cX12_copy 291 = .ok (.iload 5, 2) := by decide +kernel
theorem dX12_copy_293 : decode cX12_copy 293 = .ok (.sipush 400, 3) := by decide +kernel
theorem dX12_copy_296 : decode cX12_copy 296 = .ok (.imul, 1) := by decide +kernel
theorem dX12_copy_297 : decode cX12_copy 297 = .ok (.iload 4, 2) := by decide +kernel
theorem dX12_copy_299 : decode cX12_copy 299 = .ok (.iadd, 1) := by decide +kernel
theorem dX12_copy_300 : decode cX12_copy 300 = .ok (.iload 7, 2) := by decide +kernel
theorem dX12_copy_302 : decode cX12_copy 302 = .ok (.iastore, 1) := by decide +kernel
theorem dX12_copy_303 : decode cX12_copy 303 = .ok (.iinc 4 1, 3) := by decide +kernel
theorem dX12_copy_306 : decode cX12_copy 306 = .ok (.iinc 7 1, 3) := by decide +kernel
theorem dX12_copy_309 : decode cX12_copy 309 = .ok (.goto (-34), 3) := by decide +kernel
theorem dX12_copy_312 : decode cX12_copy 312 = .ok (.iinc 6 1, 3) := by decide +kernel
theorem dX12_copy_315 : decode cX12_copy 315 = .ok (.goto (-55), 3) := by decide +kernel
theorem dX12_copy_318 : decode cX12_copy 318 = .ok (.aload_n 0, 1) := by decide +kernel
theorem dX12_copy_319 : decode cX12_copy 319 = .ok (.getfield 242, 3) := by decide +kernel
theorem dX12_copy_322 : decode cX12_copy 322 = .ok (.iload 5, 2) := by decide +kernel
theorem dX12_copy_324 : decode cX12_copy 324 = .ok (.iload 4, 2) := by decide +kernel
theorem dX12_copy_326 : decode cX12_copy 326 = .ok (.iastore, 1) := by decide +kernel
theorem dX12_copy_327 : decode cX12_copy 327 = .ok (.aload_n 0, 1) := by decide +kernel
theorem dX12_copy_328 : decode cX12_copy 328 = .ok (.getfield 236, 3) := by decide +kernel
theorem dX12_copy_331 : decode cX12_copy 331 = .ok (.iload 5, 2) := by decide +kernel
theorem dX12_copy_333 : decode cX12_copy 333 = .ok (.iload_n 1, 1) := by decide +kernel
theorem dX12_copy_334 : decode cX12_copy 334 = .ok (.iastore, 1) := by decide +kernel
theorem dX12_copy_335 : decode cX12_copy 335 = .ok (.aload_n 0, 1) := by decide +kernel
theorem dX12_copy_336 : decode cX12_copy 336 = .ok (.dup, 1) := by decide +kernel
theorem dX12_copy_337 : decode cX12_copy 337 = .ok (.getfield 14, 3) := by decide +kernel
theorem dX12_copy_340 : decode cX12_copy 340 = .ok (.iconst 1, 1) := by decide +kernel
theorem dX12_copy_341 : decode cX12_copy 341 = .ok (.iadd, 1) := by decide +kernel
theorem dX12_copy_342 : decode cX12_copy 342 = .ok (.putfield 14, 3) := by decide +kernel
theorem dX12_copy_345 : decode cX12_copy 345 = .ok (.aload_n 0, 1) := by decide +kernel
theorem dX12_copy_346 : decode cX12_copy 346 = .ok (.iload 5, 2) := by decide +kernel
theorem dX12_copy_348 : decode cX12_copy 348 = .ok (.invokevirtual 199, 3) := by decide +kernel
theorem dX12_copy_351 : decode cX12_copy 351 = .ok (.ireturn, 1) := by decide +kernel
def X12_copy_241  (this : Nat) : MM Int32 :=
  mb (wc 13 (some this) fun t => X12_no t (9 : Int32)) fun v1 =>
  mr v1
def X12_copy_312 (k260 : Nat → Int32 → Int32 → Int32 → Int32 → Int32 → MM Int32) (this : Nat) (x1 : Int32) (x2 : Int32) (x4 : Int32) (x5 : Int32) (x6 : Int32) : MM Int32 :=
  (k260 this x1 x2 x4 x5 (x6 + (1 : Int32)))
def X12_copy_275_st (k260 : Nat → Int32 → Int32 → Int32 → Int32 → Int32 → MM Int32) (k275 : Nat → Int32 → Int32 → Int32 → Int32 → Int32 → Int32 → MM Int32) (this : Nat) (x1 : Int32) (x2 : Int32) (x4 : Int32) (x5 : Int32) (x6 : Int32) (x7 : Int32) : MM Int32 :=
  mb (gR 13 (some this) 46) fun v1 =>
  mb (aI v1 x6) fun v2 =>
  if v2 < x7 then ((X12_copy_312 k260 this x1 x2 x4 x5 x6)) else (mb (gR 13 (some this) 18) fun v3 =>
  mb (sI v3 ((x5 * (400 : Int32)) + x4) x7) fun _ =>
  (k275 this x1 x2 (x4 + (1 : Int32)) x5 x6 (x7 + (1 : Int32))))
def X12_copy_275 (k260 : Nat → Int32 → Int32 → Int32 → Int32 → Int32 → MM Int32) : Nat → Nat → Int32 → Int32 → Int32 → Int32 → Int32 → Int32 → MM Int32
  | 0 => fun _ _ _ _ _ _ _ => mf
  | n + 1 => fun this x1 x2 x4 x5 x6 x7 => X12_copy_275_st k260 (X12_copy_275 k260 n) this x1 x2 x4 x5 x6 x7
def X12_copy_318  (this : Nat) (x1 : Int32) (x4 : Int32) (x5 : Int32) : MM Int32 :=
  mb (gR 13 (some this) 17) fun v1 =>
  mb (sI v1 x5 x4) fun _ =>
  mb (gR 13 (some this) 16) fun v2 =>
  mb (sI v2 x5 x1) fun _ =>
  mb (gI 13 (some this) 15) fun v3 =>
  mb (pI 13 (some this) 15 (v3 + (1 : Int32))) fun _ =>
  mb (wc 13 (some this) fun t => X12_fine t x5) fun v4 =>
  mr v4
def X12_copy_260_st  (k260 : Nat → Int32 → Int32 → Int32 → Int32 → Int32 → MM Int32) (this : Nat) (x1 : Int32) (x2 : Int32) (x4 : Int32) (x5 : Int32) (x6 : Int32) : MM Int32 :=
  if x2 ≤ x6 then ((X12_copy_318 this x1 x4 x5)) else (mb (gR 13 (some this) 45) fun v1 =>
  mb (aI v1 x6) fun v2 =>
  (X12_copy_275 k260 LFU this x1 x2 x4 x5 x6 v2))
def X12_copy_260  : Nat → Nat → Int32 → Int32 → Int32 → Int32 → Int32 → MM Int32
  | 0 => fun _ _ _ _ _ _ => mf
  | n + 1 => fun this x1 x2 x4 x5 x6 => X12_copy_260_st  (X12_copy_260  n) this x1 x2 x4 x5 x6
def X12_copy_224  (this : Nat) (x1 : Int32) (x2 : Int32) (x4 : Int32) : MM Int32 :=
  mb (gI 13 (some this) 15) fun v1 =>
  if v1 = (16 : Int32) then ((X12_copy_241 this)) else (if x4 ≤ (400 : Int32) then (mb (gI 13 (some this) 15) fun v2 =>
  (X12_copy_260 LFU this x1 x2 (0 : Int32) v2 (0 : Int32))) else ((X12_copy_241 this)))
def X12_copy_190_st  (k190 : Nat → Int32 → Int32 → Int32 → Int32 → MM Int32) (this : Nat) (x1 : Int32) (x2 : Int32) (x4 : Int32) (x5 : Int32) : MM Int32 :=
  if x2 ≤ x5 then ((X12_copy_224 this x1 x2 x4)) else (mb (gR 13 (some this) 46) fun v1 =>
  mb (aI v1 x5) fun v2 =>
  mb (gR 13 (some this) 45) fun v3 =>
  mb (aI v3 x5) fun v4 =>
  (k190 this x1 x2 (x4 + ((v2 - v4) + (1 : Int32))) (x5 + (1 : Int32))))
def X12_copy_190  : Nat → Nat → Int32 → Int32 → Int32 → Int32 → MM Int32
  | 0 => fun _ _ _ _ _ => mf
  | n + 1 => fun this x1 x2 x4 x5 => X12_copy_190_st  (X12_copy_190  n) this x1 x2 x4 x5
def X12_copy_171  (this : Nat) (x1 : Int32) (x2 : Int32) (x3 : Int32) (y0 : Int32) : MM Int32 :=
  mb (pI 13 (some this) 4 y0) fun _ =>
  if x3 = 0 then ((X12_copy_190 LFU this x1 x2 (0 : Int32) (0 : Int32))) else (mb (wc 13 (some this) fun t => X12_no t (4 : Int32)) fun v1 =>
  mr v1)
def X12_copy_147  (this : Nat) (x1 : Int32) (x2 : Int32) (x3 : Int32) : MM Int32 :=
  mb (wc 13 (some this) fun t => X12_ends t ) fun v1 =>
  if v1 = 0 then (mb (wc 13 (some this) fun t => X12_no t (2 : Int32)) fun v2 =>
  mr v2) else (if x3 = 0 then ((X12_copy_171 this x1 x2 x3 (0 : Int32))) else ((X12_copy_171 this x1 x2 x3 (7 : Int32))))
def X12_copy_129 (k27 : Nat → Int32 → Int32 → Int32 → MM Int32) (this : Nat) (x1 : Int32) (x2 : Int32) (y0 : Int32) : MM Int32 :=
  mb (gI 13 (some this) 23) fun v1 =>
  if v1 = 0 then ((X12_copy_147 this x1 (x2 + (1 : Int32)) y0)) else (mb (gI 13 (some this) 21) fun v2 =>
  if v2 = 0 then ((X12_copy_147 this x1 (x2 + (1 : Int32)) y0)) else ((k27 this x1 (x2 + (1 : Int32)) y0)))
def X12_copy_124 (k27 : Nat → Int32 → Int32 → Int32 → MM Int32) (this : Nat) (x1 : Int32) (x2 : Int32) : MM Int32 :=
  (X12_copy_129 k27 this x1 x2 (1 : Int32))
def X12_copy_128 (k27 : Nat → Int32 → Int32 → Int32 → MM Int32) (this : Nat) (x1 : Int32) (x2 : Int32) : MM Int32 :=
  (X12_copy_129 k27 this x1 x2 (0 : Int32))
def X12_copy_82 (k27 : Nat → Int32 → Int32 → Int32 → MM Int32) (this : Nat) (x1 : Int32) (x2 : Int32) (x3 : Int32) (x4 : Int32) : MM Int32 :=
  if x3 = 0 then (mb (gR 13 (some this) 45) fun v1 =>
  mb (aI v1 x2) fun v2 =>
  if v2 < 0 then ((X12_copy_124 k27 this x1 x2)) else (mb (gR 13 (some this) 46) fun v3 =>
  mb (aI v3 x2) fun v4 =>
  if v4 < 0 then ((X12_copy_124 k27 this x1 x2)) else (if x4 = 0 then ((X12_copy_128 k27 this x1 x2)) else (mb (gR 13 (some this) 46) fun v5 =>
  mb (aI v5 x2) fun v6 =>
  mb (gR 13 (some this) 45) fun v7 =>
  mb (aI v7 x2) fun v8 =>
  if v8 < v6 then ((X12_copy_128 k27 this x1 x2)) else ((X12_copy_124 k27 this x1 x2)))))) else ((X12_copy_124 k27 this x1 x2))
def X12_copy_27_st  (k27 : Nat → Int32 → Int32 → Int32 → MM Int32) (this : Nat) (x1 : Int32) (x2 : Int32) (x3 : Int32) : MM Int32 :=
  mb (wc 13 (some this) fun t => X12_readName t ) fun _ =>
  mb (gR 13 (some this) 45) fun v1 =>
  mb (wc 13 (some this) fun t => X12_named t x1) fun v2 =>
  mb (sI v1 x2 v2) fun _ =>
  mb (gR 13 (some this) 46) fun v3 =>
  mb (gR 13 (some this) 45) fun v4 =>
  mb (aI v4 x2) fun v5 =>
  mb (sI v3 x2 v5) fun _ =>
  mb (wc 13 (some this) fun t => X12_goes t (45 : Int32)) fun v6 =>
  if v6 = 0 then ((X12_copy_82 k27 this x1 x2 x3 v6)) else (mb (wc 13 (some this) fun t => X12_readName t ) fun _ =>
  mb (gR 13 (some this) 46) fun v7 =>
  mb (wc 13 (some this) fun t => X12_named t x1) fun v8 =>
  mb (sI v7 x2 v8) fun _ =>
  (X12_copy_82 k27 this x1 x2 x3 v6))
def X12_copy_27  : Nat → Nat → Int32 → Int32 → Int32 → MM Int32
  | 0 => fun _ _ _ _ => mf
  | n + 1 => fun this x1 x2 x3 => X12_copy_27_st  (X12_copy_27  n) this x1 x2 x3
def X12_copy (this : Nat) (a1 : Int32) : MM Int32 :=
  mb (wc 13 (some this) fun t => X12_isBook t a1) fun v1 =>
  if v1 = 0 then (mb (pI 13 (some this) 1 (0 : Int32)) fun _ =>
  mb (wc 13 (some this) fun t => X12_no t (1 : Int32)) fun v2 =>
  mr v2) else (mb (wc 13 (some this) fun t => X12_begins t ) fun _ =>
  (X12_copy_27 LFU this a1 (0 : Int32) (0 : Int32)))
set_option maxRecDepth 100000 in
set_option maxHeartbeats 4000000 in
theorem s_X12_copy_241 (G : GG)   (this : Nat) : Sn G yX12_copy cX12_copy 8 (some FieldType.int) 9 194 (fun v : Int32 => some (.int v)) (X12_copy_241  this) 241 [some (va_rf (some this)), none, none, none, none, none, none, none] [] := by
  unfold X12_copy_241
  refine sn_aload_n (v := (some this)) (pc' := 242) dX12_copy_241 rfl rfl rfl ?_
  refine sn_bipush (v := (9 : Int32)) (pc' := 244) dX12_copy_242 rfl (by decide) ?_
  refine sn_cV (r := (some this)) (st := []) (As := [.int (9 : Int32)]) (st2 := (fun v => .int v :: [])) (pc' := 247) ci_13 (fun t => c_X12_no G t (9 : Int32)) cw_X12_no rfl rfl tw1431 pw44 tw1433 rfl rfl cat_nil rfl (fun _ => rfl) dX12_copy_244 rfl (fun v1 => ?_)
  exact sn_iret dX12_copy_247 rfl rfl
set_option maxRecDepth 100000 in
set_option maxHeartbeats 4000000 in
theorem s_X12_copy_312 (G : GG) (k260 : Nat → Int32 → Int32 → Int32 → Int32 → Int32 → MM Int32) (hk260 : ∀ (this : Nat) (x1 : Int32) (x2 : Int32) (x4 : Int32) (x5 : Int32) (x6 : Int32), Sn G yX12_copy cX12_copy 8 (some FieldType.int) 9 194 (fun v : Int32 => some (.int v)) (k260 this x1 x2 x4 x5 x6) 260 [some (va_rf (some this)), some (.int x1), some (.int x2), none, some (.int x4), some (.int x5), some (.int x6), none] []) (this : Nat) (x1 : Int32) (x2 : Int32) (x4 : Int32) (x5 : Int32) (x6 : Int32) : Sn G yX12_copy cX12_copy 8 (some FieldType.int) 9 194 (fun v : Int32 => some (.int v)) (X12_copy_312 k260 this x1 x2 x4 x5 x6) 312 [some (va_rf (some this)), some (.int x1), some (.int x2), none, some (.int x4), some (.int x5), some (.int x6), none] [] := by
  unfold X12_copy_312
  refine sn_iinc (v := x6) (w := 1) (L' := [some (va_rf (some this)), some (.int x1), some (.int x2), none, some (.int x4), some (.int x5), some (.int (x6 + (1 : Int32))), none]) (pc' := 315) dX12_copy_312 rfl rfl rfl (by decide) rfl ?_
  refine sn_goto (pc' := 260) dX12_copy_315 rfl ?_
  exact sn_weak (le_s (le_s (le_s (le_n (le_s (le_s (le_s (le_n le_e)))))))) (hk260 this x1 x2 x4 x5 (x6 + (1 : Int32)))
set_option maxRecDepth 100000 in
set_option maxHeartbeats 4000000 in
theorem s_X12_copy_275_st (G : GG) (k260 : Nat → Int32 → Int32 → Int32 → Int32 → Int32 → MM Int32) (hk260 : ∀ (this : Nat) (x1 : Int32) (x2 : Int32) (x4 : Int32) (x5 : Int32) (x6 : Int32), Sn G yX12_copy cX12_copy 8 (some FieldType.int) 9 194 (fun v : Int32 => some (.int v)) (k260 this x1 x2 x4 x5 x6) 260 [some (va_rf (some this)), some (.int x1), some (.int x2), none, some (.int x4), some (.int x5), some (.int x6), none] []) (k275 : Nat → Int32 → Int32 → Int32 → Int32 → Int32 → Int32 → MM Int32) (hk275 : ∀ (this : Nat) (x1 : Int32) (x2 : Int32) (x4 : Int32) (x5 : Int32) (x6 : Int32) (x7 : Int32), Sn G yX12_copy cX12_copy 8 (some FieldType.int) 9 194 (fun v : Int32 => some (.int v)) (k275 this x1 x2 x4 x5 x6 x7) 275 [some (va_rf (some this)), some (.int x1), some (.int x2), none, some (.int x4), some (.int x5), some (.int x6), some (.int x7)] []) (this : Nat) (x1 : Int32) (x2 : Int32) (x4 : Int32) (x5 : Int32) (x6 : Int32) (x7 : Int32) : Sn G yX12_copy cX12_copy 8 (some FieldType.int) 9 194 (fun v : Int32 => some (.int v)) (X12_copy_275_st k260 k275 this x1 x2 x4 x5 x6 x7) 275 [some (va_rf (some this)), some (.int x1), some (.int x2), none, some (.int x4), some (.int x5), some (.int x6), some (.int x7)] [] := by
  unfold X12_copy_275_st
  refine sn_iload (v := x7) (pc' := 277) dX12_copy_275 rfl rfl ?_
  refine sn_aload_n (v := (some this)) (pc' := 278) dX12_copy_277 rfl rfl rfl ?_
  refine sn_gR (k := 46) (pc' := 281) ci_13 rfl (Or.inl tw1324) dX12_copy_278 rfl (fun v1 => ?_)
  refine sn_iload (v := x6) (pc' := 283) dX12_copy_281 rfl rfl ?_
  refine sn_aI (pc' := 284) dX12_copy_283 rfl (fun v2 => ?_)
  refine sn_ic_gt (pt := 312) (pf := 287) dX12_copy_284 rfl rfl ?_ ?_
  · exact sn_weak (le_s (le_s (le_s (le_n (le_s (le_s (le_s (le_n le_e)))))))) (s_X12_copy_312 G k260 hk260 this x1 x2 x4 x5 x6)
  · refine sn_aload_n (v := (some this)) (pc' := 288) dX12_copy_287 rfl rfl rfl ?_
    refine sn_gR (k := 18) (pc' := 291) ci_13 rfl (Or.inl tw1296) dX12_copy_288 rfl (fun v3 => ?_)
    refine sn_iload (v := x5) (pc' := 293) dX12_copy_291 rfl rfl ?_
    refine sn_sipush (v := (400 : Int32)) (pc' := 296) dX12_copy_293 rfl (by decide) ?_
    refine sn_imul (pc' := 297) dX12_copy_296 rfl ?_
    refine sn_iload (v := x4) (pc' := 299) dX12_copy_297 rfl rfl ?_
    refine sn_iadd (pc' := 300) dX12_copy_299 rfl ?_
    refine sn_iload (v := x7) (pc' := 302) dX12_copy_300 rfl rfl ?_
    refine sn_sI (pc' := 303) dX12_copy_302 rfl (fun _ => ?_)
    refine sn_iinc (v := x4) (w := 1) (L' := [some (va_rf (some this)), some (.int x1), some (.int x2), none, some (.int (x4 + (1 : Int32))), some (.int x5), some (.int x6), some (.int x7)]) (pc' := 306) dX12_copy_303 rfl rfl rfl (by decide) rfl ?_
    refine sn_iinc (v := x7) (w := 1) (L' := [some (va_rf (some this)), some (.int x1), some (.int x2), none, some (.int (x4 + (1 : Int32))), some (.int x5), some (.int x6), some (.int (x7 + (1 : Int32)))]) (pc' := 309) dX12_copy_306 rfl rfl rfl (by decide) rfl ?_
    refine sn_goto (pc' := 275) dX12_copy_309 rfl ?_
    exact sn_weak (le_s (le_s (le_s (le_n (le_s (le_s (le_s (le_s le_e)))))))) (hk275 this x1 x2 (x4 + (1 : Int32)) x5 x6 (x7 + (1 : Int32)))
set_option maxRecDepth 100000 in
set_option maxHeartbeats 4000000 in
theorem s_X12_copy_275 (G : GG) (k260 : Nat → Int32 → Int32 → Int32 → Int32 → Int32 → MM Int32) (hk260 : ∀ (this : Nat) (x1 : Int32) (x2 : Int32) (x4 : Int32) (x5 : Int32) (x6 : Int32), Sn G yX12_copy cX12_copy 8 (some FieldType.int) 9 194 (fun v : Int32 => some (.int v)) (k260 this x1 x2 x4 x5 x6) 260 [some (va_rf (some this)), some (.int x1), some (.int x2), none, some (.int x4), some (.int x5), some (.int x6), none] []) : ∀ (n : Nat) (this : Nat) (x1 : Int32) (x2 : Int32) (x4 : Int32) (x5 : Int32) (x6 : Int32) (x7 : Int32), Sn G yX12_copy cX12_copy 8 (some FieldType.int) 9 194 (fun v : Int32 => some (.int v)) (X12_copy_275 k260 n this x1 x2 x4 x5 x6 x7) 275 [some (va_rf (some this)), some (.int x1), some (.int x2), none, some (.int x4), some (.int x5), some (.int x6), some (.int x7)] [] := by
  intro n
  induction n with
  | zero => intro this x1 x2 x4 x5 x6 x7; exact sn_mf
  | succ n ih => intro this x1 x2 x4 x5 x6 x7; exact s_X12_copy_275_st G k260 hk260 (X12_copy_275 k260 n) ih this x1 x2 x4 x5 x6 x7
set_option maxRecDepth 100000 in
set_option maxHeartbeats 4000000 in
theorem s_X12_copy_318 (G : GG)   (this : Nat) (x1 : Int32) (x4 : Int32) (x5 : Int32) : Sn G yX12_copy cX12_copy 8 (some FieldType.int) 9 194 (fun v : Int32 => some (.int v)) (X12_copy_318  this x1 x4 x5) 318 [some (va_rf (some this)), some (.int x1), none, none, some (.int x4), some (.int x5), none, none] [] := by
  unfold X12_copy_318
  refine sn_aload_n (v := (some this)) (pc' := 319) dX12_copy_318 rfl rfl rfl ?_
  refine sn_gR (k := 17) (pc' := 322) ci_13 rfl (Or.inl tw1295) dX12_copy_319 rfl (fun v1 => ?_)
  refine sn_iload (v := x5) (pc' := 324) dX12_copy_322 rfl rfl ?_
  refine sn_iload (v := x4) (pc' := 326) dX12_copy_324 rfl rfl ?_
  refine sn_sI (pc' := 327) dX12_copy_326 rfl (fun _ => ?_)
  refine sn_aload_n (v := (some this)) (pc' := 328) dX12_copy_327 rfl rfl rfl ?_
  refine sn_gR (k := 16) (pc' := 331) ci_13 rfl (Or.inl tw1294) dX12_copy_328 rfl (fun v2 => ?_)
  refine sn_iload (v := x5) (pc' := 333) dX12_copy_331 rfl rfl ?_
  refine sn_iload_n (v := x1) (pc' := 334) dX12_copy_333 rfl rfl rfl ?_
  refine sn_sI (pc' := 335) dX12_copy_334 rfl (fun _ => ?_)
  refine sn_aload_n (v := (some this)) (pc' := 336) dX12_copy_335 rfl rfl rfl ?_
  refine sn_dup (pc' := 337) dX12_copy_336 rfl (cat_rf _) ?_
  refine sn_gI (k := 15) (pc' := 340) ci_13 rfl (Or.inl tw1293) dX12_copy_337 rfl (fun v3 => ?_)
  refine sn_iconst (v := (1 : Int32)) (pc' := 341) dX12_copy_340 rfl (by decide) ?_
  refine sn_iadd (pc' := 342) dX12_copy_341 rfl ?_
  refine sn_pI (k := 15) (pc' := 345) ci_13 rfl (Or.inl tw1293) (Or.inl rfl) rfl dX12_copy_342 rfl (fun _ => ?_)
  refine sn_aload_n (v := (some this)) (pc' := 346) dX12_copy_345 rfl rfl rfl ?_
  refine sn_iload (v := x5) (pc' := 348) dX12_copy_346 rfl rfl ?_
  refine sn_cV (r := (some this)) (st := []) (As := [.int x5]) (st2 := (fun v => .int v :: [])) (pc' := 351) ci_13 (fun t => c_X12_fine G t x5) cw_X12_fine rfl rfl tw1435 pw45 tw1437 rfl rfl cat_nil rfl (fun _ => rfl) dX12_copy_348 rfl (fun v4 => ?_)
  exact sn_iret dX12_copy_351 rfl rfl
set_option maxRecDepth 100000 in
set_option maxHeartbeats 4000000 in
theorem s_X12_copy_260_st (G : GG)   (k260 : Nat → Int32 → Int32 → Int32 → Int32 → Int32 → MM Int32) (hk260 : ∀ (this : Nat) (x1 : Int32) (x2 : Int32) (x4 : Int32) (x5 : Int32) (x6 : Int32), Sn G yX12_copy cX12_copy 8 (some FieldType.int) 9 194 (fun v : Int32 => some (.int v)) (k260 this x1 x2 x4 x5 x6) 260 [some (va_rf (some this)), some (.int x1), some (.int x2), none, some (.int x4), some (.int x5), some (.int x6), none] []) (this : Nat) (x1 : Int32) (x2 : Int32) (x4 : Int32) (x5 : Int32) (x6 : Int32) : Sn G yX12_copy cX12_copy 8 (some FieldType.int) 9 194 (fun v : Int32 => some (.int v)) (X12_copy_260_st  k260 this x1 x2 x4 x5 x6) 260 [some (va_rf (some this)), some (.int x1), some (.int x2), none, some (.int x4), some (.int x5), some (.int x6), none] [] := by
  unfold X12_copy_260_st
  refine sn_iload (v := x6) (pc' := 262) dX12_copy_260 rfl rfl ?_
  refine sn_iload_n (v := x2) (pc' := 263) dX12_copy_262 rfl rfl rfl ?_
  refine sn_ic_ge (pt := 318) (pf := 266) dX12_copy_263 rfl rfl ?_ ?_
  · exact sn_weak (le_s (le_s (le_n (le_n (le_s (le_s (le_n (le_n le_e)))))))) (s_X12_copy_318 G this x1 x4 x5)
  · refine sn_aload_n (v := (some this)) (pc' := 267) dX12_copy_266 rfl rfl rfl ?_
    refine sn_gR (k := 45) (pc' := 270) ci_13 rfl (Or.inl tw1323) dX12_copy_267 rfl (fun v1 => ?_)
    refine sn_iload (v := x6) (pc' := 272) dX12_copy_270 rfl rfl ?_
    refine sn_aI (pc' := 273) dX12_copy_272 rfl (fun v2 => ?_)
    refine sn_istore (v := v2) (L' := [some (va_rf (some this)), some (.int x1), some (.int x2), none, some (.int x4), some (.int x5), some (.int x6), some (.int v2)]) (pc' := 275) dX12_copy_273 rfl rfl rfl ?_
    exact sn_weak (le_s (le_s (le_s (le_n (le_s (le_s (le_s (le_s le_e)))))))) (s_X12_copy_275 G k260 hk260 LFU this x1 x2 x4 x5 x6 v2)
set_option maxRecDepth 100000 in
set_option maxHeartbeats 4000000 in
theorem s_X12_copy_260 (G : GG)   : ∀ (n : Nat) (this : Nat) (x1 : Int32) (x2 : Int32) (x4 : Int32) (x5 : Int32) (x6 : Int32), Sn G yX12_copy cX12_copy 8 (some FieldType.int) 9 194 (fun v : Int32 => some (.int v)) (X12_copy_260  n this x1 x2 x4 x5 x6) 260 [some (va_rf (some this)), some (.int x1), some (.int x2), none, some (.int x4), some (.int x5), some (.int x6), none] [] := by
  intro n
  induction n with
  | zero => intro this x1 x2 x4 x5 x6; exact sn_mf
  | succ n ih => intro this x1 x2 x4 x5 x6; exact s_X12_copy_260_st G   (X12_copy_260  n) ih this x1 x2 x4 x5 x6
set_option maxRecDepth 100000 in
set_option maxHeartbeats 4000000 in
theorem s_X12_copy_224 (G : GG)   (this : Nat) (x1 : Int32) (x2 : Int32) (x4 : Int32) : Sn G yX12_copy cX12_copy 8 (some FieldType.int) 9 194 (fun v : Int32 => some (.int v)) (X12_copy_224  this x1 x2 x4) 224 [some (va_rf (some this)), some (.int x1), some (.int x2), none, some (.int x4), none, none, none] [] := by
  unfold X12_copy_224
  refine sn_aload_n (v := (some this)) (pc' := 225) dX12_copy_224 rfl rfl rfl ?_
  refine sn_gI (k := 15) (pc' := 228) ci_13 rfl (Or.inl tw1293) dX12_copy_225 rfl (fun v1 => ?_)
  refine sn_bipush (v := (16 : Int32)) (pc' := 230) dX12_copy_228 rfl (by decide) ?_
  refine sn_ic_eq (pt := 241) (pf := 233) dX12_copy_230 rfl rfl ?_ ?_
  · exact sn_weak (le_s (le_n (le_n (le_n (le_n (le_n (le_n (le_n le_e)))))))) (s_X12_copy_241 G this)
  · refine sn_iload (v := x4) (pc' := 235) dX12_copy_233 rfl rfl ?_
    refine sn_sipush (v := (400 : Int32)) (pc' := 238) dX12_copy_235 rfl (by decide) ?_
    refine sn_ic_le (pt := 248) (pf := 241) dX12_copy_238 rfl rfl ?_ ?_
    · refine sn_aload_n (v := (some this)) (pc' := 249) dX12_copy_248 rfl rfl rfl ?_
      refine sn_gI (k := 15) (pc' := 252) ci_13 rfl (Or.inl tw1293) dX12_copy_249 rfl (fun v2 => ?_)
      refine sn_istore (v := v2) (L' := [some (va_rf (some this)), some (.int x1), some (.int x2), none, some (.int x4), some (.int v2), none, none]) (pc' := 254) dX12_copy_252 rfl rfl rfl ?_
      refine sn_iconst (v := (0 : Int32)) (pc' := 255) dX12_copy_254 rfl (by decide) ?_
      refine sn_istore (v := (0 : Int32)) (L' := [some (va_rf (some this)), some (.int x1), some (.int x2), none, some (.int (0 : Int32)), some (.int v2), none, none]) (pc' := 257) dX12_copy_255 rfl rfl rfl ?_
      refine sn_iconst (v := (0 : Int32)) (pc' := 258) dX12_copy_257 rfl (by decide) ?_
      refine sn_istore (v := (0 : Int32)) (L' := [some (va_rf (some this)), some (.int x1), some (.int x2), none, some (.int (0 : Int32)), some (.int v2), some (.int (0 : Int32)), none]) (pc' := 260) dX12_copy_258 rfl rfl rfl ?_
      exact sn_weak (le_s (le_s (le_s (le_n (le_s (le_s (le_s (le_n le_e)))))))) (s_X12_copy_260 G LFU this x1 x2 (0 : Int32) v2 (0 : Int32))
    · exact sn_weak (le_s (le_n (le_n (le_n (le_n (le_n (le_n (le_n le_e)))))))) (s_X12_copy_241 G this)
set_option maxRecDepth 100000 in
set_option maxHeartbeats 4000000 in
theorem s_X12_copy_190_st (G : GG)   (k190 : Nat → Int32 → Int32 → Int32 → Int32 → MM Int32) (hk190 : ∀ (this : Nat) (x1 : Int32) (x2 : Int32) (x4 : Int32) (x5 : Int32), Sn G yX12_copy cX12_copy 8 (some FieldType.int) 9 194 (fun v : Int32 => some (.int v)) (k190 this x1 x2 x4 x5) 190 [some (va_rf (some this)), some (.int x1), some (.int x2), none, some (.int x4), some (.int x5), none, none] []) (this : Nat) (x1 : Int32) (x2 : Int32) (x4 : Int32) (x5 : Int32) : Sn G yX12_copy cX12_copy 8 (some FieldType.int) 9 194 (fun v : Int32 => some (.int v)) (X12_copy_190_st  k190 this x1 x2 x4 x5) 190 [some (va_rf (some this)), some (.int x1), some (.int x2), none, some (.int x4), some (.int x5), none, none] [] := by
  unfold X12_copy_190_st
  refine sn_iload (v := x5) (pc' := 192) dX12_copy_190 rfl rfl ?_
  refine sn_iload_n (v := x2) (pc' := 193) dX12_copy_192 rfl rfl rfl ?_
  refine sn_ic_ge (pt := 224) (pf := 196) dX12_copy_193 rfl rfl ?_ ?_
  · exact sn_weak (le_s (le_s (le_s (le_n (le_s (le_n (le_n (le_n le_e)))))))) (s_X12_copy_224 G this x1 x2 x4)
  · refine sn_iload (v := x4) (pc' := 198) dX12_copy_196 rfl rfl ?_
    refine sn_aload_n (v := (some this)) (pc' := 199) dX12_copy_198 rfl rfl rfl ?_
    refine sn_gR (k := 46) (pc' := 202) ci_13 rfl (Or.inl tw1324) dX12_copy_199 rfl (fun v1 => ?_)
    refine sn_iload (v := x5) (pc' := 204) dX12_copy_202 rfl rfl ?_
    refine sn_aI (pc' := 205) dX12_copy_204 rfl (fun v2 => ?_)
    refine sn_aload_n (v := (some this)) (pc' := 206) dX12_copy_205 rfl rfl rfl ?_
    refine sn_gR (k := 45) (pc' := 209) ci_13 rfl (Or.inl tw1323) dX12_copy_206 rfl (fun v3 => ?_)
    refine sn_iload (v := x5) (pc' := 211) dX12_copy_209 rfl rfl ?_
    refine sn_aI (pc' := 212) dX12_copy_211 rfl (fun v4 => ?_)
    refine sn_isub (pc' := 213) dX12_copy_212 rfl ?_
    refine sn_iconst (v := (1 : Int32)) (pc' := 214) dX12_copy_213 rfl (by decide) ?_
    refine sn_iadd (pc' := 215) dX12_copy_214 rfl ?_
    refine sn_iadd (pc' := 216) dX12_copy_215 rfl ?_
    refine sn_istore (v := (x4 + ((v2 - v4) + (1 : Int32)))) (L' := [some (va_rf (some this)), some (.int x1), some (.int x2), none, some (.int (x4 + ((v2 - v4) + (1 : Int32)))), some (.int x5), none, none]) (pc' := 218) dX12_copy_216 rfl rfl rfl ?_
    refine sn_iinc (v := x5) (w := 1) (L' := [some (va_rf (some this)), some (.int x1), some (.int x2), none, some (.int (x4 + ((v2 - v4) + (1 : Int32)))), some (.int (x5 + (1 : Int32))), none, none]) (pc' := 221) dX12_copy_218 rfl rfl rfl (by decide) rfl ?_
    refine sn_goto (pc' := 190) dX12_copy_221 rfl ?_
    exact sn_weak (le_s (le_s (le_s (le_n (le_s (le_s (le_n (le_n le_e)))))))) (hk190 this x1 x2 (x4 + ((v2 - v4) + (1 : Int32))) (x5 + (1 : Int32)))
set_option maxRecDepth 100000 in
set_option maxHeartbeats 4000000 in
theorem s_X12_copy_190 (G : GG)   : ∀ (n : Nat) (this : Nat) (x1 : Int32) (x2 : Int32) (x4 : Int32) (x5 : Int32), Sn G yX12_copy cX12_copy 8 (some FieldType.int) 9 194 (fun v : Int32 => some (.int v)) (X12_copy_190  n this x1 x2 x4 x5) 190 [some (va_rf (some this)), some (.int x1), some (.int x2), none, some (.int x4), some (.int x5), none, none] [] := by
  intro n
  induction n with
  | zero => intro this x1 x2 x4 x5; exact sn_mf
  | succ n ih => intro this x1 x2 x4 x5; exact s_X12_copy_190_st G   (X12_copy_190  n) ih this x1 x2 x4 x5
set_option maxRecDepth 100000 in
set_option maxHeartbeats 4000000 in
theorem s_X12_copy_171 (G : GG)   (this : Nat) (x1 : Int32) (x2 : Int32) (x3 : Int32) (y0 : Int32) : Sn G yX12_copy cX12_copy 8 (some FieldType.int) 9 194 (fun v : Int32 => some (.int v)) (X12_copy_171  this x1 x2 x3 y0) 171 [some (va_rf (some this)), some (.int x1), some (.int x2), some (.int x3), none, none, none, none] [.int y0, va_rf (some this)] := by
  unfold X12_copy_171
  refine sn_pI (k := 4) (pc' := 174) ci_13 rfl (Or.inl tw1282) (Or.inl rfl) rfl dX12_copy_171 rfl (fun _ => ?_)
  refine sn_iload_n (v := x3) (pc' := 175) dX12_copy_174 rfl rfl rfl ?_
  refine sn_if_eq (pt := 184) (pf := 178) dX12_copy_175 rfl rfl ?_ ?_
  · refine sn_iconst (v := (0 : Int32)) (pc' := 185) dX12_copy_184 rfl (by decide) ?_
    refine sn_istore (v := (0 : Int32)) (L' := [some (va_rf (some this)), some (.int x1), some (.int x2), some (.int x3), some (.int (0 : Int32)), none, none, none]) (pc' := 187) dX12_copy_185 rfl rfl rfl ?_
    refine sn_iconst (v := (0 : Int32)) (pc' := 188) dX12_copy_187 rfl (by decide) ?_
    refine sn_istore (v := (0 : Int32)) (L' := [some (va_rf (some this)), some (.int x1), some (.int x2), some (.int x3), some (.int (0 : Int32)), some (.int (0 : Int32)), none, none]) (pc' := 190) dX12_copy_188 rfl rfl rfl ?_
    exact sn_weak (le_s (le_s (le_s (le_n (le_s (le_s (le_n (le_n le_e)))))))) (s_X12_copy_190 G LFU this x1 x2 (0 : Int32) (0 : Int32))
  · refine sn_aload_n (v := (some this)) (pc' := 179) dX12_copy_178 rfl rfl rfl ?_
    refine sn_iconst (v := (4 : Int32)) (pc' := 180) dX12_copy_179 rfl (by decide) ?_
    refine sn_cV (r := (some this)) (st := []) (As := [.int (4 : Int32)]) (st2 := (fun v => .int v :: [])) (pc' := 183) ci_13 (fun t => c_X12_no G t (4 : Int32)) cw_X12_no rfl rfl tw1431 pw44 tw1433 rfl rfl cat_nil rfl (fun _ => rfl) dX12_copy_180 rfl (fun v1 => ?_)
    exact sn_iret dX12_copy_183 rfl rfl
set_option maxRecDepth 100000 in
set_option maxHeartbeats 4000000 in
theorem s_X12_copy_147 (G : GG)   (this : Nat) (x1 : Int32) (x2 : Int32) (x3 : Int32) : Sn G yX12_copy cX12_copy 8 (some FieldType.int) 9 194 (fun v : Int32 => some (.int v)) (X12_copy_147  this x1 x2 x3) 147 [some (va_rf (some this)), some (.int x1), some (.int x2), some (.int x3), none, none, none, none] [] := by
  unfold X12_copy_147
  refine sn_aload_n (v := (some this)) (pc' := 148) dX12_copy_147 rfl rfl rfl ?_
  refine sn_cV (r := (some this)) (st := []) (As := []) (st2 := (fun v => .int v :: [])) (pc' := 151) ci_13 (fun t => c_X12_ends G t ) cw_X12_ends rfl rfl tw1500 pw57 tw1502 rfl rfl cat_nil rfl (fun _ => rfl) dX12_copy_148 rfl (fun v1 => ?_)
  refine sn_if_ne (pt := 160) (pf := 154) dX12_copy_151 rfl rfl ?_ ?_
  · refine sn_aload_n (v := (some this)) (pc' := 155) dX12_copy_154 rfl rfl rfl ?_
    refine sn_iconst (v := (2 : Int32)) (pc' := 156) dX12_copy_155 rfl (by decide) ?_
    refine sn_cV (r := (some this)) (st := []) (As := [.int (2 : Int32)]) (st2 := (fun v => .int v :: [])) (pc' := 159) ci_13 (fun t => c_X12_no G t (2 : Int32)) cw_X12_no rfl rfl tw1431 pw44 tw1433 rfl rfl cat_nil rfl (fun _ => rfl) dX12_copy_156 rfl (fun v2 => ?_)
    exact sn_iret dX12_copy_159 rfl rfl
  · refine sn_aload_n (v := (some this)) (pc' := 161) dX12_copy_160 rfl rfl rfl ?_
    refine sn_iload_n (v := x3) (pc' := 162) dX12_copy_161 rfl rfl rfl ?_
    refine sn_if_eq (pt := 170) (pf := 165) dX12_copy_162 rfl rfl ?_ ?_
    · refine sn_iconst (v := (0 : Int32)) (pc' := 171) dX12_copy_170 rfl (by decide) ?_
      exact sn_weak (le_s (le_s (le_s (le_s (le_n (le_n (le_n (le_n le_e)))))))) (s_X12_copy_171 G this x1 x2 x3 (0 : Int32))
    · refine sn_bipush (v := (7 : Int32)) (pc' := 167) dX12_copy_165 rfl (by decide) ?_
      refine sn_goto (pc' := 171) dX12_copy_167 rfl ?_
      exact sn_weak (le_s (le_s (le_s (le_s (le_n (le_n (le_n (le_n le_e)))))))) (s_X12_copy_171 G this x1 x2 x3 (7 : Int32))
set_option maxRecDepth 100000 in
set_option maxHeartbeats 4000000 in
theorem s_X12_copy_129 (G : GG) (k27 : Nat → Int32 → Int32 → Int32 → MM Int32) (hk27 : ∀ (this : Nat) (x1 : Int32) (x2 : Int32) (x3 : Int32), Sn G yX12_copy cX12_copy 8 (some FieldType.int) 9 194 (fun v : Int32 => some (.int v)) (k27 this x1 x2 x3) 27 [some (va_rf (some this)), some (.int x1), some (.int x2), some (.int x3), none, none, none, none] []) (this : Nat) (x1 : Int32) (x2 : Int32) (y0 : Int32) : Sn G yX12_copy cX12_copy 8 (some FieldType.int) 9 194 (fun v : Int32 => some (.int v)) (X12_copy_129 k27 this x1 x2 y0) 129 [some (va_rf (some this)), some (.int x1), some (.int x2), none, none, none, none, none] [.int y0] := by
  unfold X12_copy_129
  refine sn_istore_n (v := y0) (L' := [some (va_rf (some this)), some (.int x1), some (.int x2), some (.int y0), none, none, none, none]) (pc' := 130) dX12_copy_129 rfl rfl rfl rfl ?_
  refine sn_iinc (v := x2) (w := 1) (L' := [some (va_rf (some this)), some (.int x1), some (.int (x2 + (1 : Int32))), some (.int y0), none, none, none, none]) (pc' := 133) dX12_copy_130 rfl rfl rfl (by decide) rfl ?_
  refine sn_aload_n (v := (some this)) (pc' := 134) dX12_copy_133 rfl rfl rfl ?_
  refine sn_gI (k := 23) (pc' := 137) ci_13 rfl (Or.inl tw1301) dX12_copy_134 rfl (fun v1 => ?_)
  refine sn_if_eq (pt := 147) (pf := 140) dX12_copy_137 rfl rfl ?_ ?_
  · exact sn_weak (le_s (le_s (le_s (le_s (le_n (le_n (le_n (le_n le_e)))))))) (s_X12_copy_147 G this x1 (x2 + (1 : Int32)) y0)
  · refine sn_aload_n (v := (some this)) (pc' := 141) dX12_copy_140 rfl rfl rfl ?_
    refine sn_gI (k := 21) (pc' := 144) ci_13 rfl (Or.inl tw1299) dX12_copy_141 rfl (fun v2 => ?_)
    refine sn_if_ne (pt := 27) (pf := 147) dX12_copy_144 rfl rfl ?_ ?_
    · exact sn_weak (le_s (le_s (le_s (le_s (le_n (le_n (le_n (le_n le_e)))))))) (s_X12_copy_147 G this x1 (x2 + (1 : Int32)) y0)
    · exact sn_weak (le_s (le_s (le_s (le_s (le_n (le_n (le_n (le_n le_e)))))))) (hk27 this x1 (x2 + (1 : Int32)) y0)
set_option maxRecDepth 100000 in
set_option maxHeartbeats 4000000 in
theorem s_X12_copy_124 (G : GG) (k27 : Nat → Int32 → Int32 → Int32 → MM Int32) (hk27 : ∀ (this : Nat) (x1 : Int32) (x2 : Int32) (x3 : Int32), Sn G yX12_copy cX12_copy 8 (some FieldType.int) 9 194 (fun v : Int32 => some (.int v)) (k27 this x1 x2 x3) 27 [some (va_rf (some this)), some (.int x1), some (.int x2), some (.int x3), none, none, none, none] []) (this : Nat) (x1 : Int32) (x2 : Int32) : Sn G yX12_copy cX12_copy 8 (some FieldType.int) 9 194 (fun v : Int32 => some (.int v)) (X12_copy_124 k27 this x1 x2) 124 [some (va_rf (some this)), some (.int x1), some (.int x2), none, none, none, none, none] [] := by
  unfold X12_copy_124
  refine sn_iconst (v := (1 : Int32)) (pc' := 125) dX12_copy_124 rfl (by decide) ?_
  refine sn_goto (pc' := 129) dX12_copy_125 rfl ?_
  exact sn_weak (le_s (le_s (le_s (le_n (le_n (le_n (le_n (le_n le_e)))))))) (s_X12_copy_129 G k27 hk27 this x1 x2 (1 : Int32))
set_option maxRecDepth 100000 in
set_option maxHeartbeats 4000000 in
theorem s_X12_copy_128 (G : GG) (k27 : Nat → Int32 → Int32 → Int32 → MM Int32) (hk27 : ∀ (this : Nat) (x1 : Int32) (x2 : Int32) (x3 : Int32), Sn G yX12_copy cX12_copy 8 (some FieldType.int) 9 194 (fun v : Int32 => some (.int v)) (k27 this x1 x2 x3) 27 [some (va_rf (some this)), some (.int x1), some (.int x2), some (.int x3), none, none, none, none] []) (this : Nat) (x1 : Int32) (x2 : Int32) : Sn G yX12_copy cX12_copy 8 (some FieldType.int) 9 194 (fun v : Int32 => some (.int v)) (X12_copy_128 k27 this x1 x2) 128 [some (va_rf (some this)), some (.int x1), some (.int x2), none, none, none, none, none] [] := by
  unfold X12_copy_128
  refine sn_iconst (v := (0 : Int32)) (pc' := 129) dX12_copy_128 rfl (by decide) ?_
  exact sn_weak (le_s (le_s (le_s (le_n (le_n (le_n (le_n (le_n le_e)))))))) (s_X12_copy_129 G k27 hk27 this x1 x2 (0 : Int32))
set_option maxRecDepth 100000 in
set_option maxHeartbeats 4000000 in
theorem s_X12_copy_82 (G : GG) (k27 : Nat → Int32 → Int32 → Int32 → MM Int32) (hk27 : ∀ (this : Nat) (x1 : Int32) (x2 : Int32) (x3 : Int32), Sn G yX12_copy cX12_copy 8 (some FieldType.int) 9 194 (fun v : Int32 => some (.int v)) (k27 this x1 x2 x3) 27 [some (va_rf (some this)), some (.int x1), some (.int x2), some (.int x3), none, none, none, none] []) (this : Nat) (x1 : Int32) (x2 : Int32) (x3 : Int32) (x4 : Int32) : Sn G yX12_copy cX12_copy 8 (some FieldType.int) 9 194 (fun v : Int32 => some (.int v)) (X12_copy_82 k27 this x1 x2 x3 x4) 82 [some (va_rf (some this)), some (.int x1), some (.int x2), some (.int x3), some (.int x4), none, none, none] [] := by
  unfold X12_copy_82
  refine sn_iload_n (v := x3) (pc' := 83) dX12_copy_82 rfl rfl rfl ?_
  refine sn_if_ne (pt := 124) (pf := 86) dX12_copy_83 rfl rfl ?_ ?_
  · refine sn_aload_n (v := (some this)) (pc' := 87) dX12_copy_86 rfl rfl rfl ?_
    refine sn_gR (k := 45) (pc' := 90) ci_13 rfl (Or.inl tw1323) dX12_copy_87 rfl (fun v1 => ?_)
    refine sn_iload_n (v := x2) (pc' := 91) dX12_copy_90 rfl rfl rfl ?_
    refine sn_aI (pc' := 92) dX12_copy_91 rfl (fun v2 => ?_)
    refine sn_if_lt (pt := 124) (pf := 95) dX12_copy_92 rfl rfl ?_ ?_
    · exact sn_weak (le_s (le_s (le_s (le_n (le_n (le_n (le_n (le_n le_e)))))))) (s_X12_copy_124 G k27 hk27 this x1 x2)
    · refine sn_aload_n (v := (some this)) (pc' := 96) dX12_copy_95 rfl rfl rfl ?_
      refine sn_gR (k := 46) (pc' := 99) ci_13 rfl (Or.inl tw1324) dX12_copy_96 rfl (fun v3 => ?_)
      refine sn_iload_n (v := x2) (pc' := 100) dX12_copy_99 rfl rfl rfl ?_
      refine sn_aI (pc' := 101) dX12_copy_100 rfl (fun v4 => ?_)
      refine sn_if_lt (pt := 124) (pf := 104) dX12_copy_101 rfl rfl ?_ ?_
      · exact sn_weak (le_s (le_s (le_s (le_n (le_n (le_n (le_n (le_n le_e)))))))) (s_X12_copy_124 G k27 hk27 this x1 x2)
      · refine sn_iload (v := x4) (pc' := 106) dX12_copy_104 rfl rfl ?_
        refine sn_if_eq (pt := 128) (pf := 109) dX12_copy_106 rfl rfl ?_ ?_
        · exact sn_weak (le_s (le_s (le_s (le_n (le_n (le_n (le_n (le_n le_e)))))))) (s_X12_copy_128 G k27 hk27 this x1 x2)
        · refine sn_aload_n (v := (some this)) (pc' := 110) dX12_copy_109 rfl rfl rfl ?_
          refine sn_gR (k := 46) (pc' := 113) ci_13 rfl (Or.inl tw1324) dX12_copy_110 rfl (fun v5 => ?_)
          refine sn_iload_n (v := x2) (pc' := 114) dX12_copy_113 rfl rfl rfl ?_
          refine sn_aI (pc' := 115) dX12_copy_114 rfl (fun v6 => ?_)
          refine sn_aload_n (v := (some this)) (pc' := 116) dX12_copy_115 rfl rfl rfl ?_
          refine sn_gR (k := 45) (pc' := 119) ci_13 rfl (Or.inl tw1323) dX12_copy_116 rfl (fun v7 => ?_)
          refine sn_iload_n (v := x2) (pc' := 120) dX12_copy_119 rfl rfl rfl ?_
          refine sn_aI (pc' := 121) dX12_copy_120 rfl (fun v8 => ?_)
          refine sn_ic_gt (pt := 128) (pf := 124) dX12_copy_121 rfl rfl ?_ ?_
          · exact sn_weak (le_s (le_s (le_s (le_n (le_n (le_n (le_n (le_n le_e)))))))) (s_X12_copy_128 G k27 hk27 this x1 x2)
          · exact sn_weak (le_s (le_s (le_s (le_n (le_n (le_n (le_n (le_n le_e)))))))) (s_X12_copy_124 G k27 hk27 this x1 x2)
  · exact sn_weak (le_s (le_s (le_s (le_n (le_n (le_n (le_n (le_n le_e)))))))) (s_X12_copy_124 G k27 hk27 this x1 x2)
set_option maxRecDepth 100000 in
set_option maxHeartbeats 4000000 in
theorem s_X12_copy_27_st (G : GG)   (k27 : Nat → Int32 → Int32 → Int32 → MM Int32) (hk27 : ∀ (this : Nat) (x1 : Int32) (x2 : Int32) (x3 : Int32), Sn G yX12_copy cX12_copy 8 (some FieldType.int) 9 194 (fun v : Int32 => some (.int v)) (k27 this x1 x2 x3) 27 [some (va_rf (some this)), some (.int x1), some (.int x2), some (.int x3), none, none, none, none] []) (this : Nat) (x1 : Int32) (x2 : Int32) (x3 : Int32) : Sn G yX12_copy cX12_copy 8 (some FieldType.int) 9 194 (fun v : Int32 => some (.int v)) (X12_copy_27_st  k27 this x1 x2 x3) 27 [some (va_rf (some this)), some (.int x1), some (.int x2), some (.int x3), none, none, none, none] [] := by
  unfold X12_copy_27_st
  refine sn_aload_n (v := (some this)) (pc' := 28) dX12_copy_27 rfl rfl rfl ?_
  refine sn_cV (r := (some this)) (st := []) (As := []) (st2 := (fun _ => [])) (pc' := 31) ci_13 (fun t => c_X12_readName G t ) cw_X12_readName rfl rfl tw1566 pw70 tw1568 rfl rfl cat_nil rfl (fun _ => rfl) dX12_copy_28 rfl (fun _ => ?_)
  refine sn_aload_n (v := (some this)) (pc' := 32) dX12_copy_31 rfl rfl rfl ?_
  refine sn_gR (k := 45) (pc' := 35) ci_13 rfl (Or.inl tw1323) dX12_copy_32 rfl (fun v1 => ?_)
  refine sn_iload_n (v := x2) (pc' := 36) dX12_copy_35 rfl rfl rfl ?_
  refine sn_aload_n (v := (some this)) (pc' := 37) dX12_copy_36 rfl rfl rfl ?_
  refine sn_iload_n (v := x1) (pc' := 38) dX12_copy_37 rfl rfl rfl ?_
  refine sn_cV (r := (some this)) (st := [.int x2, va_rf v1]) (As := [.int x1]) (st2 := (fun v => .int v :: [.int x2, va_rf v1])) (pc' := 41) ci_13 (fun t => c_X12_named G t x1) cw_X12_named rfl rfl tw1570 pw71 tw1572 rfl rfl (cat_i (cat_q cat_nil)) rfl (fun _ => rfl) dX12_copy_38 rfl (fun v2 => ?_)
  refine sn_sI (pc' := 42) dX12_copy_41 rfl (fun _ => ?_)
  refine sn_aload_n (v := (some this)) (pc' := 43) dX12_copy_42 rfl rfl rfl ?_
  refine sn_gR (k := 46) (pc' := 46) ci_13 rfl (Or.inl tw1324) dX12_copy_43 rfl (fun v3 => ?_)
  refine sn_iload_n (v := x2) (pc' := 47) dX12_copy_46 rfl rfl rfl ?_
  refine sn_aload_n (v := (some this)) (pc' := 48) dX12_copy_47 rfl rfl rfl ?_
  refine sn_gR (k := 45) (pc' := 51) ci_13 rfl (Or.inl tw1323) dX12_copy_48 rfl (fun v4 => ?_)
  refine sn_iload_n (v := x2) (pc' := 52) dX12_copy_51 rfl rfl rfl ?_
  refine sn_aI (pc' := 53) dX12_copy_52 rfl (fun v5 => ?_)
  refine sn_sI (pc' := 54) dX12_copy_53 rfl (fun _ => ?_)
  refine sn_aload_n (v := (some this)) (pc' := 55) dX12_copy_54 rfl rfl rfl ?_
  refine sn_bipush (v := (45 : Int32)) (pc' := 57) dX12_copy_55 rfl (by decide) ?_
  refine sn_cV (r := (some this)) (st := []) (As := [.int (45 : Int32)]) (st2 := (fun v => .int v :: [])) (pc' := 60) ci_13 (fun t => c_X12_goes G t (45 : Int32)) cw_X12_goes rfl rfl tw1480 pw52 tw1482 rfl rfl cat_nil rfl (fun _ => rfl) dX12_copy_57 rfl (fun v6 => ?_)
  refine sn_istore (v := v6) (L' := [some (va_rf (some this)), some (.int x1), some (.int x2), some (.int x3), some (.int v6), none, none, none]) (pc' := 62) dX12_copy_60 rfl rfl rfl ?_
  refine sn_iload (v := v6) (pc' := 64) dX12_copy_62 rfl rfl ?_
  refine sn_if_eq (pt := 82) (pf := 67) dX12_copy_64 rfl rfl ?_ ?_
  · exact sn_weak (le_s (le_s (le_s (le_s (le_s (le_n (le_n (le_n le_e)))))))) (s_X12_copy_82 G k27 hk27 this x1 x2 x3 v6)
  · refine sn_aload_n (v := (some this)) (pc' := 68) dX12_copy_67 rfl rfl rfl ?_
    refine sn_cV (r := (some this)) (st := []) (As := []) (st2 := (fun _ => [])) (pc' := 71) ci_13 (fun t => c_X12_readName G t ) cw_X12_readName rfl rfl tw1566 pw70 tw1568 rfl rfl cat_nil rfl (fun _ => rfl) dX12_copy_68 rfl (fun _ => ?_)
    refine sn_aload_n (v := (some this)) (pc' := 72) dX12_copy_71 rfl rfl rfl ?_
    refine sn_gR (k := 46) (pc' := 75) ci_13 rfl (Or.inl tw1324) dX12_copy_72 rfl (fun v7 => ?_)
    refine sn_iload_n (v := x2) (pc' := 76) dX12_copy_75 rfl rfl rfl ?_
    refine sn_aload_n (v := (some this)) (pc' := 77) dX12_copy_76 rfl rfl rfl ?_
    refine sn_iload_n (v := x1) (pc' := 78) dX12_copy_77 rfl rfl rfl ?_
    refine sn_cV (r := (some this)) (st := [.int x2, va_rf v7]) (As := [.int x1]) (st2 := (fun v => .int v :: [.int x2, va_rf v7])) (pc' := 81) ci_13 (fun t => c_X12_named G t x1) cw_X12_named rfl rfl tw1570 pw71 tw1572 rfl rfl (cat_i (cat_q cat_nil)) rfl (fun _ => rfl) dX12_copy_78 rfl (fun v8 => ?_)
    refine sn_sI (pc' := 82) dX12_copy_81 rfl (fun _ => ?_)
    exact sn_weak (le_s (le_s (le_s (le_s (le_s (le_n (le_n (le_n le_e)))))))) (s_X12_copy_82 G k27 hk27 this x1 x2 x3 v6)
set_option maxRecDepth 100000 in
set_option maxHeartbeats 4000000 in
theorem s_X12_copy_27 (G : GG)   : ∀ (n : Nat) (this : Nat) (x1 : Int32) (x2 : Int32) (x3 : Int32), Sn G yX12_copy cX12_copy 8 (some FieldType.int) 9 194 (fun v : Int32 => some (.int v)) (X12_copy_27  n this x1 x2 x3) 27 [some (va_rf (some this)), some (.int x1), some (.int x2), some (.int x3), none, none, none, none] [] := by
  intro n
  induction n with
  | zero => intro this x1 x2 x3; exact sn_mf
  | succ n ih => intro this x1 x2 x3; exact s_X12_copy_27_st G   (X12_copy_27  n) ih this x1 x2 x3
set_option maxRecDepth 100000 in
set_option maxHeartbeats 4000000 in
theorem s_X12_copy (G : GG) (this : Nat) (a1 : Int32) : Sn G yX12_copy cX12_copy 8 (some FieldType.int) 9 194 (fun v : Int32 => some (.int v)) (X12_copy this a1) 0 [some (va_rf (some this)), some (.int a1), none, none, none, none, none, none] [] := by
  unfold X12_copy
  refine sn_aload_n (v := (some this)) (pc' := 1) dX12_copy_0 rfl rfl rfl ?_
  refine sn_iload_n (v := a1) (pc' := 2) dX12_copy_1 rfl rfl rfl ?_
  refine sn_cV (r := (some this)) (st := []) (As := [.int a1]) (st2 := (fun v => .int v :: [])) (pc' := 5) ci_13 (fun t => c_X12_isBook G t a1) cw_X12_isBook rfl rfl tw1554 pw68 tw1556 rfl rfl cat_nil rfl (fun _ => rfl) dX12_copy_2 rfl (fun v1 => ?_)
  refine sn_if_ne (pt := 19) (pf := 8) dX12_copy_5 rfl rfl ?_ ?_
  · refine sn_aload_n (v := (some this)) (pc' := 9) dX12_copy_8 rfl rfl rfl ?_
    refine sn_iconst (v := (0 : Int32)) (pc' := 10) dX12_copy_9 rfl (by decide) ?_
    refine sn_pI (k := 1) (pc' := 13) ci_13 rfl (Or.inl tw1279) (Or.inl rfl) rfl dX12_copy_10 rfl (fun _ => ?_)
    refine sn_aload_n (v := (some this)) (pc' := 14) dX12_copy_13 rfl rfl rfl ?_
    refine sn_iconst (v := (1 : Int32)) (pc' := 15) dX12_copy_14 rfl (by decide) ?_
    refine sn_cV (r := (some this)) (st := []) (As := [.int (1 : Int32)]) (st2 := (fun v => .int v :: [])) (pc' := 18) ci_13 (fun t => c_X12_no G t (1 : Int32)) cw_X12_no rfl rfl tw1431 pw44 tw1433 rfl rfl cat_nil rfl (fun _ => rfl) dX12_copy_15 rfl (fun v2 => ?_)
    exact sn_iret dX12_copy_18 rfl rfl
  · refine sn_aload_n (v := (some this)) (pc' := 20) dX12_copy_19 rfl rfl rfl ?_
    refine sn_cV (r := (some this)) (st := []) (As := []) (st2 := (fun _ => [])) (pc' := 23) ci_13 (fun t => c_X12_begins G t ) cw_X12_begins rfl rfl tw1450 pw46 tw1452 rfl rfl cat_nil rfl (fun _ => rfl) dX12_copy_20 rfl (fun _ => ?_)
    refine sn_iconst (v := (0 : Int32)) (pc' := 24) dX12_copy_23 rfl (by decide) ?_
    refine sn_istore_n (v := (0 : Int32)) (L' := [some (va_rf (some this)), some (.int a1), some (.int (0 : Int32)), none, none, none, none, none]) (pc' := 25) dX12_copy_24 rfl rfl rfl rfl ?_
    refine sn_iconst (v := (0 : Int32)) (pc' := 26) dX12_copy_25 rfl (by decide) ?_
    refine sn_istore_n (v := (0 : Int32)) (L' := [some (va_rf (some this)), some (.int a1), some (.int (0 : Int32)), some (.int (0 : Int32)), none, none, none, none]) (pc' := 27) dX12_copy_26 rfl rfl rfl rfl ?_
    exact sn_weak (le_s (le_s (le_s (le_s (le_n (le_n (le_n (le_n le_e)))))))) (s_X12_copy_27 G LFU this a1 (0 : Int32) (0 : Int32))
theorem c_X12_copy (G : GG) (this : Nat) (a1 : Int32) : Cal G yX12_copy cX12_copy 8 (some FieldType.int) 9 194 (fun v : Int32 => some (.int v)) (X12_copy this a1) [.ref this, .int a1] :=
  Cal.of (by decide) (cat_t (cat_i cat_nil)) rfl (sn_weak (le_s (le_s (le_z (le_z (le_z (le_z (le_z (le_z le_e)))))))) (s_X12_copy G this a1))
theorem cw_X12_copy : CW yX12_copy cX12_copy 8 (some FieldType.int) 1 := ⟨tw1565, tw15, by decide, by decide +kernel⟩
/-! X12_find -/
theorem dX12_find_0 : decode cX12_find 0 = .ok (.aload_n 0, 1) := by decide +kernel
theorem dX12_find_1 : decode cX12_find 1 = .ok (.iload_n 1, 1) := by decide +kernel
theorem dX12_find_2 : decode cX12_find 2 = .ok (.invokevirtual 333, 3) := by decide +kernel
theorem dX12_find_5 : decode cX12_find 5 = .ok (.ifCond .ne 14, 3) := by decide +kernel
theorem dX12_find_8 : decode cX12_find 8 = .ok (.aload_n 0, 1) := by decide +kernel
theorem dX12_find_9 : decode cX12_find 9 = .ok (.iconst 0, 1) := by decide +kernel
theorem dX12_find_10 : decode cX12_find 10 = .ok (.putfield 90, 3) := by decide +kernel
theorem dX12_find_13 : decode cX12_find 13 = .ok (.aload_n 0, 1) := by decide +kernel
theorem dX12_find_14 : decode cX12_find 14 = .ok (.iconst 1, 1) := by decide +kernel
theorem dX12_find_15 : decode cX12_find 15 = .ok (.invokevirtual 193, 3) := by decide +kernel
theorem dX12_find_18 : decode cX12_find 18 = .ok (.ireturn, 1) := by decide +kernel
theorem dX12_find_19 : decode cX12_find 19 = .ok (.aload_n 0, 1) := by decide +kernel
theorem dX12_find_20 : decode cX12_find 20 = .ok (.invokevirtual 311, 3) := by decide +kernel
theorem dX12_find_23 : decode cX12_find 23 = .ok (.aload_n 0, 1) := by decide +kernel
theorem dX12_find_24 : decode cX12_find 24 = .ok (.invokevirtual 348, 3) := by decide +kernel
theorem dX12_find_27 : decode cX12_find 27 = .ok (.aload_n 0, 1) := by decide +kernel
theorem dX12_find_28 : decode cX12_find 28 = .ok (.invokevirtual 317, 3) := by decide +kernel
theorem dX12_find_31 : decode cX12_find 31 = .ok (.ifCond .ne 9, 3) := by decide +kernel
theorem dX12_find_34 : decode cX12_find 34 = .ok (.aload_n 0, 1) := by decide +kernel
theorem dX12_find_35 : decode cX12_find 35 = .ok (.iconst 2, 1) := by decide +kernel
theorem dX12_find_36 : decode cX12_find 36 = .ok (.invokevirtual 193, 3) := by decide +kernel
theorem dX12_find_39 : decode cX12_find 39 = .ok (.ireturn, 1) := by decide +kernel
theorem dX12_find_40 : decode cX12_find 40 = .ok (.aload_n 0, 1) := by decide +kernel
theorem dX12_find_41 : decode cX12_find 41 = .ok (.aload_n 0, 1) := by decide +kernel
theorem dX12_find_42 : decode cX12_find 42 = .ok (.iload_n 1, 1) := by decide +kernel
theorem dX12_find_43 : decode cX12_find 43 = .ok (.invokevirtual 351, 3) := by decide +kernel
theorem dX12_find_46 : decode cX12_find 46 = .ok (.invokevirtual 199, 3) := by decide +kernel
theorem dX12_find_49 : decode cX12_find 49 = .ok (.ireturn, 1) := by decide +kernel
def X12_find (this : Nat) (a1 : Int32) : MM Int32 :=
  mb (wc 13 (some this) fun t => X12_isBook t a1) fun v1 =>
  if v1 = 0 then (mb (pI 13 (some this) 1 (0 : Int32)) fun _ =>
  mb (wc 13 (some this) fun t => X12_no t (1 : Int32)) fun v2 =>
  mr v2) else (mb (wc 13 (some this) fun t => X12_begins t ) fun _ =>
  mb (wc 13 (some this) fun t => X12_readName t ) fun _ =>
  mb (wc 13 (some this) fun t => X12_ends t ) fun v3 =>
  if v3 = 0 then (mb (wc 13 (some this) fun t => X12_no t (2 : Int32)) fun v4 =>
  mr v4) else (mb (wc 13 (some this) fun t => X12_named t a1) fun v5 =>
  mb (wc 13 (some this) fun t => X12_fine t v5) fun v6 =>
  mr v6))
set_option maxRecDepth 100000 in
set_option maxHeartbeats 4000000 in
theorem s_X12_find (G : GG) (this : Nat) (a1 : Int32) : Sn G yX12_find cX12_find 2 (some FieldType.int) 9 194 (fun v : Int32 => some (.int v)) (X12_find this a1) 0 [some (va_rf (some this)), some (.int a1)] [] := by
  unfold X12_find
  refine sn_aload_n (v := (some this)) (pc' := 1) dX12_find_0 rfl rfl rfl ?_
  refine sn_iload_n (v := a1) (pc' := 2) dX12_find_1 rfl rfl rfl ?_
  refine sn_cV (r := (some this)) (st := []) (As := [.int a1]) (st2 := (fun v => .int v :: [])) (pc' := 5) ci_13 (fun t => c_X12_isBook G t a1) cw_X12_isBook rfl rfl tw1554 pw68 tw1556 rfl rfl cat_nil rfl (fun _ => rfl) dX12_find_2 rfl (fun v1 => ?_)
  refine sn_if_ne (pt := 19) (pf := 8) dX12_find_5 rfl rfl ?_ ?_
  · refine sn_aload_n (v := (some this)) (pc' := 9) dX12_find_8 rfl rfl rfl ?_
    refine sn_iconst (v := (0 : Int32)) (pc' := 10) dX12_find_9 rfl (by decide) ?_
    refine sn_pI (k := 1) (pc' := 13) ci_13 rfl (Or.inl tw1279) (Or.inl rfl) rfl dX12_find_10 rfl (fun _ => ?_)
    refine sn_aload_n (v := (some this)) (pc' := 14) dX12_find_13 rfl rfl rfl ?_
    refine sn_iconst (v := (1 : Int32)) (pc' := 15) dX12_find_14 rfl (by decide) ?_
    refine sn_cV (r := (some this)) (st := []) (As := [.int (1 : Int32)]) (st2 := (fun v => .int v :: [])) (pc' := 18) ci_13 (fun t => c_X12_no G t (1 : Int32)) cw_X12_no rfl rfl tw1431 pw44 tw1433 rfl rfl cat_nil rfl (fun _ => rfl) dX12_find_15 rfl (fun v2 => ?_)
    exact sn_iret dX12_find_18 rfl rfl
  · refine sn_aload_n (v := (some this)) (pc' := 20) dX12_find_19 rfl rfl rfl ?_
    refine sn_cV (r := (some this)) (st := []) (As := []) (st2 := (fun _ => [])) (pc' := 23) ci_13 (fun t => c_X12_begins G t ) cw_X12_begins rfl rfl tw1450 pw46 tw1452 rfl rfl cat_nil rfl (fun _ => rfl) dX12_find_20 rfl (fun _ => ?_)
    refine sn_aload_n (v := (some this)) (pc' := 24) dX12_find_23 rfl rfl rfl ?_
    refine sn_cV (r := (some this)) (st := []) (As := []) (st2 := (fun _ => [])) (pc' := 27) ci_13 (fun t => c_X12_readName G t ) cw_X12_readName rfl rfl tw1566 pw70 tw1568 rfl rfl cat_nil rfl (fun _ => rfl) dX12_find_24 rfl (fun _ => ?_)
    refine sn_aload_n (v := (some this)) (pc' := 28) dX12_find_27 rfl rfl rfl ?_
    refine sn_cV (r := (some this)) (st := []) (As := []) (st2 := (fun v => .int v :: [])) (pc' := 31) ci_13 (fun t => c_X12_ends G t ) cw_X12_ends rfl rfl tw1500 pw57 tw1502 rfl rfl cat_nil rfl (fun _ => rfl) dX12_find_28 rfl (fun v3 => ?_)
    refine sn_if_ne (pt := 40) (pf := 34) dX12_find_31 rfl rfl ?_ ?_
    · refine sn_aload_n (v := (some this)) (pc' := 35) dX12_find_34 rfl rfl rfl ?_
      refine sn_iconst (v := (2 : Int32)) (pc' := 36) dX12_find_35 rfl (by decide) ?_
      refine sn_cV (r := (some this)) (st := []) (As := [.int (2 : Int32)]) (st2 := (fun v => .int v :: [])) (pc' := 39) ci_13 (fun t => c_X12_no G t (2 : Int32)) cw_X12_no rfl rfl tw1431 pw44 tw1433 rfl rfl cat_nil rfl (fun _ => rfl) dX12_find_36 rfl (fun v4 => ?_)
      exact sn_iret dX12_find_39 rfl rfl
    · refine sn_aload_n (v := (some this)) (pc' := 41) dX12_find_40 rfl rfl rfl ?_
      refine sn_aload_n (v := (some this)) (pc' := 42) dX12_find_41 rfl rfl rfl ?_
      refine sn_iload_n (v := a1) (pc' := 43) dX12_find_42 rfl rfl rfl ?_
      refine sn_cV (r := (some this)) (st := [va_rf (some this)]) (As := [.int a1]) (st2 := (fun v => .int v :: [va_rf (some this)])) (pc' := 46) ci_13 (fun t => c_X12_named G t a1) cw_X12_named rfl rfl tw1570 pw71 tw1572 rfl rfl (cat_q cat_nil) rfl (fun _ => rfl) dX12_find_43 rfl (fun v5 => ?_)
      refine sn_cV (r := (some this)) (st := []) (As := [.int v5]) (st2 := (fun v => .int v :: [])) (pc' := 49) ci_13 (fun t => c_X12_fine G t v5) cw_X12_fine rfl rfl tw1435 pw45 tw1437 rfl rfl cat_nil rfl (fun _ => rfl) dX12_find_46 rfl (fun v6 => ?_)
      exact sn_iret dX12_find_49 rfl rfl
theorem c_X12_find (G : GG) (this : Nat) (a1 : Int32) : Cal G yX12_find cX12_find 2 (some FieldType.int) 9 194 (fun v : Int32 => some (.int v)) (X12_find this a1) [.ref this, .int a1] :=
  Cal.of (by decide) (cat_t (cat_i cat_nil)) rfl (sn_weak (le_s (le_s le_e)) (s_X12_find G this a1))
theorem cw_X12_find : CW yX12_find cX12_find 2 (some FieldType.int) 1 := ⟨tw1581, tw15, by decide, by decide +kernel⟩
/-! X12_place -/
theorem dX12_place_0 : decode cX12_place 0 = .ok (.aload_n 0, 1) := by decide +kernel
theorem dX12_place_1 : decode cX12_place 1 = .ok (.getfield 117, 3) := by decide +kernel
theorem dX12_place_4 : decode cX12_place 4 = .ok (.ireturn, 1) := by decide +kernel
def X12_place (this : Nat) : MM Int32 :=
  mb (gI 13 (some this) 3) fun v1 =>
  mr v1
set_option maxRecDepth 100000 in
set_option maxHeartbeats 4000000 in
theorem s_X12_place (G : GG) (this : Nat) : Sn G yX12_place cX12_place 1 (some FieldType.int) 0 0 (fun v : Int32 => some (.int v)) (X12_place this) 0 [some (va_rf (some this))] [] := by
  unfold X12_place
  refine sn_aload_n (v := (some this)) (pc' := 1) dX12_place_0 rfl rfl rfl ?_
  refine sn_gI (k := 3) (pc' := 4) ci_13 rfl (Or.inl tw1281) dX12_place_1 rfl (fun v1 => ?_)
  exact sn_iret dX12_place_4 rfl rfl
theorem c_X12_place (G : GG) (this : Nat) : Cal G yX12_place cX12_place 1 (some FieldType.int) 0 0 (fun v : Int32 => some (.int v)) (X12_place this) [.ref this] :=
  Cal.of (by decide) (cat_t cat_nil) rfl (sn_weak (le_s le_e) (s_X12_place G this))
theorem cw_X12_place : CW yX12_place cX12_place 1 (some FieldType.int) 0 := ⟨tw1585, tw15, by decide, by decide +kernel⟩
/-! X12_fault -/
theorem dX12_fault_0 : decode cX12_fault 0 = .ok (.aload_n 0, 1) := by decide +kernel
theorem dX12_fault_1 : decode cX12_fault 1 = .ok (.getfield 114, 3) := by decide +kernel
theorem dX12_fault_4 : decode cX12_fault 4 = .ok (.ireturn, 1) := by decide +kernel
def X12_fault (this : Nat) : MM Int32 :=
  mb (gI 13 (some this) 4) fun v1 =>
  mr v1
set_option maxRecDepth 100000 in
set_option maxHeartbeats 4000000 in
theorem s_X12_fault (G : GG) (this : Nat) : Sn G yX12_fault cX12_fault 1 (some FieldType.int) 0 0 (fun v : Int32 => some (.int v)) (X12_fault this) 0 [some (va_rf (some this))] [] := by
  unfold X12_fault
  refine sn_aload_n (v := (some this)) (pc' := 1) dX12_fault_0 rfl rfl rfl ?_
  refine sn_gI (k := 4) (pc' := 4) ci_13 rfl (Or.inl tw1282) dX12_fault_1 rfl (fun v1 => ?_)
  exact sn_iret dX12_fault_4 rfl rfl
theorem c_X12_fault (G : GG) (this : Nat) : Cal G yX12_fault cX12_fault 1 (some FieldType.int) 0 0 (fun v : Int32 => some (.int v)) (X12_fault this) [.ref this] :=
  Cal.of (by decide) (cat_t cat_nil) rfl (sn_weak (le_s le_e) (s_X12_fault G this))
theorem cw_X12_fault : CW yX12_fault cX12_fault 1 (some FieldType.int) 0 := ⟨tw1589, tw15, by decide, by decide +kernel⟩
/-! X12_count -/
theorem dX12_count_0 : decode cX12_count 0 = .ok (.iload_n 1, 1) := by decide +kernel
theorem dX12_count_1 : decode cX12_count 1 = .ok (.ifCond .ne 14, 3) := by decide +kernel
theorem dX12_count_4 : decode cX12_count 4 = .ok (.aload_n 0, 1) := by decide +kernel
theorem dX12_count_5 : decode cX12_count 5 = .ok (.aload_n 0, 1) := by decide +kernel
theorem dX12_count_6 : decode cX12_count 6 = .ok (.getfield 7, 3) := by decide +kernel
theorem dX12_count_9 : decode cX12_count 9 = .ok (.invokevirtual 199, 3) := by decide +kernel
theorem dX12_count_12 : decode cX12_count 12 = .ok (.goto 40, 3) := by decide +kernel
theorem dX12_count_15 : decode cX12_count 15 = .ok (.iload_n 1, 1) := by decide +kernel
theorem dX12_count_16 : decode cX12_count 16 = .ok (.iconst 1, 1) := by decide +kernel
theorem dX12_count_17 : decode cX12_count 17 = .ok (.if_icmp .ne 14, 3) := by decide +kernel
theorem dX12_count_20 : decode cX12_count 20 = .ok (.aload_n 0, 1) := by decide +kernel
theorem dX12_count_21 : decode cX12_count 21 = .ok (.aload_n 0, 1) := by decide +kernel
theorem dX12_count_22 : decode cX12_count 22 = .ok (.getfield 14, 3) := by decide +kernel
theorem dX12_count_25 : decode cX12_count 25 = .ok (.invokevirtual 199, 3) := by decide +kernel
theorem dX12_count_28 : decode cX12_count 28 = .ok (.goto 24, 3) := by decide +kernel
theorem dX12_count_31 : decode cX12_count 31 = .ok (.iload_n 1, 1) := by decide +kernel
theorem dX12_count_32 : decode cX12_count 32 = .ok (.iconst 2, 1) := by decide +kernel
theorem dX12_count_33 : decode cX12_count 33 = .ok (.if_icmp .ne 14, 3) := by decide +kernel
theorem dX12_count_36 : decode cX12_count 36 = .ok (.aload_n 0, 1) := by decide +kernel
theorem dX12_count_37 : decode cX12_count 37 = .ok (.aload_n 0, 1) := by decide +kernel
theorem dX12_count_38 : decode cX12_count 38 = .ok (.getfield 90, 3) := by decide +kernel
theorem dX12_count_41 : decode cX12_count 41 = .ok (.invokevirtual 199, 3) := by decide +kernel
theorem dX12_count_44 : decode cX12_count 44 = .ok (.goto 8, 3) := by decide +kernel
theorem dX12_count_47 : decode cX12_count 47 = .ok (.aload_n 0, 1) := by decide +kernel
theorem dX12_count_48 : decode cX12_count 48 = .ok (.iconst 3, 1) := by decide +kernel
theorem dX12_count_49 : decode cX12_count 49 = .ok (.invokevirtual 193, 3) := by decide +kernel
theorem dX12_count_52 : decode cX12_count 52 = .ok (.ireturn, 1) := by decide +kernel
def X12_count (this : Nat) (a1 : Int32) : MM Int32 :=
  if a1 = 0 then (mb (gI 13 (some this) 5) fun v1 =>
  mb (wc 13 (some this) fun t => X12_fine t v1) fun v2 =>
  mr v2) else (if a1 = (1 : Int32) then (mb (gI 13 (some this) 15) fun v3 =>
  mb (wc 13 (some this) fun t => X12_fine t v3) fun v4 =>
  mr v4) else (if a1 = (2 : Int32) then (mb (gI 13 (some this) 1) fun v5 =>
  mb (wc 13 (some this) fun t => X12_fine t v5) fun v6 =>
  mr v6) else (mb (wc 13 (some this) fun t => X12_no t (3 : Int32)) fun v7 =>
  mr v7)))
set_option maxRecDepth 100000 in
set_option maxHeartbeats 4000000 in
theorem s_X12_count (G : GG) (this : Nat) (a1 : Int32) : Sn G yX12_count cX12_count 2 (some FieldType.int) 1 21 (fun v : Int32 => some (.int v)) (X12_count this a1) 0 [some (va_rf (some this)), some (.int a1)] [] := by
  unfold X12_count
  refine sn_iload_n (v := a1) (pc' := 1) dX12_count_0 rfl rfl rfl ?_
  refine sn_if_ne (pt := 15) (pf := 4) dX12_count_1 rfl rfl ?_ ?_
  · refine sn_aload_n (v := (some this)) (pc' := 5) dX12_count_4 rfl rfl rfl ?_
    refine sn_aload_n (v := (some this)) (pc' := 6) dX12_count_5 rfl rfl rfl ?_
    refine sn_gI (k := 5) (pc' := 9) ci_13 rfl (Or.inl tw1283) dX12_count_6 rfl (fun v1 => ?_)
    refine sn_cV (r := (some this)) (st := []) (As := [.int v1]) (st2 := (fun v => .int v :: [])) (pc' := 12) ci_13 (fun t => c_X12_fine G t v1) cw_X12_fine rfl rfl tw1435 pw45 tw1437 rfl rfl cat_nil rfl (fun _ => rfl) dX12_count_9 rfl (fun v2 => ?_)
    refine sn_goto (pc' := 52) dX12_count_12 rfl ?_
    exact sn_iret dX12_count_52 rfl rfl
  · refine sn_iload_n (v := a1) (pc' := 16) dX12_count_15 rfl rfl rfl ?_
    refine sn_iconst (v := (1 : Int32)) (pc' := 17) dX12_count_16 rfl (by decide) ?_
    refine sn_ic_ne (pt := 31) (pf := 20) dX12_count_17 rfl rfl ?_ ?_
    · refine sn_aload_n (v := (some this)) (pc' := 21) dX12_count_20 rfl rfl rfl ?_
      refine sn_aload_n (v := (some this)) (pc' := 22) dX12_count_21 rfl rfl rfl ?_
      refine sn_gI (k := 15) (pc' := 25) ci_13 rfl (Or.inl tw1293) dX12_count_22 rfl (fun v3 => ?_)
      refine sn_cV (r := (some this)) (st := []) (As := [.int v3]) (st2 := (fun v => .int v :: [])) (pc' := 28) ci_13 (fun t => c_X12_fine G t v3) cw_X12_fine rfl rfl tw1435 pw45 tw1437 rfl rfl cat_nil rfl (fun _ => rfl) dX12_count_25 rfl (fun v4 => ?_)
      refine sn_goto (pc' := 52) dX12_count_28 rfl ?_
      exact sn_iret dX12_count_52 rfl rfl
    · refine sn_iload_n (v := a1) (pc' := 32) dX12_count_31 rfl rfl rfl ?_
      refine sn_iconst (v := (2 : Int32)) (pc' := 33) dX12_count_32 rfl (by decide) ?_
      refine sn_ic_ne (pt := 47) (pf := 36) dX12_count_33 rfl rfl ?_ ?_
      · refine sn_aload_n (v := (some this)) (pc' := 37) dX12_count_36 rfl rfl rfl ?_
        refine sn_aload_n (v := (some this)) (pc' := 38) dX12_count_37 rfl rfl rfl ?_
        refine sn_gI (k := 1) (pc' := 41) ci_13 rfl (Or.inl tw1279) dX12_count_38 rfl (fun v5 => ?_)
        refine sn_cV (r := (some this)) (st := []) (As := [.int v5]) (st2 := (fun v => .int v :: [])) (pc' := 44) ci_13 (fun t => c_X12_fine G t v5) cw_X12_fine rfl rfl tw1435 pw45 tw1437 rfl rfl cat_nil rfl (fun _ => rfl) dX12_count_41 rfl (fun v6 => ?_)
        refine sn_goto (pc' := 52) dX12_count_44 rfl ?_
        exact sn_iret dX12_count_52 rfl rfl
      · refine sn_aload_n (v := (some this)) (pc' := 48) dX12_count_47 rfl rfl rfl ?_
        refine sn_iconst (v := (3 : Int32)) (pc' := 49) dX12_count_48 rfl (by decide) ?_
        refine sn_cV (r := (some this)) (st := []) (As := [.int (3 : Int32)]) (st2 := (fun v => .int v :: [])) (pc' := 52) ci_13 (fun t => c_X12_no G t (3 : Int32)) cw_X12_no rfl rfl tw1431 pw44 tw1433 rfl rfl cat_nil rfl (fun _ => rfl) dX12_count_49 rfl (fun v7 => ?_)
        exact sn_iret dX12_count_52 rfl rfl
theorem c_X12_count (G : GG) (this : Nat) (a1 : Int32) : Cal G yX12_count cX12_count 2 (some FieldType.int) 1 21 (fun v : Int32 => some (.int v)) (X12_count this a1) [.ref this, .int a1] :=
  Cal.of (by decide) (cat_t (cat_i cat_nil)) rfl (sn_weak (le_s (le_s le_e)) (s_X12_count G this a1))
theorem cw_X12_count : CW yX12_count cX12_count 2 (some FieldType.int) 1 := ⟨tw1593, tw15, by decide, by decide +kernel⟩
/-! X12_gatherings -/
theorem dX12_gatherings_0 : decode cX12_gatherings 0 = .ok (.aload_n 0, 1) := by decide +kernel
theorem dX12_gatherings_1 : decode cX12_gatherings 1 = .ok (.iload_n 1, 1) := by decide +kernel
theorem dX12_gatherings_2 : decode cX12_gatherings 2 = .ok (.invokevirtual 333, 3) := by decide +kernel
theorem dX12_gatherings_5 : decode cX12_gatherings 5 = .ok (.ifCond .eq 16, 3) := by decide +kernel
theorem dX12_gatherings_8 : decode cX12_gatherings 8 = .ok (.aload_n 0, 1) := by decide +kernel
theorem dX12_gatherings_9 : decode cX12_gatherings 9 = .ok (.aload_n 0, 1) := by decide +kernel
theorem dX12_gatherings_10 : decode cX12_gatherings 10 = .ok (.getfield 17, 3) := by decide +kernel
theorem dX12_gatherings_13 : decode cX12_gatherings 13 = .ok (.iload_n 1, 1) := by decide +kernel
theorem dX12_gatherings_14 : decode cX12_gatherings 14 = .ok (.iaload, 1) := by decide +kernel
theorem dX12_gatherings_15 : decode cX12_gatherings 15 = .ok (.invokevirtual 199, 3) := by decide +kernel
theorem dX12_gatherings_18 : decode cX12_gatherings 18 = .ok (.goto 8, 3) := by decide +kernel
theorem dX12_gatherings_21 : decode cX12_gatherings 21 = .ok (.aload_n 0, 1) := by decide +kernel
theorem dX12_gatherings_22 : decode cX12_gatherings 22 = .ok (.iconst 1, 1) := by decide +kernel
theorem dX12_gatherings_23 : decode cX12_gatherings 23 = .ok (.invokevirtual 193, 3) := by decide +kernel
theorem dX12_gatherings_26 : decode cX12_gatherings 26 = .ok (.ireturn, 1) := by decide +kernel
def X12_gatherings (this : Nat) (a1 : Int32) : MM Int32 :=
  mb (wc 13 (some this) fun t => X12_isBook t a1) fun v1 =>
  if v1 = 0 then (mb (wc 13 (some this) fun t => X12_no t (1 : Int32)) fun v2 =>
  mr v2) else (mb (gR 13 (some this) 6) fun v3 =>
  mb (aI v3 a1) fun v4 =>
  mb (wc 13 (some this) fun t => X12_fine t v4) fun v5 =>
  mr v5)
set_option maxRecDepth 100000 in
set_option maxHeartbeats 4000000 in
theorem s_X12_gatherings (G : GG) (this : Nat) (a1 : Int32) : Sn G yX12_gatherings cX12_gatherings 2 (some FieldType.int) 2 43 (fun v : Int32 => some (.int v)) (X12_gatherings this a1) 0 [some (va_rf (some this)), some (.int a1)] [] := by
  unfold X12_gatherings
  refine sn_aload_n (v := (some this)) (pc' := 1) dX12_gatherings_0 rfl rfl rfl ?_
  refine sn_iload_n (v := a1) (pc' := 2) dX12_gatherings_1 rfl rfl rfl ?_
  refine sn_cV (r := (some this)) (st := []) (As := [.int a1]) (st2 := (fun v => .int v :: [])) (pc' := 5) ci_13 (fun t => c_X12_isBook G t a1) cw_X12_isBook rfl rfl tw1554 pw68 tw1556 rfl rfl cat_nil rfl (fun _ => rfl) dX12_gatherings_2 rfl (fun v1 => ?_)
  refine sn_if_eq (pt := 21) (pf := 8) dX12_gatherings_5 rfl rfl ?_ ?_
  · refine sn_aload_n (v := (some this)) (pc' := 22) dX12_gatherings_21 rfl rfl rfl ?_
    refine sn_iconst (v := (1 : Int32)) (pc' := 23) dX12_gatherings_22 rfl (by decide) ?_
    refine sn_cV (r := (some this)) (st := []) (As := [.int (1 : Int32)]) (st2 := (fun v => .int v :: [])) (pc' := 26) ci_13 (fun t => c_X12_no G t (1 : Int32)) cw_X12_no rfl rfl tw1431 pw44 tw1433 rfl rfl cat_nil rfl (fun _ => rfl) dX12_gatherings_23 rfl (fun v2 => ?_)
    exact sn_iret dX12_gatherings_26 rfl rfl
  · refine sn_aload_n (v := (some this)) (pc' := 9) dX12_gatherings_8 rfl rfl rfl ?_
    refine sn_aload_n (v := (some this)) (pc' := 10) dX12_gatherings_9 rfl rfl rfl ?_
    refine sn_gR (k := 6) (pc' := 13) ci_13 rfl (Or.inl tw1284) dX12_gatherings_10 rfl (fun v3 => ?_)
    refine sn_iload_n (v := a1) (pc' := 14) dX12_gatherings_13 rfl rfl rfl ?_
    refine sn_aI (pc' := 15) dX12_gatherings_14 rfl (fun v4 => ?_)
    refine sn_cV (r := (some this)) (st := []) (As := [.int v4]) (st2 := (fun v => .int v :: [])) (pc' := 18) ci_13 (fun t => c_X12_fine G t v4) cw_X12_fine rfl rfl tw1435 pw45 tw1437 rfl rfl cat_nil rfl (fun _ => rfl) dX12_gatherings_15 rfl (fun v5 => ?_)
    refine sn_goto (pc' := 26) dX12_gatherings_18 rfl ?_
    exact sn_iret dX12_gatherings_26 rfl rfl
theorem c_X12_gatherings (G : GG) (this : Nat) (a1 : Int32) : Cal G yX12_gatherings cX12_gatherings 2 (some FieldType.int) 2 43 (fun v : Int32 => some (.int v)) (X12_gatherings this a1) [.ref this, .int a1] :=
  Cal.of (by decide) (cat_t (cat_i cat_nil)) rfl (sn_weak (le_s (le_s le_e)) (s_X12_gatherings G this a1))
theorem cw_X12_gatherings : CW yX12_gatherings cX12_gatherings 2 (some FieldType.int) 1 := ⟨tw1597, tw15, by decide, by decide +kernel⟩
