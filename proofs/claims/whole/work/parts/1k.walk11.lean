theorem tw1601 : (Jvm.Cond.code ({ cls := "LeafFormulaModel", name := "gathering", desc := "(III)I" } : Jvm.MethodName) prog_14_method_66_code (6 : Nat) (Option.some Jvm.ClassFile.FieldType.int)) ∈ gtbl := gt_of 1694 (by decide +kernel) (by decide +kernel)
theorem tw1605 : (Jvm.Cond.code ({ cls := "LeafFormulaModel", name := "leaves", desc := "(I)I" } : Jvm.MethodName) prog_14_method_67_code (2 : Nat) (Option.some Jvm.ClassFile.FieldType.int)) ∈ gtbl := gt_of 1698 (by decide +kernel) (by decide +kernel)
theorem tw1609 : (Jvm.Cond.code ({ cls := "LeafFormulaModel", name := "leaf", desc := "(III)I" } : Jvm.MethodName) prog_14_method_69_code (5 : Nat) (Option.some Jvm.ClassFile.FieldType.int)) ∈ gtbl := gt_of 1702 (by decide +kernel) (by decide +kernel)
theorem tw1610 : (Jvm.Cond.methodLink "LeafFormulaModel" (354 : Nat) ({ cls := "LeafFormulaModel", name := "isLeaf", desc := "(II)Z" } : Jvm.MethodName)) ∈ gtbl := gt_of 1703 (by decide +kernel) (by decide +kernel)
theorem tw1612 : (Jvm.Cond.instanceMethod ({ cls := "LeafFormulaModel", name := "isLeaf", desc := "(II)Z" } : Jvm.MethodName)) ∈ gtbl := gt_of 1705 (by decide +kernel) (by decide +kernel)
theorem tw1613 : (Jvm.Cond.code ({ cls := "LeafFormulaModel", name := "isLeaf", desc := "(II)Z" } : Jvm.MethodName) prog_14_method_68_code (3 : Nat) (Option.some Jvm.ClassFile.FieldType.boolean)) ∈ gtbl := gt_of 1706 (by decide +kernel) (by decide +kernel)
theorem tw1625 : (Jvm.Cond.code ({ cls := "LeafFormulaModel", name := "letter", desc := "(II)I" } : Jvm.MethodName) prog_14_method_70_code (3 : Nat) (Option.some Jvm.ClassFile.FieldType.int)) ∈ gtbl := gt_of 1718 (by decide +kernel) (by decide +kernel)
theorem tw1626 : (Jvm.Cond.methodLink "LeafFormulaModel" (357 : Nat) ({ cls := "LeafFormulaModel", name := "writeBook", desc := "(I)V" } : Jvm.MethodName)) ∈ gtbl := gt_of 1719 (by decide +kernel) (by decide +kernel)
theorem tw1628 : (Jvm.Cond.instanceMethod ({ cls := "LeafFormulaModel", name := "writeBook", desc := "(I)V" } : Jvm.MethodName)) ∈ gtbl := gt_of 1721 (by decide +kernel) (by decide +kernel)
theorem tw1653 : (Jvm.Cond.methodLink "LeafFormulaModel" (360 : Nat) ({ cls := "LeafFormulaModel", name := "tell", desc := "(I)I" } : Jvm.MethodName)) ∈ gtbl := gt_of 1746 (by decide +kernel) (by decide +kernel)
theorem tw1655 : (Jvm.Cond.instanceMethod ({ cls := "LeafFormulaModel", name := "tell", desc := "(I)I" } : Jvm.MethodName)) ∈ gtbl := gt_of 1748 (by decide +kernel) (by decide +kernel)
theorem tw1660 : (Jvm.Cond.code ({ cls := "LeafFormulaModel", name := "name", desc := "(III)I" } : Jvm.MethodName) prog_14_method_71_code (4 : Nat) (Option.some Jvm.ClassFile.FieldType.int)) ∈ gtbl := gt_of 1753 (by decide +kernel) (by decide +kernel)
theorem tw1668 : (Jvm.Cond.code ({ cls := "LeafFormulaModel", name := "same", desc := "(II)I" } : Jvm.MethodName) prog_14_method_72_code (6 : Nat) (Option.some Jvm.ClassFile.FieldType.int)) ∈ gtbl := gt_of 1761 (by decide +kernel) (by decide +kernel)
theorem tw1672 : (Jvm.Cond.code ({ cls := "LeafFormulaModel", name := "sheets", desc := "(II)I" } : Jvm.MethodName) prog_14_method_73_code (5 : Nat) (Option.some Jvm.ClassFile.FieldType.int)) ∈ gtbl := gt_of 1765 (by decide +kernel) (by decide +kernel)
theorem tw1673 : (Jvm.Cond.methodLink "LeafFormulaModel" (363 : Nat) ({ cls := "LeafFormulaModel", name := "isFormat", desc := "(I)Z" } : Jvm.MethodName)) ∈ gtbl := gt_of 1766 (by decide +kernel) (by decide +kernel)
theorem tw1674 : (Jvm.Cond.static ({ cls := "LeafFormulaModel", name := "isFormat", desc := "(I)Z" } : Jvm.MethodName)) ∈ gtbl := gt_of 1767 (by decide +kernel) (by decide +kernel)
theorem tw1676 : (Jvm.Cond.methodLink "LeafFormulaModel" (366 : Nat) ({ cls := "LeafFormulaModel", name := "sheetsOf", desc := "(II)I" } : Jvm.MethodName)) ∈ gtbl := gt_of 1769 (by decide +kernel) (by decide +kernel)
theorem tw1677 : (Jvm.Cond.static ({ cls := "LeafFormulaModel", name := "sheetsOf", desc := "(II)I" } : Jvm.MethodName)) ∈ gtbl := gt_of 1770 (by decide +kernel) (by decide +kernel)
theorem tw1686 : (Jvm.Cond.code ({ cls := "LeafFormulaModel", name := "sheet", desc := "(IIII)I" } : Jvm.MethodName) prog_14_method_74_code (9 : Nat) (Option.some Jvm.ClassFile.FieldType.int)) ∈ gtbl := gt_of 1779 (by decide +kernel) (by decide +kernel)
theorem tw1687 : (Jvm.Cond.methodLink "LeafFormulaModel" (369 : Nat) ({ cls := "LeafFormulaModel", name := "numberOn", desc := "(III)I" } : Jvm.MethodName)) ∈ gtbl := gt_of 1780 (by decide +kernel) (by decide +kernel)
theorem tw1688 : (Jvm.Cond.static ({ cls := "LeafFormulaModel", name := "numberOn", desc := "(III)I" } : Jvm.MethodName)) ∈ gtbl := gt_of 1781 (by decide +kernel) (by decide +kernel)
theorem tw1693 : (Jvm.Cond.code ({ cls := "LeafFormulaModel", name := "forme", desc := "(IIII)I" } : Jvm.MethodName) prog_14_method_75_code (6 : Nat) (Option.some Jvm.ClassFile.FieldType.int)) ∈ gtbl := gt_of 1786 (by decide +kernel) (by decide +kernel)
theorem tw1697 : (Jvm.Cond.code ({ cls := "LeafFormulaModel", name := "state", desc := "(II)I" } : Jvm.MethodName) prog_14_method_76_code (3 : Nat) (Option.some Jvm.ClassFile.FieldType.int)) ∈ gtbl := gt_of 1790 (by decide +kernel) (by decide +kernel)
theorem tw1698 : (Jvm.Cond.methodLink "LeafFormulaModel" (372 : Nat) ({ cls := "LeafFormulaModel", name := "isCopy", desc := "(I)Z" } : Jvm.MethodName)) ∈ gtbl := gt_of 1791 (by decide +kernel) (by decide +kernel)
theorem tw1700 : (Jvm.Cond.instanceMethod ({ cls := "LeafFormulaModel", name := "isCopy", desc := "(I)Z" } : Jvm.MethodName)) ∈ gtbl := gt_of 1793 (by decide +kernel) (by decide +kernel)
theorem tw1722 : (Jvm.Cond.code ({ cls := "LeafFormulaModel", name := "entry", desc := "(II)I" } : Jvm.MethodName) prog_14_method_77_code (3 : Nat) (Option.some Jvm.ClassFile.FieldType.int)) ∈ gtbl := gt_of 1815 (by decide +kernel) (by decide +kernel)
theorem tw1726 : (Jvm.Cond.code ({ cls := "LeafFormulaModel", name := "told", desc := "(III)I" } : Jvm.MethodName) prog_14_method_78_code (6 : Nat) (Option.some Jvm.ClassFile.FieldType.int)) ∈ gtbl := gt_of 1819 (by decide +kernel) (by decide +kernel)
theorem tw1730 : (Jvm.Cond.code ({ cls := "LeafFormulaModel", name := "note", desc := "(II)I" } : Jvm.MethodName) prog_14_method_79_code (3 : Nat) (Option.some Jvm.ClassFile.FieldType.int)) ∈ gtbl := gt_of 1823 (by decide +kernel) (by decide +kernel)
theorem tw1731 : (Jvm.Cond.methodLink "LeafFormulaModel" (375 : Nat) ({ cls := "LeafFormulaModel", name := "writeNote", desc := "(I)V" } : Jvm.MethodName)) ∈ gtbl := gt_of 1824 (by decide +kernel) (by decide +kernel)
theorem tw1733 : (Jvm.Cond.instanceMethod ({ cls := "LeafFormulaModel", name := "writeNote", desc := "(I)V" } : Jvm.MethodName)) ∈ gtbl := gt_of 1826 (by decide +kernel) (by decide +kernel)
theorem tw1748 : (Jvm.Cond.code ({ cls := "LeafFormulaModel", name := "apart", desc := "(II)I" } : Jvm.MethodName) prog_14_method_82_code (6 : Nat) (Option.some Jvm.ClassFile.FieldType.int)) ∈ gtbl := gt_of 1841 (by decide +kernel) (by decide +kernel)
theorem tw1749 : (Jvm.Cond.methodLink "LeafFormulaModel" (378 : Nat) ({ cls := "LeafFormulaModel", name := "twoWhy", desc := "(II)I" } : Jvm.MethodName)) ∈ gtbl := gt_of 1842 (by decide +kernel) (by decide +kernel)
theorem tw1751 : (Jvm.Cond.instanceMethod ({ cls := "LeafFormulaModel", name := "twoWhy", desc := "(II)I" } : Jvm.MethodName)) ∈ gtbl := gt_of 1844 (by decide +kernel) (by decide +kernel)
theorem tw1752 : (Jvm.Cond.code ({ cls := "LeafFormulaModel", name := "twoWhy", desc := "(II)I" } : Jvm.MethodName) prog_14_method_81_code (3 : Nat) (Option.some Jvm.ClassFile.FieldType.int)) ∈ gtbl := gt_of 1845 (by decide +kernel) (by decide +kernel)
theorem tw1753 : (Jvm.Cond.methodLink "LeafFormulaModel" (381 : Nat) ({ cls := "LeafFormulaModel", name := "mark", desc := "(I[Z)V" } : Jvm.MethodName)) ∈ gtbl := gt_of 1846 (by decide +kernel) (by decide +kernel)
theorem tw1755 : (Jvm.Cond.instanceMethod ({ cls := "LeafFormulaModel", name := "mark", desc := "(I[Z)V" } : Jvm.MethodName)) ∈ gtbl := gt_of 1848 (by decide +kernel) (by decide +kernel)
theorem tw1756 : (Jvm.Cond.code ({ cls := "LeafFormulaModel", name := "mark", desc := "(I[Z)V" } : Jvm.MethodName) prog_14_method_80_code (4 : Nat) (Option.none : Option Jvm.ClassFile.FieldType)) ∈ gtbl := gt_of 1849 (by decide +kernel) (by decide +kernel)
theorem pw73 : Cond.selects "LeafFormulaModel" ⟨"LeafFormulaModel", "isLeaf", "(II)Z"⟩ ⟨"LeafFormulaModel", "isLeaf", "(II)Z"⟩ ∈ gtbl := gt_of 73 (by decide +kernel) (by decide +kernel)
theorem pw76 : Cond.selects "LeafFormulaModel" ⟨"LeafFormulaModel", "writeBook", "(I)V"⟩ ⟨"LeafFormulaModel", "writeBook", "(I)V"⟩ ∈ gtbl := gt_of 76 (by decide +kernel) (by decide +kernel)
theorem pw82 : Cond.selects "LeafFormulaModel" ⟨"LeafFormulaModel", "tell", "(I)I"⟩ ⟨"LeafFormulaModel", "tell", "(I)I"⟩ ∈ gtbl := gt_of 82 (by decide +kernel) (by decide +kernel)
theorem pw84 : Cond.selects "LeafFormulaModel" ⟨"LeafFormulaModel", "isCopy", "(I)Z"⟩ ⟨"LeafFormulaModel", "isCopy", "(I)Z"⟩ ∈ gtbl := gt_of 84 (by decide +kernel) (by decide +kernel)
theorem pw89 : Cond.selects "LeafFormulaModel" ⟨"LeafFormulaModel", "writeNote", "(I)V"⟩ ⟨"LeafFormulaModel", "writeNote", "(I)V"⟩ ∈ gtbl := gt_of 89 (by decide +kernel) (by decide +kernel)
theorem pw91 : Cond.selects "LeafFormulaModel" ⟨"LeafFormulaModel", "twoWhy", "(II)I"⟩ ⟨"LeafFormulaModel", "twoWhy", "(II)I"⟩ ∈ gtbl := gt_of 91 (by decide +kernel) (by decide +kernel)
theorem pw92 : Cond.selects "LeafFormulaModel" ⟨"LeafFormulaModel", "mark", "(I[Z)V"⟩ ⟨"LeafFormulaModel", "mark", "(I[Z)V"⟩ ∈ gtbl := gt_of 92 (by decide +kernel) (by decide +kernel)
/-! X12_gathering -/
theorem dX12_gathering_0 : decode cX12_gathering 0 = .ok (.aload_n 0, 1) := by decide +kernel
theorem dX12_gathering_1 : decode cX12_gathering 1 = .ok (.iload_n 1, 1) := by decide +kernel
theorem dX12_gathering_2 : decode cX12_gathering 2 = .ok (.invokevirtual 333, 3) := by decide +kernel
theorem dX12_gathering_5 : decode cX12_gathering 5 = .ok (.ifCond .eq 19, 3) := by decide +kernel
theorem dX12_gathering_8 : decode cX12_gathering 8 = .ok (.iload_n 2, 1) := by decide +kernel
theorem dX12_gathering_9 : decode cX12_gathering 9 = .ok (.iconst 0, 1) := by decide +kernel
theorem dX12_gathering_10 : decode cX12_gathering 10 = .ok (.aload_n 0, 1) := by decide +kernel
theorem dX12_gathering_11 : decode cX12_gathering 11 = .ok (.getfield 17, 3) := by decide +kernel
theorem dX12_gathering_14 : decode cX12_gathering 14 = .ok (.iload_n 1, 1) := by decide +kernel
theorem dX12_gathering_15 : decode cX12_gathering 15 = .ok (.iaload, 1) := by decide +kernel
theorem dX12_gathering_16 : decode cX12_gathering 16 = .ok (.iconst 1, 1) := by decide +kernel
theorem dX12_gathering_17 : decode cX12_gathering 17 = .ok (.isub, 1) := by decide +kernel
theorem dX12_gathering_18 : decode cX12_gathering 18 = .ok (.invokestatic 10, 3) := by decide +kernel
theorem dX12_gathering_21 : decode cX12_gathering 21 = .ok (.ifCond .ne 9, 3) := by decide +kernel
theorem dX12_gathering_24 : decode cX12_gathering 24 = .ok (.aload_n 0, 1) := by decide +kernel
theorem dX12_gathering_25 : decode cX12_gathering 25 = .ok (.iconst 1, 1) := by decide +kernel
theorem dX12_gathering_26 : decode cX12_gathering 26 = .ok (.invokevirtual 193, 3) := by decide +kernel
theorem dX12_gathering_29 : decode cX12_gathering 29 = .ok (.ireturn, 1) := by decide +kernel
theorem dX12_gathering_30 : decode cX12_gathering 30 = .ok (.iconst 0, 1) := by decide +kernel
theorem dX12_gathering_31 : decode cX12_gathering 31 = .ok (.istore 4, 2) := by decide +kernel
theorem dX12_gathering_33 : decode cX12_gathering 33 = .ok (.iload_n 3, 1) := by decide +kernel
theorem dX12_gathering_34 : decode cX12_gathering 34 = .ok (.tableswitch 174 0 3 #[30, 46, 62, 116], 30) := by decide +kernel
theorem dX12_gathering_64 : decode cX12_gathering 64 = .ok (.aload_n 0, 1) := by decide +kernel
theorem dX12_gathering_65 : decode cX12_gathering 65 = .ok (.aload_n 0, 1) := by decide +kernel
theorem dX12_gathering_66 : decode cX12_gathering 66 = .ok (.getfield 21, 3) := by decide +kernel
theorem dX12_gathering_69 : decode cX12_gathering 69 = .ok (.iload_n 1, 1) := by decide +kernel
theorem dX12_gathering_70 : decode cX12_gathering 70 = .ok (.bipush 71, 2) := by decide +kernel
theorem dX12_gathering_72 : decode cX12_gathering 72 = .ok (.imul, 1) := by decide +kernel
theorem dX12_gathering_73 : decode cX12_gathering 73 = .ok (.iload_n 2, 1) := by decide +kernel
theorem dX12_gathering_74 : decode cX12_gathering 74 = .ok (.iadd, 1) := by decide +kernel
theorem dX12_gathering_75 : decode cX12_gathering 75 = .ok (.iaload, 1) := by decide +kernel
theorem dX12_gathering_76 : decode cX12_gathering 76 = .ok (.invokevirtual 199, 3) := by decide +kernel
theorem dX12_gathering_79 : decode cX12_gathering 79 = .ok (.ireturn, 1) := by decide +kernel
theorem dX12_gathering_80 : decode cX12_gathering 80 = .ok (.aload_n 0, 1) := by decide +kernel
theorem dX12_gathering_81 : decode cX12_gathering 81 = .ok (.aload_n 0, 1) := by decide +kernel
theorem dX12_gathering_82 : decode cX12_gathering 82 = .ok (.getfield 24, 3) := by decide +kernel
theorem dX12_gathering_85 : decode cX12_gathering 85 = .ok (.iload_n 1, 1) := by decide +kernel
theorem dX12_gathering_86 : decode cX12_gathering 86 = .ok (.bipush 71, 2) := by decide +kernel
theorem dX12_gathering_88 : decode cX12_gathering 88 = .ok (.imul, 1) := by decide +kernel
theorem dX12_gathering_89 : decode cX12_gathering 89 = .ok (.iload_n 2, 1) := by decide +kernel
theorem dX12_gathering_90 : decode cX12_gathering 90 = .ok (.iadd, 1) := by decide +kernel
theorem dX12_gathering_91 : decode cX12_gathering 91 = .ok (.iaload, 1) := by decide +kernel
theorem dX12_gathering_92 : decode cX12_gathering 92 = .ok (.invokevirtual 199, 3) := by decide +kernel
theorem dX12_gathering_95 : decode cX12_gathering 95 = .ok (.ireturn, 1) := by decide +kernel
theorem dX12_gathering_96 : decode cX12_gathering 96 = .ok (.iconst 0, 1) := by decide +kernel
theorem dX12_gathering_97 : decode cX12_gathering 97 = .ok (.istore 5, 2) := by decide +kernel
theorem dX12_gathering_99 : decode cX12_gathering 99 = .ok (.iload 5, 2) := by decide +kernel
theorem dX12_gathering_101 : decode cX12_gathering 101 = .ok (.aload_n 0, 1) := by decide +kernel
theorem dX12_gathering_102 : decode cX12_gathering 102 = .ok (.getfield 46, 3) := by decide +kernel
theorem dX12_gathering_105 : decode cX12_gathering 105 = .ok (.iload_n 1, 1) := by decide +kernel
theorem dX12_gathering_106 : decode cX12_gathering 106 = .ok (.iaload, 1) := by decide +kernel
theorem dX12_gathering_107 : decode cX12_gathering 107 = .ok (.if_icmp .ge 36, 3) := by decide +kernel
theorem dX12_gathering_110 : decode cX12_gathering 110 = .ok (.iload 4, 2) := by decide +kernel
theorem dX12_gathering_112 : decode cX12_gathering 112 = .ok (.aload_n 0, 1) := by decide +kernel
theorem dX12_gathering_113 : decode cX12_gathering 113 = .ok (.getfield 37, 3) := by decide +kernel
theorem dX12_gathering_116 : decode cX12_gathering 116 = .ok (.iload_n 1, 1) := by decide +kernel
theorem dX12_gathering_117 : decode cX12_gathering 117 = .ok (.sipush 400, 3) := by decide +kernel
theorem dX12_gathering_120 : decode cX12_gathering 120 = .ok (.imul, 1) := by decide +kernel
theorem dX12_gathering_121 : decode cX12_gathering 121 = .ok (.iload 5, 2) := by decide +kernel
theorem dX12_gathering_123 : decode cX12_gathering 123 = .ok (.iadd, 1) := by decide +kernel
theorem dX12_gathering_124 : decode cX12_gathering 124 = .ok (.iaload, 1) := by decide +kernel
theorem dX12_gathering_125 : decode cX12_gathering 125 = .ok (.iload_n 2, 1) := by decide +kernel
theorem dX12_gathering_126 : decode cX12_gathering 126 = .ok (.if_icmp .ne 7, 3) := by decide +kernel
theorem dX12_gathering_129 : decode cX12_gathering 129 = .ok (.iconst 1, 1) := by decide +kernel
theorem dX12_gathering_130 : decode cX12_gathering 130 = .ok (.goto 4, 3) := by decide +kernel
theorem dX12_gathering_133 : decode cX12_gathering 133 = .ok (.iconst 0, 1) := by decide +kernel
theorem dX12_gathering_134 : decode cX12_gathering 134 = .ok (.iadd, 1) := by decide +kernel
theorem dX12_gathering_135 : decode cX12_gathering 135 = .ok (.istore 4, 2) := by decide +kernel
theorem dX12_gathering_137 : decode cX12_gathering 137 = .ok (.iinc 5 1, 3) := by decide +kernel
theorem dX12_gathering_140 : decode cX12_gathering 140 = .ok (.goto (-41), 3) := by decide +kernel
theorem dX12_gathering_143 : decode cX12_gathering 143 = .ok (.aload_n 0, 1) := by decide +kernel
theorem dX12_gathering_144 : decode cX12_gathering 144 = .ok (.iload 4, 2) := by decide +kernel
theorem dX12_gathering_146 : decode cX12_gathering 146 = .ok (.invokevirtual 199, 3) := by decide +kernel
theorem dX12_gathering_149 : decode cX12_gathering 149 = .ok (.ireturn, 1) := by decide +kernel
theorem dX12_gathering_150 : decode cX12_gathering 150 = .ok (.iconst 1, 1) := by decide +kernel
theorem dX12_gathering_151 : decode cX12_gathering 151 = .ok (.istore 5, 2) := by decide +kernel
theorem dX12_gathering_153 : decode cX12_gathering 153 = .ok (.iload 5, 2) := by decide +kernel
theorem dX12_gathering_155 : decode cX12_gathering 155 = .ok (.aload_n 0, 1) := by decide +kernel
theorem dX12_gathering_156 : decode cX12_gathering 156 = .ok (.getfield 24, 3) := by decide +kernel
theorem dX12_gathering_159 : decode cX12_gathering 159 = .ok (.iload_n 1, 1) := by decide +kernel
theorem dX12_gathering_160 : decode cX12_gathering 160 = .ok (.bipush 71, 2) := by decide +kernel
theorem dX12_gathering_162 : decode cX12_gathering 162 = .ok (.imul, 1) := by decide +kernel
theorem dX12_gathering_163 : decode cX12_gathering 163 = .ok (.iload_n 2, 1) := by decide +kernel
theorem dX12_gathering_164 : decode cX12_gathering 164 = .ok (.iadd, 1) := by decide +kernel
theorem dX12_gathering_165 : decode cX12_gathering 165 = .ok (.iaload, 1) := by decide +kernel
theorem dX12_gathering_166 : decode cX12_gathering 166 = .ok (.if_icmp .gt 35, 3) := by decide +kernel
theorem dX12_gathering_169 : decode cX12_gathering 169 = .ok (.iload 4, 2) := by decide +kernel
theorem dX12_gathering_171 : decode cX12_gathering 171 = .ok (.aload_n 0, 1) := by decide +kernel
theorem dX12_gathering_172 : decode cX12_gathering 172 = .ok (.getfield 31, 3) := by decide +kernel
theorem dX12_gathering_175 : decode cX12_gathering 175 = .ok (.iload_n 1, 1) := by decide +kernel
theorem dX12_gathering_176 : decode cX12_gathering 176 = .ok (.iload_n 2, 1) := by decide +kernel
theorem dX12_gathering_177 : decode cX12_gathering 177 = .ok (.iload 5, 2) := by decide +kernel
theorem dX12_gathering_179 : decode cX12_gathering 179 = .ok (.invokestatic 27, 3) := by decide +kernel
theorem dX12_gathering_182 : decode cX12_gathering 182 = .ok (.iaload, 1) := by decide +kernel
theorem dX12_gathering_183 : decode cX12_gathering 183 = .ok (.iconst 1, 1) := by decide +kernel
theorem dX12_gathering_184 : decode cX12_gathering 184 = .ok (.if_icmp .ne 7, 3) := by decide +kernel
theorem dX12_gathering_187 : decode cX12_gathering 187 = .ok (.iconst 1, 1) := by decide +kernel
theorem dX12_gathering_188 : decode cX12_gathering 188 = .ok (.goto 4, 3) := by decide +kernel
theorem dX12_gathering_191 : decode cX12_gathering 191 = .ok (.iconst 0, 1) := by decide +kernel
theorem dX12_gathering_192 : decode cX12_gathering 192 = .ok (.iadd, 1) := by decide +kernel
theorem dX12_gathering_193 : decode cX12_gathering 193 = .ok (.istore 4, 2) := by decide +kernel
theorem dX12_gathering_195 : decode cX12_gathering 195 = .ok (.iinc 5 1, 3) := by decide +kernel
theorem dX12_gathering_198 : decode cX12_gathering 198 = .ok (.goto (-45), 3) := by decide +kernel
theorem dX12_gathering_201 : decode cX12_gathering 201 = .ok (.aload_n 0, 1) := by decide +kernel
theorem dX12_gathering_202 : decode cX12_gathering 202 = .ok (.iload 4, 2) := by decide +kernel
theorem dX12_gathering_204 : decode cX12_gathering 204 = .ok (.invokevirtual 199, 3) := by decide +kernel
theorem dX12_gathering_207 : decode cX12_gathering 207 = .ok (.ireturn, 1) := by decide +kernel
theorem dX12_gathering_208 : decode cX12_gathering 208 = .ok (.aload_n 0, 1) := by decide +kernel
theorem dX12_gathering_209 : decode cX12_gathering 209 = .ok (.iconst 3, 1) := by decide +kernel
theorem dX12_gathering_210 : decode cX12_gathering 210 = .ok (.invokevirtual 193, 3) := by decide +kernel
theorem dX12_gathering_213 : decode cX12_gathering 213 = .ok (.ireturn, 1) := by decide +kernel
def X12_gathering_24  (this : Nat) : MM Int32 :=
  mb (wc 13 (some this) fun t => X12_no t (1 : Int32)) fun v1 =>
  mr v1
def X12_gathering_134 (k99 : Nat → Int32 → Int32 → Int32 → Int32 → MM Int32) (this : Nat) (x1 : Int32) (x2 : Int32) (x5 : Int32) (y0 : Int32) (y1 : Int32) : MM Int32 :=
  (k99 this x1 x2 (y1 + y0) (x5 + (1 : Int32)))
def X12_gathering_143  (this : Nat) (x4 : Int32) : MM Int32 :=
  mb (wc 13 (some this) fun t => X12_fine t x4) fun v1 =>
  mr v1
def X12_gathering_99_st  (k99 : Nat → Int32 → Int32 → Int32 → Int32 → MM Int32) (this : Nat) (x1 : Int32) (x2 : Int32) (x4 : Int32) (x5 : Int32) : MM Int32 :=
  mb (gR 13 (some this) 11) fun v1 =>
  mb (aI v1 x1) fun v2 =>
  if v2 ≤ x5 then ((X12_gathering_143 this x4)) else (mb (gR 13 (some this) 12) fun v3 =>
  mb (aI v3 ((x1 * (400 : Int32)) + x5)) fun v4 =>
  if v4 = x2 then ((X12_gathering_134 k99 this x1 x2 x5 (1 : Int32) x4)) else ((X12_gathering_134 k99 this x1 x2 x5 (0 : Int32) x4)))
def X12_gathering_99  : Nat → Nat → Int32 → Int32 → Int32 → Int32 → MM Int32
  | 0 => fun _ _ _ _ _ => mf
  | n + 1 => fun this x1 x2 x4 x5 => X12_gathering_99_st  (X12_gathering_99  n) this x1 x2 x4 x5
def X12_gathering_192 (k153 : Nat → Int32 → Int32 → Int32 → Int32 → MM Int32) (this : Nat) (x1 : Int32) (x2 : Int32) (x5 : Int32) (y0 : Int32) (y1 : Int32) : MM Int32 :=
  (k153 this x1 x2 (y1 + y0) (x5 + (1 : Int32)))
def X12_gathering_201  (this : Nat) (x4 : Int32) : MM Int32 :=
  mb (wc 13 (some this) fun t => X12_fine t x4) fun v1 =>
  mr v1
def X12_gathering_153_st  (k153 : Nat → Int32 → Int32 → Int32 → Int32 → MM Int32) (this : Nat) (x1 : Int32) (x2 : Int32) (x4 : Int32) (x5 : Int32) : MM Int32 :=
  mb (gR 13 (some this) 8) fun v1 =>
  mb (aI v1 ((x1 * (71 : Int32)) + x2)) fun v2 =>
  if v2 < x5 then ((X12_gathering_201 this x4)) else (mb (gR 13 (some this) 9) fun v3 =>
  mb (X12_spot x1 x2 x5) fun v4 =>
  mb (aI v3 v4) fun v5 =>
  if v5 = (1 : Int32) then ((X12_gathering_192 k153 this x1 x2 x5 (1 : Int32) x4)) else ((X12_gathering_192 k153 this x1 x2 x5 (0 : Int32) x4)))
def X12_gathering_153  : Nat → Nat → Int32 → Int32 → Int32 → Int32 → MM Int32
  | 0 => fun _ _ _ _ _ => mf
  | n + 1 => fun this x1 x2 x4 x5 => X12_gathering_153_st  (X12_gathering_153  n) this x1 x2 x4 x5
def X12_gathering (this : Nat) (a1 : Int32) (a2 : Int32) (a3 : Int32) : MM Int32 :=
  mb (wc 13 (some this) fun t => X12_isBook t a1) fun v1 =>
  if v1 = 0 then ((X12_gathering_24 this)) else (mb (gR 13 (some this) 6) fun v2 =>
  mb (aI v2 a1) fun v3 =>
  mb (X12_isIn a2 (0 : Int32) (v3 - (1 : Int32))) fun v4 =>
  if v4 = 0 then ((X12_gathering_24 this)) else (if a3 = (0 : Int32) then (mb (gR 13 (some this) 7) fun v5 =>
  mb (aI v5 ((a1 * (71 : Int32)) + a2)) fun v6 =>
  mb (wc 13 (some this) fun t => X12_fine t v6) fun v7 =>
  mr v7) else (if a3 = (1 : Int32) then (mb (gR 13 (some this) 8) fun v8 =>
  mb (aI v8 ((a1 * (71 : Int32)) + a2)) fun v9 =>
  mb (wc 13 (some this) fun t => X12_fine t v9) fun v10 =>
  mr v10) else (if a3 = (2 : Int32) then ((X12_gathering_99 LFU this a1 a2 (0 : Int32) (0 : Int32))) else (if a3 = (3 : Int32) then ((X12_gathering_153 LFU this a1 a2 (0 : Int32) (1 : Int32))) else (mb (wc 13 (some this) fun t => X12_no t (3 : Int32)) fun v11 =>
  mr v11))))))
set_option maxRecDepth 100000 in
set_option maxHeartbeats 4000000 in
theorem s_X12_gathering_24 (G : GG)   (this : Nat) : Sn G yX12_gathering cX12_gathering 6 (some FieldType.int) 2 43 (fun v : Int32 => some (.int v)) (X12_gathering_24  this) 24 [some (va_rf (some this)), none, none, none, none, none] [] := by
  unfold X12_gathering_24
  refine sn_aload_n (v := (some this)) (pc' := 25) dX12_gathering_24 rfl rfl rfl ?_
  refine sn_iconst (v := (1 : Int32)) (pc' := 26) dX12_gathering_25 rfl (by decide) ?_
  refine sn_cV (r := (some this)) (st := []) (As := [.int (1 : Int32)]) (st2 := (fun v => .int v :: [])) (pc' := 29) ci_13 (fun t => c_X12_no G t (1 : Int32)) cw_X12_no rfl rfl tw1431 pw44 tw1433 rfl rfl cat_nil rfl (fun _ => rfl) dX12_gathering_26 rfl (fun v1 => ?_)
  exact sn_iret dX12_gathering_29 rfl rfl
set_option maxRecDepth 100000 in
set_option maxHeartbeats 4000000 in
theorem s_X12_gathering_134 (G : GG) (k99 : Nat → Int32 → Int32 → Int32 → Int32 → MM Int32) (hk99 : ∀ (this : Nat) (x1 : Int32) (x2 : Int32) (x4 : Int32) (x5 : Int32), Sn G yX12_gathering cX12_gathering 6 (some FieldType.int) 2 43 (fun v : Int32 => some (.int v)) (k99 this x1 x2 x4 x5) 99 [some (va_rf (some this)), some (.int x1), some (.int x2), none, some (.int x4), some (.int x5)] []) (this : Nat) (x1 : Int32) (x2 : Int32) (x5 : Int32) (y0 : Int32) (y1 : Int32) : Sn G yX12_gathering cX12_gathering 6 (some FieldType.int) 2 43 (fun v : Int32 => some (.int v)) (X12_gathering_134 k99 this x1 x2 x5 y0 y1) 134 [some (va_rf (some this)), some (.int x1), some (.int x2), none, none, some (.int x5)] [.int y0, .int y1] := by
  unfold X12_gathering_134
  refine sn_iadd (pc' := 135) dX12_gathering_134 rfl ?_
  refine sn_istore (v := (y1 + y0)) (L' := [some (va_rf (some this)), some (.int x1), some (.int x2), none, some (.int (y1 + y0)), some (.int x5)]) (pc' := 137) dX12_gathering_135 rfl rfl rfl ?_
  refine sn_iinc (v := x5) (w := 1) (L' := [some (va_rf (some this)), some (.int x1), some (.int x2), none, some (.int (y1 + y0)), some (.int (x5 + (1 : Int32)))]) (pc' := 140) dX12_gathering_137 rfl rfl rfl (by decide) rfl ?_
  refine sn_goto (pc' := 99) dX12_gathering_140 rfl ?_
  exact sn_weak (le_s (le_s (le_s (le_n (le_s (le_s le_e)))))) (hk99 this x1 x2 (y1 + y0) (x5 + (1 : Int32)))
set_option maxRecDepth 100000 in
set_option maxHeartbeats 4000000 in
theorem s_X12_gathering_143 (G : GG)   (this : Nat) (x4 : Int32) : Sn G yX12_gathering cX12_gathering 6 (some FieldType.int) 2 43 (fun v : Int32 => some (.int v)) (X12_gathering_143  this x4) 143 [some (va_rf (some this)), none, none, none, some (.int x4), none] [] := by
  unfold X12_gathering_143
  refine sn_aload_n (v := (some this)) (pc' := 144) dX12_gathering_143 rfl rfl rfl ?_
  refine sn_iload (v := x4) (pc' := 146) dX12_gathering_144 rfl rfl ?_
  refine sn_cV (r := (some this)) (st := []) (As := [.int x4]) (st2 := (fun v => .int v :: [])) (pc' := 149) ci_13 (fun t => c_X12_fine G t x4) cw_X12_fine rfl rfl tw1435 pw45 tw1437 rfl rfl cat_nil rfl (fun _ => rfl) dX12_gathering_146 rfl (fun v1 => ?_)
  exact sn_iret dX12_gathering_149 rfl rfl
set_option maxRecDepth 100000 in
set_option maxHeartbeats 4000000 in
theorem s_X12_gathering_99_st (G : GG)   (k99 : Nat → Int32 → Int32 → Int32 → Int32 → MM Int32) (hk99 : ∀ (this : Nat) (x1 : Int32) (x2 : Int32) (x4 : Int32) (x5 : Int32), Sn G yX12_gathering cX12_gathering 6 (some FieldType.int) 2 43 (fun v : Int32 => some (.int v)) (k99 this x1 x2 x4 x5) 99 [some (va_rf (some this)), some (.int x1), some (.int x2), none, some (.int x4), some (.int x5)] []) (this : Nat) (x1 : Int32) (x2 : Int32) (x4 : Int32) (x5 : Int32) : Sn G yX12_gathering cX12_gathering 6 (some FieldType.int) 2 43 (fun v : Int32 => some (.int v)) (X12_gathering_99_st  k99 this x1 x2 x4 x5) 99 [some (va_rf (some this)), some (.int x1), some (.int x2), none, some (.int x4), some (.int x5)] [] := by
  unfold X12_gathering_99_st
  refine sn_iload (v := x5) (pc' := 101) dX12_gathering_99 rfl rfl ?_
  refine sn_aload_n (v := (some this)) (pc' := 102) dX12_gathering_101 rfl rfl rfl ?_
  refine sn_gR (k := 11) (pc' := 105) ci_13 rfl (Or.inl tw1289) dX12_gathering_102 rfl (fun v1 => ?_)
  refine sn_iload_n (v := x1) (pc' := 106) dX12_gathering_105 rfl rfl rfl ?_
  refine sn_aI (pc' := 107) dX12_gathering_106 rfl (fun v2 => ?_)
  refine sn_ic_ge (pt := 143) (pf := 110) dX12_gathering_107 rfl rfl ?_ ?_
  · exact sn_weak (le_s (le_n (le_n (le_n (le_s (le_n le_e)))))) (s_X12_gathering_143 G this x4)
  · refine sn_iload (v := x4) (pc' := 112) dX12_gathering_110 rfl rfl ?_
    refine sn_aload_n (v := (some this)) (pc' := 113) dX12_gathering_112 rfl rfl rfl ?_
    refine sn_gR (k := 12) (pc' := 116) ci_13 rfl (Or.inl tw1290) dX12_gathering_113 rfl (fun v3 => ?_)
    refine sn_iload_n (v := x1) (pc' := 117) dX12_gathering_116 rfl rfl rfl ?_
    refine sn_sipush (v := (400 : Int32)) (pc' := 120) dX12_gathering_117 rfl (by decide) ?_
    refine sn_imul (pc' := 121) dX12_gathering_120 rfl ?_
    refine sn_iload (v := x5) (pc' := 123) dX12_gathering_121 rfl rfl ?_
    refine sn_iadd (pc' := 124) dX12_gathering_123 rfl ?_
    refine sn_aI (pc' := 125) dX12_gathering_124 rfl (fun v4 => ?_)
    refine sn_iload_n (v := x2) (pc' := 126) dX12_gathering_125 rfl rfl rfl ?_
    refine sn_ic_ne (pt := 133) (pf := 129) dX12_gathering_126 rfl rfl ?_ ?_
    · refine sn_iconst (v := (1 : Int32)) (pc' := 130) dX12_gathering_129 rfl (by decide) ?_
      refine sn_goto (pc' := 134) dX12_gathering_130 rfl ?_
      exact sn_weak (le_s (le_s (le_s (le_n (le_n (le_s le_e)))))) (s_X12_gathering_134 G k99 hk99 this x1 x2 x5 (1 : Int32) x4)
    · refine sn_iconst (v := (0 : Int32)) (pc' := 134) dX12_gathering_133 rfl (by decide) ?_
      exact sn_weak (le_s (le_s (le_s (le_n (le_n (le_s le_e)))))) (s_X12_gathering_134 G k99 hk99 this x1 x2 x5 (0 : Int32) x4)
set_option maxRecDepth 100000 in
set_option maxHeartbeats 4000000 in
theorem s_X12_gathering_99 (G : GG)   : ∀ (n : Nat) (this : Nat) (x1 : Int32) (x2 : Int32) (x4 : Int32) (x5 : Int32), Sn G yX12_gathering cX12_gathering 6 (some FieldType.int) 2 43 (fun v : Int32 => some (.int v)) (X12_gathering_99  n this x1 x2 x4 x5) 99 [some (va_rf (some this)), some (.int x1), some (.int x2), none, some (.int x4), some (.int x5)] [] := by
  intro n
  induction n with
  | zero => intro this x1 x2 x4 x5; exact sn_mf
  | succ n ih => intro this x1 x2 x4 x5; exact s_X12_gathering_99_st G   (X12_gathering_99  n) ih this x1 x2 x4 x5
set_option maxRecDepth 100000 in
set_option maxHeartbeats 4000000 in
theorem s_X12_gathering_192 (G : GG) (k153 : Nat → Int32 → Int32 → Int32 → Int32 → MM Int32) (hk153 : ∀ (this : Nat) (x1 : Int32) (x2 : Int32) (x4 : Int32) (x5 : Int32), Sn G yX12_gathering cX12_gathering 6 (some FieldType.int) 2 43 (fun v : Int32 => some (.int v)) (k153 this x1 x2 x4 x5) 153 [some (va_rf (some this)), some (.int x1), some (.int x2), none, some (.int x4), some (.int x5)] []) (this : Nat) (x1 : Int32) (x2 : Int32) (x5 : Int32) (y0 : Int32) (y1 : Int32) : Sn G yX12_gathering cX12_gathering 6 (some FieldType.int) 2 43 (fun v : Int32 => some (.int v)) (X12_gathering_192 k153 this x1 x2 x5 y0 y1) 192 [some (va_rf (some this)), some (.int x1), some (.int x2), none, none, some (.int x5)] [.int y0, .int y1] := by
  unfold X12_gathering_192
  refine sn_iadd (pc' := 193) dX12_gathering_192 rfl ?_
  refine sn_istore (v := (y1 + y0)) (L' := [some (va_rf (some this)), some (.int x1), some (.int x2), none, some (.int (y1 + y0)), some (.int x5)]) (pc' := 195) dX12_gathering_193 rfl rfl rfl ?_
  refine sn_iinc (v := x5) (w := 1) (L' := [some (va_rf (some this)), some (.int x1), some (.int x2), none, some (.int (y1 + y0)), some (.int (x5 + (1 : Int32)))]) (pc' := 198) dX12_gathering_195 rfl rfl rfl (by decide) rfl ?_
  refine sn_goto (pc' := 153) dX12_gathering_198 rfl ?_
  exact sn_weak (le_s (le_s (le_s (le_n (le_s (le_s le_e)))))) (hk153 this x1 x2 (y1 + y0) (x5 + (1 : Int32)))
set_option maxRecDepth 100000 in
set_option maxHeartbeats 4000000 in
theorem s_X12_gathering_201 (G : GG)   (this : Nat) (x4 : Int32) : Sn G yX12_gathering cX12_gathering 6 (some FieldType.int) 2 43 (fun v : Int32 => some (.int v)) (X12_gathering_201  this x4) 201 [some (va_rf (some this)), none, none, none, some (.int x4), none] [] := by
  unfold X12_gathering_201
  refine sn_aload_n (v := (some this)) (pc' := 202) dX12_gathering_201 rfl rfl rfl ?_
  refine sn_iload (v := x4) (pc' := 204) dX12_gathering_202 rfl rfl ?_
  refine sn_cV (r := (some this)) (st := []) (As := [.int x4]) (st2 := (fun v => .int v :: [])) (pc' := 207) ci_13 (fun t => c_X12_fine G t x4) cw_X12_fine rfl rfl tw1435 pw45 tw1437 rfl rfl cat_nil rfl (fun _ => rfl) dX12_gathering_204 rfl (fun v1 => ?_)
  exact sn_iret dX12_gathering_207 rfl rfl
set_option maxRecDepth 100000 in
set_option maxHeartbeats 4000000 in
theorem s_X12_gathering_153_st (G : GG)   (k153 : Nat → Int32 → Int32 → Int32 → Int32 → MM Int32) (hk153 : ∀ (this : Nat) (x1 : Int32) (x2 : Int32) (x4 : Int32) (x5 : Int32), Sn G yX12_gathering cX12_gathering 6 (some FieldType.int) 2 43 (fun v : Int32 => some (.int v)) (k153 this x1 x2 x4 x5) 153 [some (va_rf (some this)), some (.int x1), some (.int x2), none, some (.int x4), some (.int x5)] []) (this : Nat) (x1 : Int32) (x2 : Int32) (x4 : Int32) (x5 : Int32) : Sn G yX12_gathering cX12_gathering 6 (some FieldType.int) 2 43 (fun v : Int32 => some (.int v)) (X12_gathering_153_st  k153 this x1 x2 x4 x5) 153 [some (va_rf (some this)), some (.int x1), some (.int x2), none, some (.int x4), some (.int x5)] [] := by
  unfold X12_gathering_153_st
  refine sn_iload (v := x5) (pc' := 155) dX12_gathering_153 rfl rfl ?_
  refine sn_aload_n (v := (some this)) (pc' := 156) dX12_gathering_155 rfl rfl rfl ?_
  refine sn_gR (k := 8) (pc' := 159) ci_13 rfl (Or.inl tw1286) dX12_gathering_156 rfl (fun v1 => ?_)
  refine sn_iload_n (v := x1) (pc' := 160) dX12_gathering_159 rfl rfl rfl ?_
  refine sn_bipush (v := (71 : Int32)) (pc' := 162) dX12_gathering_160 rfl (by decide) ?_
  refine sn_imul (pc' := 163) dX12_gathering_162 rfl ?_
  refine sn_iload_n (v := x2) (pc' := 164) dX12_gathering_163 rfl rfl rfl ?_
  refine sn_iadd (pc' := 165) dX12_gathering_164 rfl ?_
  refine sn_aI (pc' := 166) dX12_gathering_165 rfl (fun v2 => ?_)
  refine sn_ic_gt (pt := 201) (pf := 169) dX12_gathering_166 rfl rfl ?_ ?_
  · exact sn_weak (le_s (le_n (le_n (le_n (le_s (le_n le_e)))))) (s_X12_gathering_201 G this x4)
  · refine sn_iload (v := x4) (pc' := 171) dX12_gathering_169 rfl rfl ?_
    refine sn_aload_n (v := (some this)) (pc' := 172) dX12_gathering_171 rfl rfl rfl ?_
    refine sn_gR (k := 9) (pc' := 175) ci_13 rfl (Or.inl tw1287) dX12_gathering_172 rfl (fun v3 => ?_)
    refine sn_iload_n (v := x1) (pc' := 176) dX12_gathering_175 rfl rfl rfl ?_
    refine sn_iload_n (v := x2) (pc' := 177) dX12_gathering_176 rfl rfl rfl ?_
    refine sn_iload (v := x5) (pc' := 179) dX12_gathering_177 rfl rfl ?_
    refine sn_cS (st := [va_rf v3, .int x4]) (As := [.int x1, .int x2, .int x5]) (st2 := (fun v => .int v :: [va_rf v3, .int x4])) (pc' := 182) (c_X12_spot G x1 x2 x5) cw_X12_spot rfl rfl tw1527 tw1528 rfl rfl (cat_q (cat_i cat_nil)) rfl (fun _ => rfl) dX12_gathering_179 rfl (fun v4 => ?_)
    refine sn_aI (pc' := 183) dX12_gathering_182 rfl (fun v5 => ?_)
    refine sn_iconst (v := (1 : Int32)) (pc' := 184) dX12_gathering_183 rfl (by decide) ?_
    refine sn_ic_ne (pt := 191) (pf := 187) dX12_gathering_184 rfl rfl ?_ ?_
    · refine sn_iconst (v := (1 : Int32)) (pc' := 188) dX12_gathering_187 rfl (by decide) ?_
      refine sn_goto (pc' := 192) dX12_gathering_188 rfl ?_
      exact sn_weak (le_s (le_s (le_s (le_n (le_n (le_s le_e)))))) (s_X12_gathering_192 G k153 hk153 this x1 x2 x5 (1 : Int32) x4)
    · refine sn_iconst (v := (0 : Int32)) (pc' := 192) dX12_gathering_191 rfl (by decide) ?_
      exact sn_weak (le_s (le_s (le_s (le_n (le_n (le_s le_e)))))) (s_X12_gathering_192 G k153 hk153 this x1 x2 x5 (0 : Int32) x4)
set_option maxRecDepth 100000 in
set_option maxHeartbeats 4000000 in
theorem s_X12_gathering_153 (G : GG)   : ∀ (n : Nat) (this : Nat) (x1 : Int32) (x2 : Int32) (x4 : Int32) (x5 : Int32), Sn G yX12_gathering cX12_gathering 6 (some FieldType.int) 2 43 (fun v : Int32 => some (.int v)) (X12_gathering_153  n this x1 x2 x4 x5) 153 [some (va_rf (some this)), some (.int x1), some (.int x2), none, some (.int x4), some (.int x5)] [] := by
  intro n
  induction n with
  | zero => intro this x1 x2 x4 x5; exact sn_mf
  | succ n ih => intro this x1 x2 x4 x5; exact s_X12_gathering_153_st G   (X12_gathering_153  n) ih this x1 x2 x4 x5
set_option maxRecDepth 100000 in
set_option maxHeartbeats 4000000 in
theorem s_X12_gathering (G : GG) (this : Nat) (a1 : Int32) (a2 : Int32) (a3 : Int32) : Sn G yX12_gathering cX12_gathering 6 (some FieldType.int) 2 43 (fun v : Int32 => some (.int v)) (X12_gathering this a1 a2 a3) 0 [some (va_rf (some this)), some (.int a1), some (.int a2), some (.int a3), none, none] [] := by
  unfold X12_gathering
  refine sn_aload_n (v := (some this)) (pc' := 1) dX12_gathering_0 rfl rfl rfl ?_
  refine sn_iload_n (v := a1) (pc' := 2) dX12_gathering_1 rfl rfl rfl ?_
  refine sn_cV (r := (some this)) (st := []) (As := [.int a1]) (st2 := (fun v => .int v :: [])) (pc' := 5) ci_13 (fun t => c_X12_isBook G t a1) cw_X12_isBook rfl rfl tw1554 pw68 tw1556 rfl rfl cat_nil rfl (fun _ => rfl) dX12_gathering_2 rfl (fun v1 => ?_)
  refine sn_if_eq (pt := 24) (pf := 8) dX12_gathering_5 rfl rfl ?_ ?_
  · exact sn_weak (le_s (le_n (le_n (le_n (le_n (le_n le_e)))))) (s_X12_gathering_24 G this)
  · refine sn_iload_n (v := a2) (pc' := 9) dX12_gathering_8 rfl rfl rfl ?_
    refine sn_iconst (v := (0 : Int32)) (pc' := 10) dX12_gathering_9 rfl (by decide) ?_
    refine sn_aload_n (v := (some this)) (pc' := 11) dX12_gathering_10 rfl rfl rfl ?_
    refine sn_gR (k := 6) (pc' := 14) ci_13 rfl (Or.inl tw1284) dX12_gathering_11 rfl (fun v2 => ?_)
    refine sn_iload_n (v := a1) (pc' := 15) dX12_gathering_14 rfl rfl rfl ?_
    refine sn_aI (pc' := 16) dX12_gathering_15 rfl (fun v3 => ?_)
    refine sn_iconst (v := (1 : Int32)) (pc' := 17) dX12_gathering_16 rfl (by decide) ?_
    refine sn_isub (pc' := 18) dX12_gathering_17 rfl ?_
    refine sn_cS (st := []) (As := [.int a2, .int (0 : Int32), .int (v3 - (1 : Int32))]) (st2 := (fun v => .int v :: [])) (pc' := 21) (c_X12_isIn G a2 (0 : Int32) (v3 - (1 : Int32))) cw_X12_isIn rfl rfl tw1443 tw1444 rfl rfl cat_nil rfl (fun _ => rfl) dX12_gathering_18 rfl (fun v4 => ?_)
    refine sn_if_ne (pt := 30) (pf := 24) dX12_gathering_21 rfl rfl ?_ ?_
    · exact sn_weak (le_s (le_n (le_n (le_n (le_n (le_n le_e)))))) (s_X12_gathering_24 G this)
    · refine sn_iconst (v := (0 : Int32)) (pc' := 31) dX12_gathering_30 rfl (by decide) ?_
      refine sn_istore (v := (0 : Int32)) (L' := [some (va_rf (some this)), some (.int a1), some (.int a2), some (.int a3), some (.int (0 : Int32)), none]) (pc' := 33) dX12_gathering_31 rfl rfl rfl ?_
      refine sn_iload_n (v := a3) (pc' := 34) dX12_gathering_33 rfl rfl rfl ?_
      refine sn_or (d := a3 = (0 : Int32)) (fun hc => ?_) (fun hc0 => ?_)
      · refine sn_tsI (pt := 64) (off := 30) dX12_gathering_34 (by rw [hc]; decide) (by rw [hc]; decide) (by rw [hc]; rfl) rfl ?_
        refine sn_aload_n (v := (some this)) (pc' := 65) dX12_gathering_64 rfl rfl rfl ?_
        refine sn_aload_n (v := (some this)) (pc' := 66) dX12_gathering_65 rfl rfl rfl ?_
        refine sn_gR (k := 7) (pc' := 69) ci_13 rfl (Or.inl tw1285) dX12_gathering_66 rfl (fun v5 => ?_)
        refine sn_iload_n (v := a1) (pc' := 70) dX12_gathering_69 rfl rfl rfl ?_
        refine sn_bipush (v := (71 : Int32)) (pc' := 72) dX12_gathering_70 rfl (by decide) ?_
        refine sn_imul (pc' := 73) dX12_gathering_72 rfl ?_
        refine sn_iload_n (v := a2) (pc' := 74) dX12_gathering_73 rfl rfl rfl ?_
        refine sn_iadd (pc' := 75) dX12_gathering_74 rfl ?_
        refine sn_aI (pc' := 76) dX12_gathering_75 rfl (fun v6 => ?_)
        refine sn_cV (r := (some this)) (st := []) (As := [.int v6]) (st2 := (fun v => .int v :: [])) (pc' := 79) ci_13 (fun t => c_X12_fine G t v6) cw_X12_fine rfl rfl tw1435 pw45 tw1437 rfl rfl cat_nil rfl (fun _ => rfl) dX12_gathering_76 rfl (fun v7 => ?_)
        exact sn_iret dX12_gathering_79 rfl rfl
      refine sn_or (d := a3 = (1 : Int32)) (fun hc => ?_) (fun hc1 => ?_)
      · refine sn_tsI (pt := 80) (off := 46) dX12_gathering_34 (by rw [hc]; decide) (by rw [hc]; decide) (by rw [hc]; rfl) rfl ?_
        refine sn_aload_n (v := (some this)) (pc' := 81) dX12_gathering_80 rfl rfl rfl ?_
        refine sn_aload_n (v := (some this)) (pc' := 82) dX12_gathering_81 rfl rfl rfl ?_
        refine sn_gR (k := 8) (pc' := 85) ci_13 rfl (Or.inl tw1286) dX12_gathering_82 rfl (fun v8 => ?_)
        refine sn_iload_n (v := a1) (pc' := 86) dX12_gathering_85 rfl rfl rfl ?_
        refine sn_bipush (v := (71 : Int32)) (pc' := 88) dX12_gathering_86 rfl (by decide) ?_
        refine sn_imul (pc' := 89) dX12_gathering_88 rfl ?_
        refine sn_iload_n (v := a2) (pc' := 90) dX12_gathering_89 rfl rfl rfl ?_
        refine sn_iadd (pc' := 91) dX12_gathering_90 rfl ?_
        refine sn_aI (pc' := 92) dX12_gathering_91 rfl (fun v9 => ?_)
        refine sn_cV (r := (some this)) (st := []) (As := [.int v9]) (st2 := (fun v => .int v :: [])) (pc' := 95) ci_13 (fun t => c_X12_fine G t v9) cw_X12_fine rfl rfl tw1435 pw45 tw1437 rfl rfl cat_nil rfl (fun _ => rfl) dX12_gathering_92 rfl (fun v10 => ?_)
        exact sn_iret dX12_gathering_95 rfl rfl
      refine sn_or (d := a3 = (2 : Int32)) (fun hc => ?_) (fun hc2 => ?_)
      · refine sn_tsI (pt := 96) (off := 62) dX12_gathering_34 (by rw [hc]; decide) (by rw [hc]; decide) (by rw [hc]; rfl) rfl ?_
        refine sn_iconst (v := (0 : Int32)) (pc' := 97) dX12_gathering_96 rfl (by decide) ?_
        refine sn_istore (v := (0 : Int32)) (L' := [some (va_rf (some this)), some (.int a1), some (.int a2), some (.int a3), some (.int (0 : Int32)), some (.int (0 : Int32))]) (pc' := 99) dX12_gathering_97 rfl rfl rfl ?_
        exact sn_weak (le_s (le_s (le_s (le_n (le_s (le_s le_e)))))) (s_X12_gathering_99 G LFU this a1 a2 (0 : Int32) (0 : Int32))
      refine sn_or (d := a3 = (3 : Int32)) (fun hc => ?_) (fun hc3 => ?_)
      · refine sn_tsI (pt := 150) (off := 116) dX12_gathering_34 (by rw [hc]; decide) (by rw [hc]; decide) (by rw [hc]; rfl) rfl ?_
        refine sn_iconst (v := (1 : Int32)) (pc' := 151) dX12_gathering_150 rfl (by decide) ?_
        refine sn_istore (v := (1 : Int32)) (L' := [some (va_rf (some this)), some (.int a1), some (.int a2), some (.int a3), some (.int (0 : Int32)), some (.int (1 : Int32))]) (pc' := 153) dX12_gathering_151 rfl rfl rfl ?_
        exact sn_weak (le_s (le_s (le_s (le_n (le_s (le_s le_e)))))) (s_X12_gathering_153 G LFU this a1 a2 (0 : Int32) (1 : Int32))
      refine sn_tsO (pt := 208) dX12_gathering_34 (by
        have h9 := ts_out 0 4 (by decide) (fun j h1 h2 => by
          rcases (show j = 0 ∨ j = 1 ∨ j = 2 ∨ j = 3 by omega) with e | e | e | e
          · subst e; exact hc0
          · subst e; exact hc1
          · subst e; exact hc2
          · subst e; exact hc3
          )
        omega) rfl ?_
      refine sn_aload_n (v := (some this)) (pc' := 209) dX12_gathering_208 rfl rfl rfl ?_
      refine sn_iconst (v := (3 : Int32)) (pc' := 210) dX12_gathering_209 rfl (by decide) ?_
      refine sn_cV (r := (some this)) (st := []) (As := [.int (3 : Int32)]) (st2 := (fun v => .int v :: [])) (pc' := 213) ci_13 (fun t => c_X12_no G t (3 : Int32)) cw_X12_no rfl rfl tw1431 pw44 tw1433 rfl rfl cat_nil rfl (fun _ => rfl) dX12_gathering_210 rfl (fun v11 => ?_)
      exact sn_iret dX12_gathering_213 rfl rfl
theorem c_X12_gathering (G : GG) (this : Nat) (a1 : Int32) (a2 : Int32) (a3 : Int32) : Cal G yX12_gathering cX12_gathering 6 (some FieldType.int) 2 43 (fun v : Int32 => some (.int v)) (X12_gathering this a1 a2 a3) [.ref this, .int a1, .int a2, .int a3] :=
  Cal.of (by decide) (cat_t (cat_i (cat_i (cat_i cat_nil)))) rfl (sn_weak (le_s (le_s (le_s (le_s (le_z (le_z le_e)))))) (s_X12_gathering G this a1 a2 a3))
theorem cw_X12_gathering : CW yX12_gathering cX12_gathering 6 (some FieldType.int) 3 := ⟨tw1601, tw15, by decide, by decide +kernel⟩
/-! X12_leaves -/
theorem dX12_leaves_0 : decode cX12_leaves 0 = .ok (.aload_n 0, 1) := by decide +kernel
theorem dX12_leaves_1 : decode cX12_leaves 1 = .ok (.iload_n 1, 1) := by decide +kernel
theorem dX12_leaves_2 : decode cX12_leaves 2 = .ok (.invokevirtual 333, 3) := by decide +kernel
theorem dX12_leaves_5 : decode cX12_leaves 5 = .ok (.ifCond .eq 16, 3) := by decide +kernel
theorem dX12_leaves_8 : decode cX12_leaves 8 = .ok (.aload_n 0, 1) := by decide +kernel
theorem dX12_leaves_9 : decode cX12_leaves 9 = .ok (.aload_n 0, 1) := by decide +kernel
theorem dX12_leaves_10 : decode cX12_leaves 10 = .ok (.getfield 46, 3) := by decide +kernel
theorem dX12_leaves_13 : decode cX12_leaves 13 = .ok (.iload_n 1, 1) := by decide +kernel
theorem dX12_leaves_14 : decode cX12_leaves 14 = .ok (.iaload, 1) := by decide +kernel
theorem dX12_leaves_15 : decode cX12_leaves 15 = .ok (.invokevirtual 199, 3) := by decide +kernel
theorem dX12_leaves_18 : decode cX12_leaves 18 = .ok (.goto 8, 3) := by decide +kernel
theorem dX12_leaves_21 : decode cX12_leaves 21 = .ok (.aload_n 0, 1) := by decide +kernel
theorem dX12_leaves_22 : decode cX12_leaves 22 = .ok (.iconst 1, 1) := by decide +kernel
theorem dX12_leaves_23 : decode cX12_leaves 23 = .ok (.invokevirtual 193, 3) := by decide +kernel
theorem dX12_leaves_26 : decode cX12_leaves 26 = .ok (.ireturn, 1) := by decide +kernel
def X12_leaves (this : Nat) (a1 : Int32) : MM Int32 :=
  mb (wc 13 (some this) fun t => X12_isBook t a1) fun v1 =>
  if v1 = 0 then (mb (wc 13 (some this) fun t => X12_no t (1 : Int32)) fun v2 =>
  mr v2) else (mb (gR 13 (some this) 11) fun v3 =>
  mb (aI v3 a1) fun v4 =>
  mb (wc 13 (some this) fun t => X12_fine t v4) fun v5 =>
  mr v5)
set_option maxRecDepth 100000 in
set_option maxHeartbeats 4000000 in
theorem s_X12_leaves (G : GG) (this : Nat) (a1 : Int32) : Sn G yX12_leaves cX12_leaves 2 (some FieldType.int) 2 43 (fun v : Int32 => some (.int v)) (X12_leaves this a1) 0 [some (va_rf (some this)), some (.int a1)] [] := by
  unfold X12_leaves
  refine sn_aload_n (v := (some this)) (pc' := 1) dX12_leaves_0 rfl rfl rfl ?_
  refine sn_iload_n (v := a1) (pc' := 2) dX12_leaves_1 rfl rfl rfl ?_
  refine sn_cV (r := (some this)) (st := []) (As := [.int a1]) (st2 := (fun v => .int v :: [])) (pc' := 5) ci_13 (fun t => c_X12_isBook G t a1) cw_X12_isBook rfl rfl tw1554 pw68 tw1556 rfl rfl cat_nil rfl (fun _ => rfl) dX12_leaves_2 rfl (fun v1 => ?_)
  refine sn_if_eq (pt := 21) (pf := 8) dX12_leaves_5 rfl rfl ?_ ?_
  · refine sn_aload_n (v := (some this)) (pc' := 22) dX12_leaves_21 rfl rfl rfl ?_
    refine sn_iconst (v := (1 : Int32)) (pc' := 23) dX12_leaves_22 rfl (by decide) ?_
    refine sn_cV (r := (some this)) (st := []) (As := [.int (1 : Int32)]) (st2 := (fun v => .int v :: [])) (pc' := 26) ci_13 (fun t => c_X12_no G t (1 : Int32)) cw_X12_no rfl rfl tw1431 pw44 tw1433 rfl rfl cat_nil rfl (fun _ => rfl) dX12_leaves_23 rfl (fun v2 => ?_)
    exact sn_iret dX12_leaves_26 rfl rfl
  · refine sn_aload_n (v := (some this)) (pc' := 9) dX12_leaves_8 rfl rfl rfl ?_
    refine sn_aload_n (v := (some this)) (pc' := 10) dX12_leaves_9 rfl rfl rfl ?_
    refine sn_gR (k := 11) (pc' := 13) ci_13 rfl (Or.inl tw1289) dX12_leaves_10 rfl (fun v3 => ?_)
    refine sn_iload_n (v := a1) (pc' := 14) dX12_leaves_13 rfl rfl rfl ?_
    refine sn_aI (pc' := 15) dX12_leaves_14 rfl (fun v4 => ?_)
    refine sn_cV (r := (some this)) (st := []) (As := [.int v4]) (st2 := (fun v => .int v :: [])) (pc' := 18) ci_13 (fun t => c_X12_fine G t v4) cw_X12_fine rfl rfl tw1435 pw45 tw1437 rfl rfl cat_nil rfl (fun _ => rfl) dX12_leaves_15 rfl (fun v5 => ?_)
    refine sn_goto (pc' := 26) dX12_leaves_18 rfl ?_
    exact sn_iret dX12_leaves_26 rfl rfl
theorem c_X12_leaves (G : GG) (this : Nat) (a1 : Int32) : Cal G yX12_leaves cX12_leaves 2 (some FieldType.int) 2 43 (fun v : Int32 => some (.int v)) (X12_leaves this a1) [.ref this, .int a1] :=
  Cal.of (by decide) (cat_t (cat_i cat_nil)) rfl (sn_weak (le_s (le_s le_e)) (s_X12_leaves G this a1))
theorem cw_X12_leaves : CW yX12_leaves cX12_leaves 2 (some FieldType.int) 1 := ⟨tw1605, tw15, by decide, by decide +kernel⟩
/-! X12_isLeaf -/
theorem dX12_isLeaf_0 : decode cX12_isLeaf 0 = .ok (.aload_n 0, 1) := by decide +kernel
theorem dX12_isLeaf_1 : decode cX12_isLeaf 1 = .ok (.iload_n 1, 1) := by decide +kernel
theorem dX12_isLeaf_2 : decode cX12_isLeaf 2 = .ok (.invokevirtual 333, 3) := by decide +kernel
theorem dX12_isLeaf_5 : decode cX12_isLeaf 5 = .ok (.ifCond .eq 23, 3) := by decide +kernel
theorem dX12_isLeaf_8 : decode cX12_isLeaf 8 = .ok (.iload_n 2, 1) := by decide +kernel
theorem dX12_isLeaf_9 : decode cX12_isLeaf 9 = .ok (.iconst 0, 1) := by decide +kernel
theorem dX12_isLeaf_10 : decode cX12_isLeaf 10 = .ok (.aload_n 0, 1) := by decide +kernel
theorem dX12_isLeaf_11 : decode cX12_isLeaf 11 = .ok (.getfield 46, 3) := by decide +kernel
theorem dX12_isLeaf_14 : decode cX12_isLeaf 14 = .ok (.iload_n 1, 1) := by decide +kernel
theorem dX12_isLeaf_15 : decode cX12_isLeaf 15 = .ok (.iaload, 1) := by decide +kernel
theorem dX12_isLeaf_16 : decode cX12_isLeaf 16 = .ok (.iconst 1, 1) := by decide +kernel
theorem dX12_isLeaf_17 : decode cX12_isLeaf 17 = .ok (.isub, 1) := by decide +kernel
theorem dX12_isLeaf_18 : decode cX12_isLeaf 18 = .ok (.invokestatic 10, 3) := by decide +kernel
theorem dX12_isLeaf_21 : decode cX12_isLeaf 21 = .ok (.ifCond .eq 7, 3) := by decide +kernel
theorem dX12_isLeaf_24 : decode cX12_isLeaf 24 = .ok (.iconst 1, 1) := by decide +kernel
theorem dX12_isLeaf_25 : decode cX12_isLeaf 25 = .ok (.goto 4, 3) := by decide +kernel
theorem dX12_isLeaf_28 : decode cX12_isLeaf 28 = .ok (.iconst 0, 1) := by decide +kernel
theorem dX12_isLeaf_29 : decode cX12_isLeaf 29 = .ok (.ireturn, 1) := by decide +kernel
def X12_isLeaf (this : Nat) (a1 : Int32) (a2 : Int32) : MM Int32 :=
  mb (wc 13 (some this) fun t => X12_isBook t a1) fun v1 =>
  if v1 = 0 then (mr (0 : Int32)) else (mb (gR 13 (some this) 11) fun v2 =>
  mb (aI v2 a1) fun v3 =>
  mb (X12_isIn a2 (0 : Int32) (v3 - (1 : Int32))) fun v4 =>
  if v4 = 0 then (mr (0 : Int32)) else (mr (1 : Int32)))
set_option maxRecDepth 100000 in
set_option maxHeartbeats 4000000 in
theorem s_X12_isLeaf (G : GG) (this : Nat) (a1 : Int32) (a2 : Int32) : Sn G yX12_isLeaf cX12_isLeaf 3 (some FieldType.boolean) 2 43 (fun v : Int32 => some (.int v)) (X12_isLeaf this a1 a2) 0 [some (va_rf (some this)), some (.int a1), some (.int a2)] [] := by
  unfold X12_isLeaf
  refine sn_aload_n (v := (some this)) (pc' := 1) dX12_isLeaf_0 rfl rfl rfl ?_
  refine sn_iload_n (v := a1) (pc' := 2) dX12_isLeaf_1 rfl rfl rfl ?_
  refine sn_cV (r := (some this)) (st := []) (As := [.int a1]) (st2 := (fun v => .int v :: [])) (pc' := 5) ci_13 (fun t => c_X12_isBook G t a1) cw_X12_isBook rfl rfl tw1554 pw68 tw1556 rfl rfl cat_nil rfl (fun _ => rfl) dX12_isLeaf_2 rfl (fun v1 => ?_)
  refine sn_if_eq (pt := 28) (pf := 8) dX12_isLeaf_5 rfl rfl ?_ ?_
  · refine sn_iconst (v := (0 : Int32)) (pc' := 29) dX12_isLeaf_28 rfl (by decide) ?_
    exact sn_iret dX12_isLeaf_29 rfl (by decide)
  · refine sn_iload_n (v := a2) (pc' := 9) dX12_isLeaf_8 rfl rfl rfl ?_
    refine sn_iconst (v := (0 : Int32)) (pc' := 10) dX12_isLeaf_9 rfl (by decide) ?_
    refine sn_aload_n (v := (some this)) (pc' := 11) dX12_isLeaf_10 rfl rfl rfl ?_
    refine sn_gR (k := 11) (pc' := 14) ci_13 rfl (Or.inl tw1289) dX12_isLeaf_11 rfl (fun v2 => ?_)
    refine sn_iload_n (v := a1) (pc' := 15) dX12_isLeaf_14 rfl rfl rfl ?_
    refine sn_aI (pc' := 16) dX12_isLeaf_15 rfl (fun v3 => ?_)
    refine sn_iconst (v := (1 : Int32)) (pc' := 17) dX12_isLeaf_16 rfl (by decide) ?_
    refine sn_isub (pc' := 18) dX12_isLeaf_17 rfl ?_
    refine sn_cS (st := []) (As := [.int a2, .int (0 : Int32), .int (v3 - (1 : Int32))]) (st2 := (fun v => .int v :: [])) (pc' := 21) (c_X12_isIn G a2 (0 : Int32) (v3 - (1 : Int32))) cw_X12_isIn rfl rfl tw1443 tw1444 rfl rfl cat_nil rfl (fun _ => rfl) dX12_isLeaf_18 rfl (fun v4 => ?_)
    refine sn_if_eq (pt := 28) (pf := 24) dX12_isLeaf_21 rfl rfl ?_ ?_
    · refine sn_iconst (v := (0 : Int32)) (pc' := 29) dX12_isLeaf_28 rfl (by decide) ?_
      exact sn_iret dX12_isLeaf_29 rfl (by decide)
    · refine sn_iconst (v := (1 : Int32)) (pc' := 25) dX12_isLeaf_24 rfl (by decide) ?_
      refine sn_goto (pc' := 29) dX12_isLeaf_25 rfl ?_
      exact sn_iret dX12_isLeaf_29 rfl (by decide)
theorem c_X12_isLeaf (G : GG) (this : Nat) (a1 : Int32) (a2 : Int32) : Cal G yX12_isLeaf cX12_isLeaf 3 (some FieldType.boolean) 2 43 (fun v : Int32 => some (.int v)) (X12_isLeaf this a1 a2) [.ref this, .int a1, .int a2] :=
  Cal.of (by decide) (cat_t (cat_i (cat_i cat_nil))) rfl (sn_weak (le_s (le_s (le_s le_e))) (s_X12_isLeaf G this a1 a2))
theorem cw_X12_isLeaf : CW yX12_isLeaf cX12_isLeaf 3 (some FieldType.boolean) 2 := ⟨tw1613, tw15, by decide, by decide +kernel⟩
/-! X12_leaf -/
theorem dX12_leaf_0 : decode cX12_leaf 0 = .ok (.aload_n 0, 1) := by decide +kernel
theorem dX12_leaf_1 : decode cX12_leaf 1 = .ok (.iload_n 1, 1) := by decide +kernel
theorem dX12_leaf_2 : decode cX12_leaf 2 = .ok (.iload_n 2, 1) := by decide +kernel
theorem dX12_leaf_3 : decode cX12_leaf 3 = .ok (.invokevirtual 354, 3) := by decide +kernel
theorem dX12_leaf_6 : decode cX12_leaf 6 = .ok (.ifCond .ne 9, 3) := by decide +kernel
theorem dX12_leaf_9 : decode cX12_leaf 9 = .ok (.aload_n 0, 1) := by decide +kernel
theorem dX12_leaf_10 : decode cX12_leaf 10 = .ok (.iconst 1, 1) := by decide +kernel
theorem dX12_leaf_11 : decode cX12_leaf 11 = .ok (.invokevirtual 193, 3) := by decide +kernel
theorem dX12_leaf_14 : decode cX12_leaf 14 = .ok (.ireturn, 1) := by decide +kernel
theorem dX12_leaf_15 : decode cX12_leaf 15 = .ok (.iload_n 1, 1) := by decide +kernel
theorem dX12_leaf_16 : decode cX12_leaf 16 = .ok (.sipush 400, 3) := by decide +kernel
theorem dX12_leaf_19 : decode cX12_leaf 19 = .ok (.imul, 1) := by decide +kernel
theorem dX12_leaf_20 : decode cX12_leaf 20 = .ok (.iload_n 2, 1) := by decide +kernel
theorem dX12_leaf_21 : decode cX12_leaf 21 = .ok (.iadd, 1) := by decide +kernel
theorem dX12_leaf_22 : decode cX12_leaf 22 = .ok (.istore 4, 2) := by decide +kernel
theorem dX12_leaf_24 : decode cX12_leaf 24 = .ok (.iload_n 3, 1) := by decide +kernel
theorem dX12_leaf_25 : decode cX12_leaf 25 = .ok (.tableswitch 115 0 4 #[35, 47, 59, 92, 104], 35) := by decide +kernel
theorem dX12_leaf_60 : decode cX12_leaf 60 = .ok (.aload_n 0, 1) := by decide +kernel
theorem dX12_leaf_61 : decode cX12_leaf 61 = .ok (.aload_n 0, 1) := by decide +kernel
theorem dX12_leaf_62 : decode cX12_leaf 62 = .ok (.getfield 37, 3) := by decide +kernel
theorem dX12_leaf_65 : decode cX12_leaf 65 = .ok (.iload 4, 2) := by decide +kernel
theorem dX12_leaf_67 : decode cX12_leaf 67 = .ok (.iaload, 1) := by decide +kernel
theorem dX12_leaf_68 : decode cX12_leaf 68 = .ok (.invokevirtual 199, 3) := by decide +kernel
theorem dX12_leaf_71 : decode cX12_leaf 71 = .ok (.ireturn, 1) := by decide +kernel
theorem dX12_leaf_72 : decode cX12_leaf 72 = .ok (.aload_n 0, 1) := by decide +kernel
theorem dX12_leaf_73 : decode cX12_leaf 73 = .ok (.aload_n 0, 1) := by decide +kernel
theorem dX12_leaf_74 : decode cX12_leaf 74 = .ok (.getfield 40, 3) := by decide +kernel
theorem dX12_leaf_77 : decode cX12_leaf 77 = .ok (.iload 4, 2) := by decide +kernel
theorem dX12_leaf_79 : decode cX12_leaf 79 = .ok (.iaload, 1) := by decide +kernel
theorem dX12_leaf_80 : decode cX12_leaf 80 = .ok (.invokevirtual 199, 3) := by decide +kernel
theorem dX12_leaf_83 : decode cX12_leaf 83 = .ok (.ireturn, 1) := by decide +kernel
theorem dX12_leaf_84 : decode cX12_leaf 84 = .ok (.aload_n 0, 1) := by decide +kernel
theorem dX12_leaf_85 : decode cX12_leaf 85 = .ok (.aload_n 0, 1) := by decide +kernel
theorem dX12_leaf_86 : decode cX12_leaf 86 = .ok (.getfield 43, 3) := by decide +kernel
theorem dX12_leaf_89 : decode cX12_leaf 89 = .ok (.iload 4, 2) := by decide +kernel
theorem dX12_leaf_91 : decode cX12_leaf 91 = .ok (.iaload, 1) := by decide +kernel
theorem dX12_leaf_92 : decode cX12_leaf 92 = .ok (.ifCond .le 7, 3) := by decide +kernel
theorem dX12_leaf_95 : decode cX12_leaf 95 = .ok (.iconst 2, 1) := by decide +kernel
theorem dX12_leaf_96 : decode cX12_leaf 96 = .ok (.goto 17, 3) := by decide +kernel
theorem dX12_leaf_99 : decode cX12_leaf 99 = .ok (.aload_n 0, 1) := by decide +kernel
theorem dX12_leaf_100 : decode cX12_leaf 100 = .ok (.iload_n 1, 1) := by decide +kernel
theorem dX12_leaf_101 : decode cX12_leaf 101 = .ok (.iload_n 2, 1) := by decide +kernel
theorem dX12_leaf_102 : decode cX12_leaf 102 = .ok (.invokevirtual 49, 3) := by decide +kernel
theorem dX12_leaf_105 : decode cX12_leaf 105 = .ok (.ifCond .eq 7, 3) := by decide +kernel
theorem dX12_leaf_108 : decode cX12_leaf 108 = .ok (.iconst 0, 1) := by decide +kernel
theorem dX12_leaf_109 : decode cX12_leaf 109 = .ok (.goto 4, 3) := by decide +kernel
theorem dX12_leaf_112 : decode cX12_leaf 112 = .ok (.iconst 1, 1) := by decide +kernel
theorem dX12_leaf_113 : decode cX12_leaf 113 = .ok (.invokevirtual 199, 3) := by decide +kernel
theorem dX12_leaf_116 : decode cX12_leaf 116 = .ok (.ireturn, 1) := by decide +kernel
theorem dX12_leaf_117 : decode cX12_leaf 117 = .ok (.aload_n 0, 1) := by decide +kernel
theorem dX12_leaf_118 : decode cX12_leaf 118 = .ok (.aload_n 0, 1) := by decide +kernel
theorem dX12_leaf_119 : decode cX12_leaf 119 = .ok (.getfield 43, 3) := by decide +kernel
theorem dX12_leaf_122 : decode cX12_leaf 122 = .ok (.iload 4, 2) := by decide +kernel
theorem dX12_leaf_124 : decode cX12_leaf 124 = .ok (.iaload, 1) := by decide +kernel
theorem dX12_leaf_125 : decode cX12_leaf 125 = .ok (.invokevirtual 199, 3) := by decide +kernel
theorem dX12_leaf_128 : decode cX12_leaf 128 = .ok (.ireturn, 1) := by decide +kernel
theorem dX12_leaf_129 : decode cX12_leaf 129 = .ok (.aload_n 0, 1) := by decide +kernel
theorem dX12_leaf_130 : decode cX12_leaf 130 = .ok (.aload_n 0, 1) := by decide +kernel
theorem dX12_leaf_131 : decode cX12_leaf 131 = .ok (.iload_n 1, 1) := by decide +kernel
theorem dX12_leaf_132 : decode cX12_leaf 132 = .ok (.iload_n 2, 1) := by decide +kernel
theorem dX12_leaf_133 : decode cX12_leaf 133 = .ok (.invokevirtual 257, 3) := by decide +kernel
theorem dX12_leaf_136 : decode cX12_leaf 136 = .ok (.invokevirtual 199, 3) := by decide +kernel
theorem dX12_leaf_139 : decode cX12_leaf 139 = .ok (.ireturn, 1) := by decide +kernel
theorem dX12_leaf_140 : decode cX12_leaf 140 = .ok (.aload_n 0, 1) := by decide +kernel
theorem dX12_leaf_141 : decode cX12_leaf 141 = .ok (.iconst 3, 1) := by decide +kernel
theorem dX12_leaf_142 : decode cX12_leaf 142 = .ok (.invokevirtual 193, 3) := by decide +kernel
theorem dX12_leaf_145 : decode cX12_leaf 145 = .ok (.ireturn, 1) := by decide +kernel
def X12_leaf_113  (this : Nat) (y0 : Int32) : MM Int32 :=
  mb (wc 13 (some this) fun t => X12_fine t y0) fun v1 =>
  mr v1
def X12_leaf (this : Nat) (a1 : Int32) (a2 : Int32) (a3 : Int32) : MM Int32 :=
  mb (wc 13 (some this) fun t => X12_isLeaf t a1 a2) fun v1 =>
  if v1 = 0 then (mb (wc 13 (some this) fun t => X12_no t (1 : Int32)) fun v2 =>
  mr v2) else (if a3 = (0 : Int32) then (mb (gR 13 (some this) 12) fun v3 =>
  mb (aI v3 ((a1 * (400 : Int32)) + a2)) fun v4 =>
  mb (wc 13 (some this) fun t => X12_fine t v4) fun v5 =>
  mr v5) else (if a3 = (1 : Int32) then (mb (gR 13 (some this) 13) fun v6 =>
  mb (aI v6 ((a1 * (400 : Int32)) + a2)) fun v7 =>
  mb (wc 13 (some this) fun t => X12_fine t v7) fun v8 =>
  mr v8) else (if a3 = (2 : Int32) then (mb (gR 13 (some this) 14) fun v9 =>
  mb (aI v9 ((a1 * (400 : Int32)) + a2)) fun v10 =>
  if v10 ≤ 0 then (mb (wc 13 (some this) fun t => X12_isPlain t a1 a2) fun v11 =>
  if v11 = 0 then ((X12_leaf_113 this (1 : Int32))) else ((X12_leaf_113 this (0 : Int32)))) else ((X12_leaf_113 this (2 : Int32)))) else (if a3 = (3 : Int32) then (mb (gR 13 (some this) 14) fun v12 =>
  mb (aI v12 ((a1 * (400 : Int32)) + a2)) fun v13 =>
  mb (wc 13 (some this) fun t => X12_fine t v13) fun v14 =>
  mr v14) else (if a3 = (4 : Int32) then (mb (wc 13 (some this) fun t => X12_conjugate t a1 a2) fun v15 =>
  mb (wc 13 (some this) fun t => X12_fine t v15) fun v16 =>
  mr v16) else (mb (wc 13 (some this) fun t => X12_no t (3 : Int32)) fun v17 =>
  mr v17))))))
set_option maxRecDepth 100000 in
set_option maxHeartbeats 4000000 in
theorem s_X12_leaf_113 (G : GG)   (this : Nat) (y0 : Int32) : Sn G yX12_leaf cX12_leaf 5 (some FieldType.int) 3 71 (fun v : Int32 => some (.int v)) (X12_leaf_113  this y0) 113 [none, none, none, none, none] [.int y0, va_rf (some this)] := by
  unfold X12_leaf_113
  refine sn_cV (r := (some this)) (st := []) (As := [.int y0]) (st2 := (fun v => .int v :: [])) (pc' := 116) ci_13 (fun t => c_X12_fine G t y0) cw_X12_fine rfl rfl tw1435 pw45 tw1437 rfl rfl cat_nil rfl (fun _ => rfl) dX12_leaf_113 rfl (fun v1 => ?_)
  exact sn_iret dX12_leaf_116 rfl rfl
set_option maxRecDepth 100000 in
set_option maxHeartbeats 4000000 in
theorem s_X12_leaf (G : GG) (this : Nat) (a1 : Int32) (a2 : Int32) (a3 : Int32) : Sn G yX12_leaf cX12_leaf 5 (some FieldType.int) 3 71 (fun v : Int32 => some (.int v)) (X12_leaf this a1 a2 a3) 0 [some (va_rf (some this)), some (.int a1), some (.int a2), some (.int a3), none] [] := by
  unfold X12_leaf
  refine sn_aload_n (v := (some this)) (pc' := 1) dX12_leaf_0 rfl rfl rfl ?_
  refine sn_iload_n (v := a1) (pc' := 2) dX12_leaf_1 rfl rfl rfl ?_
  refine sn_iload_n (v := a2) (pc' := 3) dX12_leaf_2 rfl rfl rfl ?_
  refine sn_cV (r := (some this)) (st := []) (As := [.int a1, .int a2]) (st2 := (fun v => .int v :: [])) (pc' := 6) ci_13 (fun t => c_X12_isLeaf G t a1 a2) cw_X12_isLeaf rfl rfl tw1610 pw73 tw1612 rfl rfl cat_nil rfl (fun _ => rfl) dX12_leaf_3 rfl (fun v1 => ?_)
  refine sn_if_ne (pt := 15) (pf := 9) dX12_leaf_6 rfl rfl ?_ ?_
  · refine sn_aload_n (v := (some this)) (pc' := 10) dX12_leaf_9 rfl rfl rfl ?_
    refine sn_iconst (v := (1 : Int32)) (pc' := 11) dX12_leaf_10 rfl (by decide) ?_
    refine sn_cV (r := (some this)) (st := []) (As := [.int (1 : Int32)]) (st2 := (fun v => .int v :: [])) (pc' := 14) ci_13 (fun t => c_X12_no G t (1 : Int32)) cw_X12_no rfl rfl tw1431 pw44 tw1433 rfl rfl cat_nil rfl (fun _ => rfl) dX12_leaf_11 rfl (fun v2 => ?_)
    exact sn_iret dX12_leaf_14 rfl rfl
  · refine sn_iload_n (v := a1) (pc' := 16) dX12_leaf_15 rfl rfl rfl ?_
    refine sn_sipush (v := (400 : Int32)) (pc' := 19) dX12_leaf_16 rfl (by decide) ?_
    refine sn_imul (pc' := 20) dX12_leaf_19 rfl ?_
    refine sn_iload_n (v := a2) (pc' := 21) dX12_leaf_20 rfl rfl rfl ?_
    refine sn_iadd (pc' := 22) dX12_leaf_21 rfl ?_
    refine sn_istore (v := ((a1 * (400 : Int32)) + a2)) (L' := [some (va_rf (some this)), some (.int a1), some (.int a2), some (.int a3), some (.int ((a1 * (400 : Int32)) + a2))]) (pc' := 24) dX12_leaf_22 rfl rfl rfl ?_
    refine sn_iload_n (v := a3) (pc' := 25) dX12_leaf_24 rfl rfl rfl ?_
    refine sn_or (d := a3 = (0 : Int32)) (fun hc => ?_) (fun hc0 => ?_)
    · refine sn_tsI (pt := 60) (off := 35) dX12_leaf_25 (by rw [hc]; decide) (by rw [hc]; decide) (by rw [hc]; rfl) rfl ?_
      refine sn_aload_n (v := (some this)) (pc' := 61) dX12_leaf_60 rfl rfl rfl ?_
      refine sn_aload_n (v := (some this)) (pc' := 62) dX12_leaf_61 rfl rfl rfl ?_
      refine sn_gR (k := 12) (pc' := 65) ci_13 rfl (Or.inl tw1290) dX12_leaf_62 rfl (fun v3 => ?_)
      refine sn_iload (v := ((a1 * (400 : Int32)) + a2)) (pc' := 67) dX12_leaf_65 rfl rfl ?_
      refine sn_aI (pc' := 68) dX12_leaf_67 rfl (fun v4 => ?_)
      refine sn_cV (r := (some this)) (st := []) (As := [.int v4]) (st2 := (fun v => .int v :: [])) (pc' := 71) ci_13 (fun t => c_X12_fine G t v4) cw_X12_fine rfl rfl tw1435 pw45 tw1437 rfl rfl cat_nil rfl (fun _ => rfl) dX12_leaf_68 rfl (fun v5 => ?_)
      exact sn_iret dX12_leaf_71 rfl rfl
    refine sn_or (d := a3 = (1 : Int32)) (fun hc => ?_) (fun hc1 => ?_)
    · refine sn_tsI (pt := 72) (off := 47) dX12_leaf_25 (by rw [hc]; decide) (by rw [hc]; decide) (by rw [hc]; rfl) rfl ?_
      refine sn_aload_n (v := (some this)) (pc' := 73) dX12_leaf_72 rfl rfl rfl ?_
      refine sn_aload_n (v := (some this)) (pc' := 74) dX12_leaf_73 rfl rfl rfl ?_
      refine sn_gR (k := 13) (pc' := 77) ci_13 rfl (Or.inl tw1291) dX12_leaf_74 rfl (fun v6 => ?_)
      refine sn_iload (v := ((a1 * (400 : Int32)) + a2)) (pc' := 79) dX12_leaf_77 rfl rfl ?_
      refine sn_aI (pc' := 80) dX12_leaf_79 rfl (fun v7 => ?_)
      refine sn_cV (r := (some this)) (st := []) (As := [.int v7]) (st2 := (fun v => .int v :: [])) (pc' := 83) ci_13 (fun t => c_X12_fine G t v7) cw_X12_fine rfl rfl tw1435 pw45 tw1437 rfl rfl cat_nil rfl (fun _ => rfl) dX12_leaf_80 rfl (fun v8 => ?_)
      exact sn_iret dX12_leaf_83 rfl rfl
    refine sn_or (d := a3 = (2 : Int32)) (fun hc => ?_) (fun hc2 => ?_)
    · refine sn_tsI (pt := 84) (off := 59) dX12_leaf_25 (by rw [hc]; decide) (by rw [hc]; decide) (by rw [hc]; rfl) rfl ?_
      refine sn_aload_n (v := (some this)) (pc' := 85) dX12_leaf_84 rfl rfl rfl ?_
      refine sn_aload_n (v := (some this)) (pc' := 86) dX12_leaf_85 rfl rfl rfl ?_
      refine sn_gR (k := 14) (pc' := 89) ci_13 rfl (Or.inl tw1292) dX12_leaf_86 rfl (fun v9 => ?_)
      refine sn_iload (v := ((a1 * (400 : Int32)) + a2)) (pc' := 91) dX12_leaf_89 rfl rfl ?_
      refine sn_aI (pc' := 92) dX12_leaf_91 rfl (fun v10 => ?_)
      refine sn_if_le (pt := 99) (pf := 95) dX12_leaf_92 rfl rfl ?_ ?_
      · refine sn_aload_n (v := (some this)) (pc' := 100) dX12_leaf_99 rfl rfl rfl ?_
        refine sn_iload_n (v := a1) (pc' := 101) dX12_leaf_100 rfl rfl rfl ?_
        refine sn_iload_n (v := a2) (pc' := 102) dX12_leaf_101 rfl rfl rfl ?_
        refine sn_cV (r := (some this)) (st := [va_rf (some this)]) (As := [.int a1, .int a2]) (st2 := (fun v => .int v :: [va_rf (some this)])) (pc' := 105) ci_13 (fun t => c_X12_isPlain G t a1 a2) cw_X12_isPlain rfl rfl tw1614 pw74 tw1616 rfl rfl (cat_q cat_nil) rfl (fun _ => rfl) dX12_leaf_102 rfl (fun v11 => ?_)
        refine sn_if_eq (pt := 112) (pf := 108) dX12_leaf_105 rfl rfl ?_ ?_
        · refine sn_iconst (v := (1 : Int32)) (pc' := 113) dX12_leaf_112 rfl (by decide) ?_
          exact sn_weak (le_n (le_n (le_n (le_n (le_n le_e))))) (s_X12_leaf_113 G this (1 : Int32))
        · refine sn_iconst (v := (0 : Int32)) (pc' := 109) dX12_leaf_108 rfl (by decide) ?_
          refine sn_goto (pc' := 113) dX12_leaf_109 rfl ?_
          exact sn_weak (le_n (le_n (le_n (le_n (le_n le_e))))) (s_X12_leaf_113 G this (0 : Int32))
      · refine sn_iconst (v := (2 : Int32)) (pc' := 96) dX12_leaf_95 rfl (by decide) ?_
        refine sn_goto (pc' := 113) dX12_leaf_96 rfl ?_
        exact sn_weak (le_n (le_n (le_n (le_n (le_n le_e))))) (s_X12_leaf_113 G this (2 : Int32))
    refine sn_or (d := a3 = (3 : Int32)) (fun hc => ?_) (fun hc3 => ?_)
    · refine sn_tsI (pt := 117) (off := 92) dX12_leaf_25 (by rw [hc]; decide) (by rw [hc]; decide) (by rw [hc]; rfl) rfl ?_
      refine sn_aload_n (v := (some this)) (pc' := 118) dX12_leaf_117 rfl rfl rfl ?_
      refine sn_aload_n (v := (some this)) (pc' := 119) dX12_leaf_118 rfl rfl rfl ?_
      refine sn_gR (k := 14) (pc' := 122) ci_13 rfl (Or.inl tw1292) dX12_leaf_119 rfl (fun v12 => ?_)
      refine sn_iload (v := ((a1 * (400 : Int32)) + a2)) (pc' := 124) dX12_leaf_122 rfl rfl ?_
      refine sn_aI (pc' := 125) dX12_leaf_124 rfl (fun v13 => ?_)
      refine sn_cV (r := (some this)) (st := []) (As := [.int v13]) (st2 := (fun v => .int v :: [])) (pc' := 128) ci_13 (fun t => c_X12_fine G t v13) cw_X12_fine rfl rfl tw1435 pw45 tw1437 rfl rfl cat_nil rfl (fun _ => rfl) dX12_leaf_125 rfl (fun v14 => ?_)
      exact sn_iret dX12_leaf_128 rfl rfl
    refine sn_or (d := a3 = (4 : Int32)) (fun hc => ?_) (fun hc4 => ?_)
    · refine sn_tsI (pt := 129) (off := 104) dX12_leaf_25 (by rw [hc]; decide) (by rw [hc]; decide) (by rw [hc]; rfl) rfl ?_
      refine sn_aload_n (v := (some this)) (pc' := 130) dX12_leaf_129 rfl rfl rfl ?_
      refine sn_aload_n (v := (some this)) (pc' := 131) dX12_leaf_130 rfl rfl rfl ?_
      refine sn_iload_n (v := a1) (pc' := 132) dX12_leaf_131 rfl rfl rfl ?_
      refine sn_iload_n (v := a2) (pc' := 133) dX12_leaf_132 rfl rfl rfl ?_
      refine sn_cV (r := (some this)) (st := [va_rf (some this)]) (As := [.int a1, .int a2]) (st2 := (fun v => .int v :: [va_rf (some this)])) (pc' := 136) ci_13 (fun t => c_X12_conjugate G t a1 a2) cw_X12_conjugate rfl rfl tw1618 pw75 tw1620 rfl rfl (cat_q cat_nil) rfl (fun _ => rfl) dX12_leaf_133 rfl (fun v15 => ?_)
      refine sn_cV (r := (some this)) (st := []) (As := [.int v15]) (st2 := (fun v => .int v :: [])) (pc' := 139) ci_13 (fun t => c_X12_fine G t v15) cw_X12_fine rfl rfl tw1435 pw45 tw1437 rfl rfl cat_nil rfl (fun _ => rfl) dX12_leaf_136 rfl (fun v16 => ?_)
      exact sn_iret dX12_leaf_139 rfl rfl
    refine sn_tsO (pt := 140) dX12_leaf_25 (by
      have h9 := ts_out 0 5 (by decide) (fun j h1 h2 => by
        rcases (show j = 0 ∨ j = 1 ∨ j = 2 ∨ j = 3 ∨ j = 4 by omega) with e | e | e | e | e
        · subst e; exact hc0
        · subst e; exact hc1
        · subst e; exact hc2
        · subst e; exact hc3
        · subst e; exact hc4
        )
      omega) rfl ?_
    refine sn_aload_n (v := (some this)) (pc' := 141) dX12_leaf_140 rfl rfl rfl ?_
    refine sn_iconst (v := (3 : Int32)) (pc' := 142) dX12_leaf_141 rfl (by decide) ?_
    refine sn_cV (r := (some this)) (st := []) (As := [.int (3 : Int32)]) (st2 := (fun v => .int v :: [])) (pc' := 145) ci_13 (fun t => c_X12_no G t (3 : Int32)) cw_X12_no rfl rfl tw1431 pw44 tw1433 rfl rfl cat_nil rfl (fun _ => rfl) dX12_leaf_142 rfl (fun v17 => ?_)
    exact sn_iret dX12_leaf_145 rfl rfl
theorem c_X12_leaf (G : GG) (this : Nat) (a1 : Int32) (a2 : Int32) (a3 : Int32) : Cal G yX12_leaf cX12_leaf 5 (some FieldType.int) 3 71 (fun v : Int32 => some (.int v)) (X12_leaf this a1 a2 a3) [.ref this, .int a1, .int a2, .int a3] :=
  Cal.of (by decide) (cat_t (cat_i (cat_i (cat_i cat_nil)))) rfl (sn_weak (le_s (le_s (le_s (le_s (le_z le_e))))) (s_X12_leaf G this a1 a2 a3))
theorem cw_X12_leaf : CW yX12_leaf cX12_leaf 5 (some FieldType.int) 3 := ⟨tw1609, tw15, by decide, by decide +kernel⟩
/-! X12_letter -/
theorem dX12_letter_0 : decode cX12_letter 0 = .ok (.aload_n 0, 1) := by decide +kernel
theorem dX12_letter_1 : decode cX12_letter 1 = .ok (.iload_n 1, 1) := by decide +kernel
theorem dX12_letter_2 : decode cX12_letter 2 = .ok (.invokevirtual 333, 3) := by decide +kernel
theorem dX12_letter_5 : decode cX12_letter 5 = .ok (.ifCond .ne 9, 3) := by decide +kernel
theorem dX12_letter_8 : decode cX12_letter 8 = .ok (.aload_n 0, 1) := by decide +kernel
theorem dX12_letter_9 : decode cX12_letter 9 = .ok (.iconst 1, 1) := by decide +kernel
theorem dX12_letter_10 : decode cX12_letter 10 = .ok (.invokevirtual 193, 3) := by decide +kernel
theorem dX12_letter_13 : decode cX12_letter 13 = .ok (.ireturn, 1) := by decide +kernel
theorem dX12_letter_14 : decode cX12_letter 14 = .ok (.aload_n 0, 1) := by decide +kernel
theorem dX12_letter_15 : decode cX12_letter 15 = .ok (.iload_n 1, 1) := by decide +kernel
theorem dX12_letter_16 : decode cX12_letter 16 = .ok (.invokevirtual 357, 3) := by decide +kernel
theorem dX12_letter_19 : decode cX12_letter 19 = .ok (.aload_n 0, 1) := by decide +kernel
theorem dX12_letter_20 : decode cX12_letter 20 = .ok (.iload_n 2, 1) := by decide +kernel
theorem dX12_letter_21 : decode cX12_letter 21 = .ok (.invokevirtual 360, 3) := by decide +kernel
theorem dX12_letter_24 : decode cX12_letter 24 = .ok (.ireturn, 1) := by decide +kernel
def X12_letter (this : Nat) (a1 : Int32) (a2 : Int32) : MM Int32 :=
  mb (wc 13 (some this) fun t => X12_isBook t a1) fun v1 =>
  if v1 = 0 then (mb (wc 13 (some this) fun t => X12_no t (1 : Int32)) fun v2 =>
  mr v2) else (mb (wc 13 (some this) fun t => X12_writeBook t a1) fun _ =>
  mb (wc 13 (some this) fun t => X12_tell t a2) fun v3 =>
  mr v3)
set_option maxRecDepth 100000 in
set_option maxHeartbeats 4000000 in
theorem s_X12_letter (G : GG) (this : Nat) (a1 : Int32) (a2 : Int32) : Sn G yX12_letter cX12_letter 3 (some FieldType.int) 8 181 (fun v : Int32 => some (.int v)) (X12_letter this a1 a2) 0 [some (va_rf (some this)), some (.int a1), some (.int a2)] [] := by
  unfold X12_letter
  refine sn_aload_n (v := (some this)) (pc' := 1) dX12_letter_0 rfl rfl rfl ?_
  refine sn_iload_n (v := a1) (pc' := 2) dX12_letter_1 rfl rfl rfl ?_
  refine sn_cV (r := (some this)) (st := []) (As := [.int a1]) (st2 := (fun v => .int v :: [])) (pc' := 5) ci_13 (fun t => c_X12_isBook G t a1) cw_X12_isBook rfl rfl tw1554 pw68 tw1556 rfl rfl cat_nil rfl (fun _ => rfl) dX12_letter_2 rfl (fun v1 => ?_)
  refine sn_if_ne (pt := 14) (pf := 8) dX12_letter_5 rfl rfl ?_ ?_
  · refine sn_aload_n (v := (some this)) (pc' := 9) dX12_letter_8 rfl rfl rfl ?_
    refine sn_iconst (v := (1 : Int32)) (pc' := 10) dX12_letter_9 rfl (by decide) ?_
    refine sn_cV (r := (some this)) (st := []) (As := [.int (1 : Int32)]) (st2 := (fun v => .int v :: [])) (pc' := 13) ci_13 (fun t => c_X12_no G t (1 : Int32)) cw_X12_no rfl rfl tw1431 pw44 tw1433 rfl rfl cat_nil rfl (fun _ => rfl) dX12_letter_10 rfl (fun v2 => ?_)
    exact sn_iret dX12_letter_13 rfl rfl
  · refine sn_aload_n (v := (some this)) (pc' := 15) dX12_letter_14 rfl rfl rfl ?_
    refine sn_iload_n (v := a1) (pc' := 16) dX12_letter_15 rfl rfl rfl ?_
    refine sn_cV (r := (some this)) (st := []) (As := [.int a1]) (st2 := (fun _ => [])) (pc' := 19) ci_13 (fun t => c_X12_writeBook G t a1) cw_X12_writeBook rfl rfl tw1626 pw76 tw1628 rfl rfl cat_nil rfl (fun _ => rfl) dX12_letter_16 rfl (fun _ => ?_)
    refine sn_aload_n (v := (some this)) (pc' := 20) dX12_letter_19 rfl rfl rfl ?_
    refine sn_iload_n (v := a2) (pc' := 21) dX12_letter_20 rfl rfl rfl ?_
    refine sn_cV (r := (some this)) (st := []) (As := [.int a2]) (st2 := (fun v => .int v :: [])) (pc' := 24) ci_13 (fun t => c_X12_tell G t a2) cw_X12_tell rfl rfl tw1653 pw82 tw1655 rfl rfl cat_nil rfl (fun _ => rfl) dX12_letter_21 rfl (fun v3 => ?_)
    exact sn_iret dX12_letter_24 rfl rfl
theorem c_X12_letter (G : GG) (this : Nat) (a1 : Int32) (a2 : Int32) : Cal G yX12_letter cX12_letter 3 (some FieldType.int) 8 181 (fun v : Int32 => some (.int v)) (X12_letter this a1 a2) [.ref this, .int a1, .int a2] :=
  Cal.of (by decide) (cat_t (cat_i (cat_i cat_nil))) rfl (sn_weak (le_s (le_s (le_s le_e))) (s_X12_letter G this a1 a2))
theorem cw_X12_letter : CW yX12_letter cX12_letter 3 (some FieldType.int) 2 := ⟨tw1625, tw15, by decide, by decide +kernel⟩
/-! X12_name -/
theorem dX12_name_0 : decode cX12_name 0 = .ok (.aload_n 0, 1) := by decide +kernel
theorem dX12_name_1 : decode cX12_name 1 = .ok (.iload_n 1, 1) := by decide +kernel
theorem dX12_name_2 : decode cX12_name 2 = .ok (.iload_n 2, 1) := by decide +kernel
theorem dX12_name_3 : decode cX12_name 3 = .ok (.invokevirtual 354, 3) := by decide +kernel
theorem dX12_name_6 : decode cX12_name 6 = .ok (.ifCond .ne 9, 3) := by decide +kernel
theorem dX12_name_9 : decode cX12_name 9 = .ok (.aload_n 0, 1) := by decide +kernel
theorem dX12_name_10 : decode cX12_name 10 = .ok (.iconst 1, 1) := by decide +kernel
theorem dX12_name_11 : decode cX12_name 11 = .ok (.invokevirtual 193, 3) := by decide +kernel
theorem dX12_name_14 : decode cX12_name 14 = .ok (.ireturn, 1) := by decide +kernel
theorem dX12_name_15 : decode cX12_name 15 = .ok (.aload_n 0, 1) := by decide +kernel
theorem dX12_name_16 : decode cX12_name 16 = .ok (.iconst 0, 1) := by decide +kernel
theorem dX12_name_17 : decode cX12_name 17 = .ok (.putfield 205, 3) := by decide +kernel
theorem dX12_name_20 : decode cX12_name 20 = .ok (.aload_n 0, 1) := by decide +kernel
theorem dX12_name_21 : decode cX12_name 21 = .ok (.iload_n 1, 1) := by decide +kernel
theorem dX12_name_22 : decode cX12_name 22 = .ok (.iload_n 2, 1) := by decide +kernel
theorem dX12_name_23 : decode cX12_name 23 = .ok (.invokevirtual 265, 3) := by decide +kernel
theorem dX12_name_26 : decode cX12_name 26 = .ok (.aload_n 0, 1) := by decide +kernel
theorem dX12_name_27 : decode cX12_name 27 = .ok (.iload_n 3, 1) := by decide +kernel
theorem dX12_name_28 : decode cX12_name 28 = .ok (.invokevirtual 360, 3) := by decide +kernel
theorem dX12_name_31 : decode cX12_name 31 = .ok (.ireturn, 1) := by decide +kernel
def X12_name (this : Nat) (a1 : Int32) (a2 : Int32) (a3 : Int32) : MM Int32 :=
  mb (wc 13 (some this) fun t => X12_isLeaf t a1 a2) fun v1 =>
  if v1 = 0 then (mb (wc 13 (some this) fun t => X12_no t (1 : Int32)) fun v2 =>
  mr v2) else (mb (pI 13 (some this) 37 (0 : Int32)) fun _ =>
  mb (wc 13 (some this) fun t => X12_writeName t a1 a2) fun _ =>
  mb (wc 13 (some this) fun t => X12_tell t a3) fun v3 =>
  mr v3)
set_option maxRecDepth 100000 in
set_option maxHeartbeats 4000000 in
theorem s_X12_name (G : GG) (this : Nat) (a1 : Int32) (a2 : Int32) (a3 : Int32) : Sn G yX12_name cX12_name 4 (some FieldType.int) 7 152 (fun v : Int32 => some (.int v)) (X12_name this a1 a2 a3) 0 [some (va_rf (some this)), some (.int a1), some (.int a2), some (.int a3)] [] := by
  unfold X12_name
  refine sn_aload_n (v := (some this)) (pc' := 1) dX12_name_0 rfl rfl rfl ?_
  refine sn_iload_n (v := a1) (pc' := 2) dX12_name_1 rfl rfl rfl ?_
  refine sn_iload_n (v := a2) (pc' := 3) dX12_name_2 rfl rfl rfl ?_
  refine sn_cV (r := (some this)) (st := []) (As := [.int a1, .int a2]) (st2 := (fun v => .int v :: [])) (pc' := 6) ci_13 (fun t => c_X12_isLeaf G t a1 a2) cw_X12_isLeaf rfl rfl tw1610 pw73 tw1612 rfl rfl cat_nil rfl (fun _ => rfl) dX12_name_3 rfl (fun v1 => ?_)
  refine sn_if_ne (pt := 15) (pf := 9) dX12_name_6 rfl rfl ?_ ?_
  · refine sn_aload_n (v := (some this)) (pc' := 10) dX12_name_9 rfl rfl rfl ?_
    refine sn_iconst (v := (1 : Int32)) (pc' := 11) dX12_name_10 rfl (by decide) ?_
    refine sn_cV (r := (some this)) (st := []) (As := [.int (1 : Int32)]) (st2 := (fun v => .int v :: [])) (pc' := 14) ci_13 (fun t => c_X12_no G t (1 : Int32)) cw_X12_no rfl rfl tw1431 pw44 tw1433 rfl rfl cat_nil rfl (fun _ => rfl) dX12_name_11 rfl (fun v2 => ?_)
    exact sn_iret dX12_name_14 rfl rfl
  · refine sn_aload_n (v := (some this)) (pc' := 16) dX12_name_15 rfl rfl rfl ?_
    refine sn_iconst (v := (0 : Int32)) (pc' := 17) dX12_name_16 rfl (by decide) ?_
    refine sn_pI (k := 37) (pc' := 20) ci_13 rfl (Or.inl tw1315) (Or.inl rfl) rfl dX12_name_17 rfl (fun _ => ?_)
    refine sn_aload_n (v := (some this)) (pc' := 21) dX12_name_20 rfl rfl rfl ?_
    refine sn_iload_n (v := a1) (pc' := 22) dX12_name_21 rfl rfl rfl ?_
    refine sn_iload_n (v := a2) (pc' := 23) dX12_name_22 rfl rfl rfl ?_
    refine sn_cV (r := (some this)) (st := []) (As := [.int a1, .int a2]) (st2 := (fun _ => [])) (pc' := 26) ci_13 (fun t => c_X12_writeName G t a1 a2) cw_X12_writeName rfl rfl tw1661 pw83 tw1663 rfl rfl cat_nil rfl (fun _ => rfl) dX12_name_23 rfl (fun _ => ?_)
    refine sn_aload_n (v := (some this)) (pc' := 27) dX12_name_26 rfl rfl rfl ?_
    refine sn_iload_n (v := a3) (pc' := 28) dX12_name_27 rfl rfl rfl ?_
    refine sn_cV (r := (some this)) (st := []) (As := [.int a3]) (st2 := (fun v => .int v :: [])) (pc' := 31) ci_13 (fun t => c_X12_tell G t a3) cw_X12_tell rfl rfl tw1653 pw82 tw1655 rfl rfl cat_nil rfl (fun _ => rfl) dX12_name_28 rfl (fun v3 => ?_)
    exact sn_iret dX12_name_31 rfl rfl
theorem c_X12_name (G : GG) (this : Nat) (a1 : Int32) (a2 : Int32) (a3 : Int32) : Cal G yX12_name cX12_name 4 (some FieldType.int) 7 152 (fun v : Int32 => some (.int v)) (X12_name this a1 a2 a3) [.ref this, .int a1, .int a2, .int a3] :=
  Cal.of (by decide) (cat_t (cat_i (cat_i (cat_i cat_nil)))) rfl (sn_weak (le_s (le_s (le_s (le_s le_e)))) (s_X12_name G this a1 a2 a3))
theorem cw_X12_name : CW yX12_name cX12_name 4 (some FieldType.int) 3 := ⟨tw1660, tw15, by decide, by decide +kernel⟩
/-! X12_same -/
theorem dX12_same_0 : decode cX12_same 0 = .ok (.aload_n 0, 1) := by decide +kernel
theorem dX12_same_1 : decode cX12_same 1 = .ok (.iload_n 1, 1) := by decide +kernel
theorem dX12_same_2 : decode cX12_same 2 = .ok (.invokevirtual 333, 3) := by decide +kernel
theorem dX12_same_5 : decode cX12_same 5 = .ok (.ifCond .eq 11, 3) := by decide +kernel
theorem dX12_same_8 : decode cX12_same 8 = .ok (.aload_n 0, 1) := by decide +kernel
theorem dX12_same_9 : decode cX12_same 9 = .ok (.iload_n 2, 1) := by decide +kernel
theorem dX12_same_10 : decode cX12_same 10 = .ok (.invokevirtual 333, 3) := by decide +kernel
theorem dX12_same_13 : decode cX12_same 13 = .ok (.ifCond .ne 9, 3) := by decide +kernel
theorem dX12_same_16 : decode cX12_same 16 = .ok (.aload_n 0, 1) := by decide +kernel
theorem dX12_same_17 : decode cX12_same 17 = .ok (.iconst 1, 1) := by decide +kernel
theorem dX12_same_18 : decode cX12_same 18 = .ok (.invokevirtual 193, 3) := by decide +kernel
theorem dX12_same_21 : decode cX12_same 21 = .ok (.ireturn, 1) := by decide +kernel
theorem dX12_same_22 : decode cX12_same 22 = .ok (.aload_n 0, 1) := by decide +kernel
theorem dX12_same_23 : decode cX12_same 23 = .ok (.iload_n 1, 1) := by decide +kernel
theorem dX12_same_24 : decode cX12_same 24 = .ok (.invokevirtual 357, 3) := by decide +kernel
theorem dX12_same_27 : decode cX12_same 27 = .ok (.aload_n 0, 1) := by decide +kernel
theorem dX12_same_28 : decode cX12_same 28 = .ok (.getfield 205, 3) := by decide +kernel
theorem dX12_same_31 : decode cX12_same 31 = .ok (.istore_n 3, 1) := by decide +kernel
theorem dX12_same_32 : decode cX12_same 32 = .ok (.iconst 0, 1) := by decide +kernel
theorem dX12_same_33 : decode cX12_same 33 = .ok (.istore 4, 2) := by decide +kernel
theorem dX12_same_35 : decode cX12_same 35 = .ok (.iload 4, 2) := by decide +kernel
theorem dX12_same_37 : decode cX12_same 37 = .ok (.iload_n 3, 1) := by decide +kernel
theorem dX12_same_38 : decode cX12_same 38 = .ok (.if_icmp .ge 23, 3) := by decide +kernel
theorem dX12_same_41 : decode cX12_same 41 = .ok (.aload_n 0, 1) := by decide +kernel
theorem dX12_same_42 : decode cX12_same 42 = .ok (.getfield 296, 3) := by decide +kernel
theorem dX12_same_45 : decode cX12_same 45 = .ok (.iload 4, 2) := by decide +kernel
theorem dX12_same_47 : decode cX12_same 47 = .ok (.aload_n 0, 1) := by decide +kernel
theorem dX12_same_48 : decode cX12_same 48 = .ok (.getfield 202, 3) := by decide +kernel
theorem dX12_same_51 : decode cX12_same 51 = .ok (.iload 4, 2) := by decide +kernel
theorem dX12_same_53 : decode cX12_same 53 = .ok (.iaload, 1) := by decide +kernel
theorem dX12_same_54 : decode cX12_same 54 = .ok (.iastore, 1) := by decide +kernel
theorem dX12_same_55 : decode cX12_same 55 = .ok (.iinc 4 1, 3) := by decide +kernel
theorem dX12_same_58 : decode cX12_same 58 = .ok (.goto (-23), 3) := by decide +kernel
theorem dX12_same_61 : decode cX12_same 61 = .ok (.aload_n 0, 1) := by decide +kernel
theorem dX12_same_62 : decode cX12_same 62 = .ok (.iload_n 2, 1) := by decide +kernel
theorem dX12_same_63 : decode cX12_same 63 = .ok (.invokevirtual 357, 3) := by decide +kernel
theorem dX12_same_66 : decode cX12_same 66 = .ok (.aload_n 0, 1) := by decide +kernel
theorem dX12_same_67 : decode cX12_same 67 = .ok (.getfield 205, 3) := by decide +kernel
theorem dX12_same_70 : decode cX12_same 70 = .ok (.iload_n 3, 1) := by decide +kernel
theorem dX12_same_71 : decode cX12_same 71 = .ok (.if_icmp .ne 7, 3) := by decide +kernel
theorem dX12_same_74 : decode cX12_same 74 = .ok (.iconst 1, 1) := by decide +kernel
theorem dX12_same_75 : decode cX12_same 75 = .ok (.goto 4, 3) := by decide +kernel
theorem dX12_same_78 : decode cX12_same 78 = .ok (.iconst 0, 1) := by decide +kernel
theorem dX12_same_79 : decode cX12_same 79 = .ok (.istore 4, 2) := by decide +kernel
theorem dX12_same_81 : decode cX12_same 81 = .ok (.iconst 0, 1) := by decide +kernel
theorem dX12_same_82 : decode cX12_same 82 = .ok (.istore 5, 2) := by decide +kernel
theorem dX12_same_84 : decode cX12_same 84 = .ok (.iload 5, 2) := by decide +kernel
theorem dX12_same_86 : decode cX12_same 86 = .ok (.iload_n 3, 1) := by decide +kernel
theorem dX12_same_87 : decode cX12_same 87 = .ok (.if_icmp .ge 38, 3) := by decide +kernel
theorem dX12_same_90 : decode cX12_same 90 = .ok (.iload 4, 2) := by decide +kernel
theorem dX12_same_92 : decode cX12_same 92 = .ok (.ifCond .eq 33, 3) := by decide +kernel
theorem dX12_same_95 : decode cX12_same 95 = .ok (.aload_n 0, 1) := by decide +kernel
theorem dX12_same_96 : decode cX12_same 96 = .ok (.getfield 296, 3) := by decide +kernel
theorem dX12_same_99 : decode cX12_same 99 = .ok (.iload 5, 2) := by decide +kernel
theorem dX12_same_101 : decode cX12_same 101 = .ok (.iaload, 1) := by decide +kernel
theorem dX12_same_102 : decode cX12_same 102 = .ok (.aload_n 0, 1) := by decide +kernel
theorem dX12_same_103 : decode cX12_same 103 = .ok (.getfield 202, 3) := by decide +kernel
theorem dX12_same_106 : decode cX12_same 106 = .ok (.iload 5, 2) := by decide +kernel
theorem dX12_same_108 : decode cX12_same 108 = .ok (.iaload, 1) := by decide +kernel
theorem dX12_same_109 : decode cX12_same 109 = .ok (.if_icmp .ne 7, 3) := by decide +kernel
theorem dX12_same_112 : decode cX12_same 112 = .ok (.iconst 1, 1) := by decide +kernel
theorem dX12_same_113 : decode cX12_same 113 = .ok (.goto 4, 3) := by decide +kernel
theorem dX12_same_116 : decode cX12_same 116 = .ok (.iconst 0, 1) := by decide +kernel
theorem dX12_same_117 : decode cX12_same 117 = .ok (.istore 4, 2) := by decide +kernel
theorem dX12_same_119 : decode cX12_same 119 = .ok (.iinc 5 1, 3) := by decide +kernel
theorem dX12_same_122 : decode cX12_same 122 = .ok (.goto (-38), 3) := by decide +kernel
theorem dX12_same_125 : decode cX12_same 125 = .ok (.aload_n 0, 1) := by decide +kernel
theorem dX12_same_126 : decode cX12_same 126 = .ok (.iload 4, 2) := by decide +kernel
theorem dX12_same_128 : decode cX12_same 128 = .ok (.ifCond .eq 7, 3) := by decide +kernel
theorem dX12_same_131 : decode cX12_same 131 = .ok (.iconst 1, 1) := by decide +kernel
theorem dX12_same_132 : decode cX12_same 132 = .ok (.goto 4, 3) := by decide +kernel
theorem dX12_same_135 : decode cX12_same 135 = .ok (.iconst 0, 1) := by decide +kernel
theorem dX12_same_136 : decode cX12_same 136 = .ok (.invokevirtual 199, 3) := by decide +kernel
theorem dX12_same_139 : decode cX12_same 139 = .ok (.ireturn, 1) := by decide +kernel
def X12_same_16  (this : Nat) : MM Int32 :=
  mb (wc 13 (some this) fun t => X12_no t (1 : Int32)) fun v1 =>
  mr v1
def X12_same_117 (k84 : Nat → Int32 → Int32 → Int32 → MM Int32) (this : Nat) (x3 : Int32) (x5 : Int32) (y0 : Int32) : MM Int32 :=
  (k84 this x3 y0 (x5 + (1 : Int32)))
def X12_same_136  (this : Nat) (y0 : Int32) : MM Int32 :=
  mb (wc 13 (some this) fun t => X12_fine t y0) fun v1 =>
  mr v1
def X12_same_125  (this : Nat) (x4 : Int32) : MM Int32 :=
  if x4 = 0 then ((X12_same_136 this (0 : Int32))) else ((X12_same_136 this (1 : Int32)))
def X12_same_84_st  (k84 : Nat → Int32 → Int32 → Int32 → MM Int32) (this : Nat) (x3 : Int32) (x4 : Int32) (x5 : Int32) : MM Int32 :=
  if x3 ≤ x5 then ((X12_same_125 this x4)) else (if x4 = 0 then ((X12_same_125 this x4)) else (mb (gR 13 (some this) 38) fun v1 =>
  mb (aI v1 x5) fun v2 =>
  mb (gR 13 (some this) 36) fun v3 =>
  mb (aI v3 x5) fun v4 =>
  if v2 = v4 then ((X12_same_117 k84 this x3 x5 (1 : Int32))) else ((X12_same_117 k84 this x3 x5 (0 : Int32)))))
def X12_same_84  : Nat → Nat → Int32 → Int32 → Int32 → MM Int32
  | 0 => fun _ _ _ _ => mf
  | n + 1 => fun this x3 x4 x5 => X12_same_84_st  (X12_same_84  n) this x3 x4 x5
def X12_same_79  (this : Nat) (x3 : Int32) (y0 : Int32) : MM Int32 :=
  (X12_same_84 LFU this x3 y0 (0 : Int32))
def X12_same_61  (this : Nat) (x2 : Int32) (x3 : Int32) : MM Int32 :=
  mb (wc 13 (some this) fun t => X12_writeBook t x2) fun _ =>
  mb (gI 13 (some this) 37) fun v1 =>
  if v1 = x3 then ((X12_same_79 this x3 (1 : Int32))) else ((X12_same_79 this x3 (0 : Int32)))
def X12_same_35_st  (k35 : Nat → Int32 → Int32 → Int32 → MM Int32) (this : Nat) (x2 : Int32) (x3 : Int32) (x4 : Int32) : MM Int32 :=
  if x3 ≤ x4 then ((X12_same_61 this x2 x3)) else (mb (gR 13 (some this) 38) fun v1 =>
  mb (gR 13 (some this) 36) fun v2 =>
  mb (aI v2 x4) fun v3 =>
  mb (sI v1 x4 v3) fun _ =>
  (k35 this x2 x3 (x4 + (1 : Int32))))
def X12_same_35  : Nat → Nat → Int32 → Int32 → Int32 → MM Int32
  | 0 => fun _ _ _ _ => mf
  | n + 1 => fun this x2 x3 x4 => X12_same_35_st  (X12_same_35  n) this x2 x3 x4
def X12_same (this : Nat) (a1 : Int32) (a2 : Int32) : MM Int32 :=
  mb (wc 13 (some this) fun t => X12_isBook t a1) fun v1 =>
  if v1 = 0 then ((X12_same_16 this)) else (mb (wc 13 (some this) fun t => X12_isBook t a2) fun v2 =>
  if v2 = 0 then ((X12_same_16 this)) else (mb (wc 13 (some this) fun t => X12_writeBook t a1) fun _ =>
  mb (gI 13 (some this) 37) fun v3 =>
  (X12_same_35 LFU this a2 v3 (0 : Int32))))
set_option maxRecDepth 100000 in
set_option maxHeartbeats 4000000 in
theorem s_X12_same_16 (G : GG)   (this : Nat) : Sn G yX12_same cX12_same 6 (some FieldType.int) 8 181 (fun v : Int32 => some (.int v)) (X12_same_16  this) 16 [some (va_rf (some this)), none, none, none, none, none] [] := by
  unfold X12_same_16
  refine sn_aload_n (v := (some this)) (pc' := 17) dX12_same_16 rfl rfl rfl ?_
  refine sn_iconst (v := (1 : Int32)) (pc' := 18) dX12_same_17 rfl (by decide) ?_
  refine sn_cV (r := (some this)) (st := []) (As := [.int (1 : Int32)]) (st2 := (fun v => .int v :: [])) (pc' := 21) ci_13 (fun t => c_X12_no G t (1 : Int32)) cw_X12_no rfl rfl tw1431 pw44 tw1433 rfl rfl cat_nil rfl (fun _ => rfl) dX12_same_18 rfl (fun v1 => ?_)
  exact sn_iret dX12_same_21 rfl rfl
set_option maxRecDepth 100000 in
set_option maxHeartbeats 4000000 in
theorem s_X12_same_117 (G : GG) (k84 : Nat → Int32 → Int32 → Int32 → MM Int32) (hk84 : ∀ (this : Nat) (x3 : Int32) (x4 : Int32) (x5 : Int32), Sn G yX12_same cX12_same 6 (some FieldType.int) 8 181 (fun v : Int32 => some (.int v)) (k84 this x3 x4 x5) 84 [some (va_rf (some this)), none, none, some (.int x3), some (.int x4), some (.int x5)] []) (this : Nat) (x3 : Int32) (x5 : Int32) (y0 : Int32) : Sn G yX12_same cX12_same 6 (some FieldType.int) 8 181 (fun v : Int32 => some (.int v)) (X12_same_117 k84 this x3 x5 y0) 117 [some (va_rf (some this)), none, none, some (.int x3), none, some (.int x5)] [.int y0] := by
  unfold X12_same_117
  refine sn_istore (v := y0) (L' := [some (va_rf (some this)), none, none, some (.int x3), some (.int y0), some (.int x5)]) (pc' := 119) dX12_same_117 rfl rfl rfl ?_
  refine sn_iinc (v := x5) (w := 1) (L' := [some (va_rf (some this)), none, none, some (.int x3), some (.int y0), some (.int (x5 + (1 : Int32)))]) (pc' := 122) dX12_same_119 rfl rfl rfl (by decide) rfl ?_
  refine sn_goto (pc' := 84) dX12_same_122 rfl ?_
  exact sn_weak (le_s (le_n (le_n (le_s (le_s (le_s le_e)))))) (hk84 this x3 y0 (x5 + (1 : Int32)))
set_option maxRecDepth 100000 in
set_option maxHeartbeats 4000000 in
theorem s_X12_same_136 (G : GG)   (this : Nat) (y0 : Int32) : Sn G yX12_same cX12_same 6 (some FieldType.int) 8 181 (fun v : Int32 => some (.int v)) (X12_same_136  this y0) 136 [none, none, none, none, none, none] [.int y0, va_rf (some this)] := by
  unfold X12_same_136
  refine sn_cV (r := (some this)) (st := []) (As := [.int y0]) (st2 := (fun v => .int v :: [])) (pc' := 139) ci_13 (fun t => c_X12_fine G t y0) cw_X12_fine rfl rfl tw1435 pw45 tw1437 rfl rfl cat_nil rfl (fun _ => rfl) dX12_same_136 rfl (fun v1 => ?_)
  exact sn_iret dX12_same_139 rfl rfl
set_option maxRecDepth 100000 in
set_option maxHeartbeats 4000000 in
theorem s_X12_same_125 (G : GG)   (this : Nat) (x4 : Int32) : Sn G yX12_same cX12_same 6 (some FieldType.int) 8 181 (fun v : Int32 => some (.int v)) (X12_same_125  this x4) 125 [some (va_rf (some this)), none, none, none, some (.int x4), none] [] := by
  unfold X12_same_125
  refine sn_aload_n (v := (some this)) (pc' := 126) dX12_same_125 rfl rfl rfl ?_
  refine sn_iload (v := x4) (pc' := 128) dX12_same_126 rfl rfl ?_
  refine sn_if_eq (pt := 135) (pf := 131) dX12_same_128 rfl rfl ?_ ?_
  · refine sn_iconst (v := (0 : Int32)) (pc' := 136) dX12_same_135 rfl (by decide) ?_
    exact sn_weak (le_n (le_n (le_n (le_n (le_n (le_n le_e)))))) (s_X12_same_136 G this (0 : Int32))
  · refine sn_iconst (v := (1 : Int32)) (pc' := 132) dX12_same_131 rfl (by decide) ?_
    refine sn_goto (pc' := 136) dX12_same_132 rfl ?_
    exact sn_weak (le_n (le_n (le_n (le_n (le_n (le_n le_e)))))) (s_X12_same_136 G this (1 : Int32))
set_option maxRecDepth 100000 in
set_option maxHeartbeats 4000000 in
theorem s_X12_same_84_st (G : GG)   (k84 : Nat → Int32 → Int32 → Int32 → MM Int32) (hk84 : ∀ (this : Nat) (x3 : Int32) (x4 : Int32) (x5 : Int32), Sn G yX12_same cX12_same 6 (some FieldType.int) 8 181 (fun v : Int32 => some (.int v)) (k84 this x3 x4 x5) 84 [some (va_rf (some this)), none, none, some (.int x3), some (.int x4), some (.int x5)] []) (this : Nat) (x3 : Int32) (x4 : Int32) (x5 : Int32) : Sn G yX12_same cX12_same 6 (some FieldType.int) 8 181 (fun v : Int32 => some (.int v)) (X12_same_84_st  k84 this x3 x4 x5) 84 [some (va_rf (some this)), none, none, some (.int x3), some (.int x4), some (.int x5)] [] := by
  unfold X12_same_84_st
  refine sn_iload (v := x5) (pc' := 86) dX12_same_84 rfl rfl ?_
  refine sn_iload_n (v := x3) (pc' := 87) dX12_same_86 rfl rfl rfl ?_
  refine sn_ic_ge (pt := 125) (pf := 90) dX12_same_87 rfl rfl ?_ ?_
  · exact sn_weak (le_s (le_n (le_n (le_n (le_s (le_n le_e)))))) (s_X12_same_125 G this x4)
  · refine sn_iload (v := x4) (pc' := 92) dX12_same_90 rfl rfl ?_
    refine sn_if_eq (pt := 125) (pf := 95) dX12_same_92 rfl rfl ?_ ?_
    · exact sn_weak (le_s (le_n (le_n (le_n (le_s (le_n le_e)))))) (s_X12_same_125 G this x4)
    · refine sn_aload_n (v := (some this)) (pc' := 96) dX12_same_95 rfl rfl rfl ?_
      refine sn_gR (k := 38) (pc' := 99) ci_13 rfl (Or.inl tw1316) dX12_same_96 rfl (fun v1 => ?_)
      refine sn_iload (v := x5) (pc' := 101) dX12_same_99 rfl rfl ?_
      refine sn_aI (pc' := 102) dX12_same_101 rfl (fun v2 => ?_)
      refine sn_aload_n (v := (some this)) (pc' := 103) dX12_same_102 rfl rfl rfl ?_
      refine sn_gR (k := 36) (pc' := 106) ci_13 rfl (Or.inl tw1314) dX12_same_103 rfl (fun v3 => ?_)
      refine sn_iload (v := x5) (pc' := 108) dX12_same_106 rfl rfl ?_
      refine sn_aI (pc' := 109) dX12_same_108 rfl (fun v4 => ?_)
      refine sn_ic_ne (pt := 116) (pf := 112) dX12_same_109 rfl rfl ?_ ?_
      · refine sn_iconst (v := (1 : Int32)) (pc' := 113) dX12_same_112 rfl (by decide) ?_
        refine sn_goto (pc' := 117) dX12_same_113 rfl ?_
        exact sn_weak (le_s (le_n (le_n (le_s (le_n (le_s le_e)))))) (s_X12_same_117 G k84 hk84 this x3 x5 (1 : Int32))
      · refine sn_iconst (v := (0 : Int32)) (pc' := 117) dX12_same_116 rfl (by decide) ?_
        exact sn_weak (le_s (le_n (le_n (le_s (le_n (le_s le_e)))))) (s_X12_same_117 G k84 hk84 this x3 x5 (0 : Int32))
set_option maxRecDepth 100000 in
set_option maxHeartbeats 4000000 in
theorem s_X12_same_84 (G : GG)   : ∀ (n : Nat) (this : Nat) (x3 : Int32) (x4 : Int32) (x5 : Int32), Sn G yX12_same cX12_same 6 (some FieldType.int) 8 181 (fun v : Int32 => some (.int v)) (X12_same_84  n this x3 x4 x5) 84 [some (va_rf (some this)), none, none, some (.int x3), some (.int x4), some (.int x5)] [] := by
  intro n
  induction n with
  | zero => intro this x3 x4 x5; exact sn_mf
  | succ n ih => intro this x3 x4 x5; exact s_X12_same_84_st G   (X12_same_84  n) ih this x3 x4 x5
set_option maxRecDepth 100000 in
set_option maxHeartbeats 4000000 in
theorem s_X12_same_79 (G : GG)   (this : Nat) (x3 : Int32) (y0 : Int32) : Sn G yX12_same cX12_same 6 (some FieldType.int) 8 181 (fun v : Int32 => some (.int v)) (X12_same_79  this x3 y0) 79 [some (va_rf (some this)), none, none, some (.int x3), none, none] [.int y0] := by
  unfold X12_same_79
  refine sn_istore (v := y0) (L' := [some (va_rf (some this)), none, none, some (.int x3), some (.int y0), none]) (pc' := 81) dX12_same_79 rfl rfl rfl ?_
  refine sn_iconst (v := (0 : Int32)) (pc' := 82) dX12_same_81 rfl (by decide) ?_
  refine sn_istore (v := (0 : Int32)) (L' := [some (va_rf (some this)), none, none, some (.int x3), some (.int y0), some (.int (0 : Int32))]) (pc' := 84) dX12_same_82 rfl rfl rfl ?_
  exact sn_weak (le_s (le_n (le_n (le_s (le_s (le_s le_e)))))) (s_X12_same_84 G LFU this x3 y0 (0 : Int32))
set_option maxRecDepth 100000 in
set_option maxHeartbeats 4000000 in
theorem s_X12_same_61 (G : GG)   (this : Nat) (x2 : Int32) (x3 : Int32) : Sn G yX12_same cX12_same 6 (some FieldType.int) 8 181 (fun v : Int32 => some (.int v)) (X12_same_61  this x2 x3) 61 [some (va_rf (some this)), none, some (.int x2), some (.int x3), none, none] [] := by
  unfold X12_same_61
  refine sn_aload_n (v := (some this)) (pc' := 62) dX12_same_61 rfl rfl rfl ?_
  refine sn_iload_n (v := x2) (pc' := 63) dX12_same_62 rfl rfl rfl ?_
  refine sn_cV (r := (some this)) (st := []) (As := [.int x2]) (st2 := (fun _ => [])) (pc' := 66) ci_13 (fun t => c_X12_writeBook G t x2) cw_X12_writeBook rfl rfl tw1626 pw76 tw1628 rfl rfl cat_nil rfl (fun _ => rfl) dX12_same_63 rfl (fun _ => ?_)
  refine sn_aload_n (v := (some this)) (pc' := 67) dX12_same_66 rfl rfl rfl ?_
  refine sn_gI (k := 37) (pc' := 70) ci_13 rfl (Or.inl tw1315) dX12_same_67 rfl (fun v1 => ?_)
  refine sn_iload_n (v := x3) (pc' := 71) dX12_same_70 rfl rfl rfl ?_
  refine sn_ic_ne (pt := 78) (pf := 74) dX12_same_71 rfl rfl ?_ ?_
  · refine sn_iconst (v := (1 : Int32)) (pc' := 75) dX12_same_74 rfl (by decide) ?_
    refine sn_goto (pc' := 79) dX12_same_75 rfl ?_
    exact sn_weak (le_s (le_n (le_n (le_s (le_n (le_n le_e)))))) (s_X12_same_79 G this x3 (1 : Int32))
  · refine sn_iconst (v := (0 : Int32)) (pc' := 79) dX12_same_78 rfl (by decide) ?_
    exact sn_weak (le_s (le_n (le_n (le_s (le_n (le_n le_e)))))) (s_X12_same_79 G this x3 (0 : Int32))
set_option maxRecDepth 100000 in
set_option maxHeartbeats 4000000 in
theorem s_X12_same_35_st (G : GG)   (k35 : Nat → Int32 → Int32 → Int32 → MM Int32) (hk35 : ∀ (this : Nat) (x2 : Int32) (x3 : Int32) (x4 : Int32), Sn G yX12_same cX12_same 6 (some FieldType.int) 8 181 (fun v : Int32 => some (.int v)) (k35 this x2 x3 x4) 35 [some (va_rf (some this)), none, some (.int x2), some (.int x3), some (.int x4), none] []) (this : Nat) (x2 : Int32) (x3 : Int32) (x4 : Int32) : Sn G yX12_same cX12_same 6 (some FieldType.int) 8 181 (fun v : Int32 => some (.int v)) (X12_same_35_st  k35 this x2 x3 x4) 35 [some (va_rf (some this)), none, some (.int x2), some (.int x3), some (.int x4), none] [] := by
  unfold X12_same_35_st
  refine sn_iload (v := x4) (pc' := 37) dX12_same_35 rfl rfl ?_
  refine sn_iload_n (v := x3) (pc' := 38) dX12_same_37 rfl rfl rfl ?_
  refine sn_ic_ge (pt := 61) (pf := 41) dX12_same_38 rfl rfl ?_ ?_
  · exact sn_weak (le_s (le_n (le_s (le_s (le_n (le_n le_e)))))) (s_X12_same_61 G this x2 x3)
  · refine sn_aload_n (v := (some this)) (pc' := 42) dX12_same_41 rfl rfl rfl ?_
    refine sn_gR (k := 38) (pc' := 45) ci_13 rfl (Or.inl tw1316) dX12_same_42 rfl (fun v1 => ?_)
    refine sn_iload (v := x4) (pc' := 47) dX12_same_45 rfl rfl ?_
    refine sn_aload_n (v := (some this)) (pc' := 48) dX12_same_47 rfl rfl rfl ?_
    refine sn_gR (k := 36) (pc' := 51) ci_13 rfl (Or.inl tw1314) dX12_same_48 rfl (fun v2 => ?_)
    refine sn_iload (v := x4) (pc' := 53) dX12_same_51 rfl rfl ?_
    refine sn_aI (pc' := 54) dX12_same_53 rfl (fun v3 => ?_)
    refine sn_sI (pc' := 55) dX12_same_54 rfl (fun _ => ?_)
    refine sn_iinc (v := x4) (w := 1) (L' := [some (va_rf (some this)), none, some (.int x2), some (.int x3), some (.int (x4 + (1 : Int32))), none]) (pc' := 58) dX12_same_55 rfl rfl rfl (by decide) rfl ?_
    refine sn_goto (pc' := 35) dX12_same_58 rfl ?_
    exact sn_weak (le_s (le_n (le_s (le_s (le_s (le_n le_e)))))) (hk35 this x2 x3 (x4 + (1 : Int32)))
set_option maxRecDepth 100000 in
set_option maxHeartbeats 4000000 in
theorem s_X12_same_35 (G : GG)   : ∀ (n : Nat) (this : Nat) (x2 : Int32) (x3 : Int32) (x4 : Int32), Sn G yX12_same cX12_same 6 (some FieldType.int) 8 181 (fun v : Int32 => some (.int v)) (X12_same_35  n this x2 x3 x4) 35 [some (va_rf (some this)), none, some (.int x2), some (.int x3), some (.int x4), none] [] := by
  intro n
  induction n with
  | zero => intro this x2 x3 x4; exact sn_mf
  | succ n ih => intro this x2 x3 x4; exact s_X12_same_35_st G   (X12_same_35  n) ih this x2 x3 x4
set_option maxRecDepth 100000 in
set_option maxHeartbeats 4000000 in
theorem s_X12_same (G : GG) (this : Nat) (a1 : Int32) (a2 : Int32) : Sn G yX12_same cX12_same 6 (some FieldType.int) 8 181 (fun v : Int32 => some (.int v)) (X12_same this a1 a2) 0 [some (va_rf (some this)), some (.int a1), some (.int a2), none, none, none] [] := by
  unfold X12_same
  refine sn_aload_n (v := (some this)) (pc' := 1) dX12_same_0 rfl rfl rfl ?_
  refine sn_iload_n (v := a1) (pc' := 2) dX12_same_1 rfl rfl rfl ?_
  refine sn_cV (r := (some this)) (st := []) (As := [.int a1]) (st2 := (fun v => .int v :: [])) (pc' := 5) ci_13 (fun t => c_X12_isBook G t a1) cw_X12_isBook rfl rfl tw1554 pw68 tw1556 rfl rfl cat_nil rfl (fun _ => rfl) dX12_same_2 rfl (fun v1 => ?_)
  refine sn_if_eq (pt := 16) (pf := 8) dX12_same_5 rfl rfl ?_ ?_
  · exact sn_weak (le_s (le_n (le_n (le_n (le_n (le_n le_e)))))) (s_X12_same_16 G this)
  · refine sn_aload_n (v := (some this)) (pc' := 9) dX12_same_8 rfl rfl rfl ?_
    refine sn_iload_n (v := a2) (pc' := 10) dX12_same_9 rfl rfl rfl ?_
    refine sn_cV (r := (some this)) (st := []) (As := [.int a2]) (st2 := (fun v => .int v :: [])) (pc' := 13) ci_13 (fun t => c_X12_isBook G t a2) cw_X12_isBook rfl rfl tw1554 pw68 tw1556 rfl rfl cat_nil rfl (fun _ => rfl) dX12_same_10 rfl (fun v2 => ?_)
    refine sn_if_ne (pt := 22) (pf := 16) dX12_same_13 rfl rfl ?_ ?_
    · exact sn_weak (le_s (le_n (le_n (le_n (le_n (le_n le_e)))))) (s_X12_same_16 G this)
    · refine sn_aload_n (v := (some this)) (pc' := 23) dX12_same_22 rfl rfl rfl ?_
      refine sn_iload_n (v := a1) (pc' := 24) dX12_same_23 rfl rfl rfl ?_
      refine sn_cV (r := (some this)) (st := []) (As := [.int a1]) (st2 := (fun _ => [])) (pc' := 27) ci_13 (fun t => c_X12_writeBook G t a1) cw_X12_writeBook rfl rfl tw1626 pw76 tw1628 rfl rfl cat_nil rfl (fun _ => rfl) dX12_same_24 rfl (fun _ => ?_)
      refine sn_aload_n (v := (some this)) (pc' := 28) dX12_same_27 rfl rfl rfl ?_
      refine sn_gI (k := 37) (pc' := 31) ci_13 rfl (Or.inl tw1315) dX12_same_28 rfl (fun v3 => ?_)
      refine sn_istore_n (v := v3) (L' := [some (va_rf (some this)), some (.int a1), some (.int a2), some (.int v3), none, none]) (pc' := 32) dX12_same_31 rfl rfl rfl rfl ?_
      refine sn_iconst (v := (0 : Int32)) (pc' := 33) dX12_same_32 rfl (by decide) ?_
      refine sn_istore (v := (0 : Int32)) (L' := [some (va_rf (some this)), some (.int a1), some (.int a2), some (.int v3), some (.int (0 : Int32)), none]) (pc' := 35) dX12_same_33 rfl rfl rfl ?_
      exact sn_weak (le_s (le_n (le_s (le_s (le_s (le_n le_e)))))) (s_X12_same_35 G LFU this a2 v3 (0 : Int32))
theorem c_X12_same (G : GG) (this : Nat) (a1 : Int32) (a2 : Int32) : Cal G yX12_same cX12_same 6 (some FieldType.int) 8 181 (fun v : Int32 => some (.int v)) (X12_same this a1 a2) [.ref this, .int a1, .int a2] :=
  Cal.of (by decide) (cat_t (cat_i (cat_i cat_nil))) rfl (sn_weak (le_s (le_s (le_s (le_z (le_z (le_z le_e)))))) (s_X12_same G this a1 a2))
theorem cw_X12_same : CW yX12_same cX12_same 6 (some FieldType.int) 2 := ⟨tw1668, tw15, by decide, by decide +kernel⟩
/-! X12_sheets -/
theorem dX12_sheets_0 : decode cX12_sheets 0 = .ok (.aload_n 0, 1) := by decide +kernel
theorem dX12_sheets_1 : decode cX12_sheets 1 = .ok (.iload_n 1, 1) := by decide +kernel
theorem dX12_sheets_2 : decode cX12_sheets 2 = .ok (.invokevirtual 333, 3) := by decide +kernel
theorem dX12_sheets_5 : decode cX12_sheets 5 = .ok (.ifCond .ne 9, 3) := by decide +kernel
theorem dX12_sheets_8 : decode cX12_sheets 8 = .ok (.aload_n 0, 1) := by decide +kernel
theorem dX12_sheets_9 : decode cX12_sheets 9 = .ok (.iconst 1, 1) := by decide +kernel
theorem dX12_sheets_10 : decode cX12_sheets 10 = .ok (.invokevirtual 193, 3) := by decide +kernel
theorem dX12_sheets_13 : decode cX12_sheets 13 = .ok (.ireturn, 1) := by decide +kernel
theorem dX12_sheets_14 : decode cX12_sheets 14 = .ok (.iload_n 2, 1) := by decide +kernel
theorem dX12_sheets_15 : decode cX12_sheets 15 = .ok (.invokestatic 363, 3) := by decide +kernel
theorem dX12_sheets_18 : decode cX12_sheets 18 = .ok (.ifCond .ne 9, 3) := by decide +kernel
theorem dX12_sheets_21 : decode cX12_sheets 21 = .ok (.aload_n 0, 1) := by decide +kernel
theorem dX12_sheets_22 : decode cX12_sheets 22 = .ok (.iconst 3, 1) := by decide +kernel
theorem dX12_sheets_23 : decode cX12_sheets 23 = .ok (.invokevirtual 193, 3) := by decide +kernel
theorem dX12_sheets_26 : decode cX12_sheets 26 = .ok (.ireturn, 1) := by decide +kernel
theorem dX12_sheets_27 : decode cX12_sheets 27 = .ok (.iconst 0, 1) := by decide +kernel
theorem dX12_sheets_28 : decode cX12_sheets 28 = .ok (.istore_n 3, 1) := by decide +kernel
theorem dX12_sheets_29 : decode cX12_sheets 29 = .ok (.iconst 0, 1) := by decide +kernel
theorem dX12_sheets_30 : decode cX12_sheets 30 = .ok (.istore 4, 2) := by decide +kernel
theorem dX12_sheets_32 : decode cX12_sheets 32 = .ok (.iload 4, 2) := by decide +kernel
theorem dX12_sheets_34 : decode cX12_sheets 34 = .ok (.aload_n 0, 1) := by decide +kernel
theorem dX12_sheets_35 : decode cX12_sheets 35 = .ok (.getfield 17, 3) := by decide +kernel
theorem dX12_sheets_38 : decode cX12_sheets 38 = .ok (.iload_n 1, 1) := by decide +kernel
theorem dX12_sheets_39 : decode cX12_sheets 39 = .ok (.iaload, 1) := by decide +kernel
theorem dX12_sheets_40 : decode cX12_sheets 40 = .ok (.if_icmp .ge 28, 3) := by decide +kernel
theorem dX12_sheets_43 : decode cX12_sheets 43 = .ok (.iload_n 3, 1) := by decide +kernel
theorem dX12_sheets_44 : decode cX12_sheets 44 = .ok (.aload_n 0, 1) := by decide +kernel
theorem dX12_sheets_45 : decode cX12_sheets 45 = .ok (.getfield 24, 3) := by decide +kernel
theorem dX12_sheets_48 : decode cX12_sheets 48 = .ok (.iload_n 1, 1) := by decide +kernel
theorem dX12_sheets_49 : decode cX12_sheets 49 = .ok (.bipush 71, 2) := by decide +kernel
theorem dX12_sheets_51 : decode cX12_sheets 51 = .ok (.imul, 1) := by decide +kernel
theorem dX12_sheets_52 : decode cX12_sheets 52 = .ok (.iload 4, 2) := by decide +kernel
theorem dX12_sheets_54 : decode cX12_sheets 54 = .ok (.iadd, 1) := by decide +kernel
theorem dX12_sheets_55 : decode cX12_sheets 55 = .ok (.iaload, 1) := by decide +kernel
theorem dX12_sheets_56 : decode cX12_sheets 56 = .ok (.iload_n 2, 1) := by decide +kernel
theorem dX12_sheets_57 : decode cX12_sheets 57 = .ok (.invokestatic 366, 3) := by decide +kernel
theorem dX12_sheets_60 : decode cX12_sheets 60 = .ok (.iadd, 1) := by decide +kernel
theorem dX12_sheets_61 : decode cX12_sheets 61 = .ok (.istore_n 3, 1) := by decide +kernel
theorem dX12_sheets_62 : decode cX12_sheets 62 = .ok (.iinc 4 1, 3) := by decide +kernel
theorem dX12_sheets_65 : decode cX12_sheets 65 = .ok (.goto (-33), 3) := by decide +kernel
theorem dX12_sheets_68 : decode cX12_sheets 68 = .ok (.aload_n 0, 1) := by decide +kernel
theorem dX12_sheets_69 : decode cX12_sheets 69 = .ok (.iload_n 3, 1) := by decide +kernel
theorem dX12_sheets_70 : decode cX12_sheets 70 = .ok (.invokevirtual 199, 3) := by decide +kernel
theorem dX12_sheets_73 : decode cX12_sheets 73 = .ok (.ireturn, 1) := by decide +kernel
def X12_sheets_68  (this : Nat) (x3 : Int32) : MM Int32 :=
  mb (wc 13 (some this) fun t => X12_fine t x3) fun v1 =>
  mr v1
def X12_sheets_32_st  (k32 : Nat → Int32 → Int32 → Int32 → Int32 → MM Int32) (this : Nat) (x1 : Int32) (x2 : Int32) (x3 : Int32) (x4 : Int32) : MM Int32 :=
  mb (gR 13 (some this) 6) fun v1 =>
  mb (aI v1 x1) fun v2 =>
  if v2 ≤ x4 then ((X12_sheets_68 this x3)) else (mb (gR 13 (some this) 8) fun v3 =>
  mb (aI v3 ((x1 * (71 : Int32)) + x4)) fun v4 =>
  mb (X12_sheetsOf v4 x2) fun v5 =>
  (k32 this x1 x2 (x3 + v5) (x4 + (1 : Int32))))
def X12_sheets_32  : Nat → Nat → Int32 → Int32 → Int32 → Int32 → MM Int32
  | 0 => fun _ _ _ _ _ => mf
  | n + 1 => fun this x1 x2 x3 x4 => X12_sheets_32_st  (X12_sheets_32  n) this x1 x2 x3 x4
def X12_sheets (this : Nat) (a1 : Int32) (a2 : Int32) : MM Int32 :=
  mb (wc 13 (some this) fun t => X12_isBook t a1) fun v1 =>
  if v1 = 0 then (mb (wc 13 (some this) fun t => X12_no t (1 : Int32)) fun v2 =>
  mr v2) else (mb (X12_isFormat a2) fun v3 =>
  if v3 = 0 then (mb (wc 13 (some this) fun t => X12_no t (3 : Int32)) fun v4 =>
  mr v4) else ((X12_sheets_32 LFU this a1 a2 (0 : Int32) (0 : Int32))))
set_option maxRecDepth 100000 in
set_option maxHeartbeats 4000000 in
theorem s_X12_sheets_68 (G : GG)   (this : Nat) (x3 : Int32) : Sn G yX12_sheets cX12_sheets 5 (some FieldType.int) 3 56 (fun v : Int32 => some (.int v)) (X12_sheets_68  this x3) 68 [some (va_rf (some this)), none, none, some (.int x3), none] [] := by
  unfold X12_sheets_68
  refine sn_aload_n (v := (some this)) (pc' := 69) dX12_sheets_68 rfl rfl rfl ?_
  refine sn_iload_n (v := x3) (pc' := 70) dX12_sheets_69 rfl rfl rfl ?_
  refine sn_cV (r := (some this)) (st := []) (As := [.int x3]) (st2 := (fun v => .int v :: [])) (pc' := 73) ci_13 (fun t => c_X12_fine G t x3) cw_X12_fine rfl rfl tw1435 pw45 tw1437 rfl rfl cat_nil rfl (fun _ => rfl) dX12_sheets_70 rfl (fun v1 => ?_)
  exact sn_iret dX12_sheets_73 rfl rfl
set_option maxRecDepth 100000 in
set_option maxHeartbeats 4000000 in
theorem s_X12_sheets_32_st (G : GG)   (k32 : Nat → Int32 → Int32 → Int32 → Int32 → MM Int32) (hk32 : ∀ (this : Nat) (x1 : Int32) (x2 : Int32) (x3 : Int32) (x4 : Int32), Sn G yX12_sheets cX12_sheets 5 (some FieldType.int) 3 56 (fun v : Int32 => some (.int v)) (k32 this x1 x2 x3 x4) 32 [some (va_rf (some this)), some (.int x1), some (.int x2), some (.int x3), some (.int x4)] []) (this : Nat) (x1 : Int32) (x2 : Int32) (x3 : Int32) (x4 : Int32) : Sn G yX12_sheets cX12_sheets 5 (some FieldType.int) 3 56 (fun v : Int32 => some (.int v)) (X12_sheets_32_st  k32 this x1 x2 x3 x4) 32 [some (va_rf (some this)), some (.int x1), some (.int x2), some (.int x3), some (.int x4)] [] := by
  unfold X12_sheets_32_st
  refine sn_iload (v := x4) (pc' := 34) dX12_sheets_32 rfl rfl ?_
  refine sn_aload_n (v := (some this)) (pc' := 35) dX12_sheets_34 rfl rfl rfl ?_
  refine sn_gR (k := 6) (pc' := 38) ci_13 rfl (Or.inl tw1284) dX12_sheets_35 rfl (fun v1 => ?_)
  refine sn_iload_n (v := x1) (pc' := 39) dX12_sheets_38 rfl rfl rfl ?_
  refine sn_aI (pc' := 40) dX12_sheets_39 rfl (fun v2 => ?_)
  refine sn_ic_ge (pt := 68) (pf := 43) dX12_sheets_40 rfl rfl ?_ ?_
  · exact sn_weak (le_s (le_n (le_n (le_s (le_n le_e))))) (s_X12_sheets_68 G this x3)
  · refine sn_iload_n (v := x3) (pc' := 44) dX12_sheets_43 rfl rfl rfl ?_
    refine sn_aload_n (v := (some this)) (pc' := 45) dX12_sheets_44 rfl rfl rfl ?_
    refine sn_gR (k := 8) (pc' := 48) ci_13 rfl (Or.inl tw1286) dX12_sheets_45 rfl (fun v3 => ?_)
    refine sn_iload_n (v := x1) (pc' := 49) dX12_sheets_48 rfl rfl rfl ?_
    refine sn_bipush (v := (71 : Int32)) (pc' := 51) dX12_sheets_49 rfl (by decide) ?_
    refine sn_imul (pc' := 52) dX12_sheets_51 rfl ?_
    refine sn_iload (v := x4) (pc' := 54) dX12_sheets_52 rfl rfl ?_
    refine sn_iadd (pc' := 55) dX12_sheets_54 rfl ?_
    refine sn_aI (pc' := 56) dX12_sheets_55 rfl (fun v4 => ?_)
    refine sn_iload_n (v := x2) (pc' := 57) dX12_sheets_56 rfl rfl rfl ?_
    refine sn_cS (st := [.int x3]) (As := [.int v4, .int x2]) (st2 := (fun v => .int v :: [.int x3])) (pc' := 60) (c_X12_sheetsOf G v4 x2) cw_X12_sheetsOf rfl rfl tw1676 tw1677 rfl rfl (cat_i cat_nil) rfl (fun _ => rfl) dX12_sheets_57 rfl (fun v5 => ?_)
    refine sn_iadd (pc' := 61) dX12_sheets_60 rfl ?_
    refine sn_istore_n (v := (x3 + v5)) (L' := [some (va_rf (some this)), some (.int x1), some (.int x2), some (.int (x3 + v5)), some (.int x4)]) (pc' := 62) dX12_sheets_61 rfl rfl rfl rfl ?_
    refine sn_iinc (v := x4) (w := 1) (L' := [some (va_rf (some this)), some (.int x1), some (.int x2), some (.int (x3 + v5)), some (.int (x4 + (1 : Int32)))]) (pc' := 65) dX12_sheets_62 rfl rfl rfl (by decide) rfl ?_
    refine sn_goto (pc' := 32) dX12_sheets_65 rfl ?_
    exact sn_weak (le_s (le_s (le_s (le_s (le_s le_e))))) (hk32 this x1 x2 (x3 + v5) (x4 + (1 : Int32)))
set_option maxRecDepth 100000 in
set_option maxHeartbeats 4000000 in
theorem s_X12_sheets_32 (G : GG)   : ∀ (n : Nat) (this : Nat) (x1 : Int32) (x2 : Int32) (x3 : Int32) (x4 : Int32), Sn G yX12_sheets cX12_sheets 5 (some FieldType.int) 3 56 (fun v : Int32 => some (.int v)) (X12_sheets_32  n this x1 x2 x3 x4) 32 [some (va_rf (some this)), some (.int x1), some (.int x2), some (.int x3), some (.int x4)] [] := by
  intro n
  induction n with
  | zero => intro this x1 x2 x3 x4; exact sn_mf
  | succ n ih => intro this x1 x2 x3 x4; exact s_X12_sheets_32_st G   (X12_sheets_32  n) ih this x1 x2 x3 x4
set_option maxRecDepth 100000 in
set_option maxHeartbeats 4000000 in
theorem s_X12_sheets (G : GG) (this : Nat) (a1 : Int32) (a2 : Int32) : Sn G yX12_sheets cX12_sheets 5 (some FieldType.int) 3 56 (fun v : Int32 => some (.int v)) (X12_sheets this a1 a2) 0 [some (va_rf (some this)), some (.int a1), some (.int a2), none, none] [] := by
  unfold X12_sheets
  refine sn_aload_n (v := (some this)) (pc' := 1) dX12_sheets_0 rfl rfl rfl ?_
  refine sn_iload_n (v := a1) (pc' := 2) dX12_sheets_1 rfl rfl rfl ?_
  refine sn_cV (r := (some this)) (st := []) (As := [.int a1]) (st2 := (fun v => .int v :: [])) (pc' := 5) ci_13 (fun t => c_X12_isBook G t a1) cw_X12_isBook rfl rfl tw1554 pw68 tw1556 rfl rfl cat_nil rfl (fun _ => rfl) dX12_sheets_2 rfl (fun v1 => ?_)
  refine sn_if_ne (pt := 14) (pf := 8) dX12_sheets_5 rfl rfl ?_ ?_
  · refine sn_aload_n (v := (some this)) (pc' := 9) dX12_sheets_8 rfl rfl rfl ?_
    refine sn_iconst (v := (1 : Int32)) (pc' := 10) dX12_sheets_9 rfl (by decide) ?_
    refine sn_cV (r := (some this)) (st := []) (As := [.int (1 : Int32)]) (st2 := (fun v => .int v :: [])) (pc' := 13) ci_13 (fun t => c_X12_no G t (1 : Int32)) cw_X12_no rfl rfl tw1431 pw44 tw1433 rfl rfl cat_nil rfl (fun _ => rfl) dX12_sheets_10 rfl (fun v2 => ?_)
    exact sn_iret dX12_sheets_13 rfl rfl
  · refine sn_iload_n (v := a2) (pc' := 15) dX12_sheets_14 rfl rfl rfl ?_
    refine sn_cS (st := []) (As := [.int a2]) (st2 := (fun v => .int v :: [])) (pc' := 18) (c_X12_isFormat G a2) cw_X12_isFormat rfl rfl tw1673 tw1674 rfl rfl cat_nil rfl (fun _ => rfl) dX12_sheets_15 rfl (fun v3 => ?_)
    refine sn_if_ne (pt := 27) (pf := 21) dX12_sheets_18 rfl rfl ?_ ?_
    · refine sn_aload_n (v := (some this)) (pc' := 22) dX12_sheets_21 rfl rfl rfl ?_
      refine sn_iconst (v := (3 : Int32)) (pc' := 23) dX12_sheets_22 rfl (by decide) ?_
      refine sn_cV (r := (some this)) (st := []) (As := [.int (3 : Int32)]) (st2 := (fun v => .int v :: [])) (pc' := 26) ci_13 (fun t => c_X12_no G t (3 : Int32)) cw_X12_no rfl rfl tw1431 pw44 tw1433 rfl rfl cat_nil rfl (fun _ => rfl) dX12_sheets_23 rfl (fun v4 => ?_)
      exact sn_iret dX12_sheets_26 rfl rfl
    · refine sn_iconst (v := (0 : Int32)) (pc' := 28) dX12_sheets_27 rfl (by decide) ?_
      refine sn_istore_n (v := (0 : Int32)) (L' := [some (va_rf (some this)), some (.int a1), some (.int a2), some (.int (0 : Int32)), none]) (pc' := 29) dX12_sheets_28 rfl rfl rfl rfl ?_
      refine sn_iconst (v := (0 : Int32)) (pc' := 30) dX12_sheets_29 rfl (by decide) ?_
      refine sn_istore (v := (0 : Int32)) (L' := [some (va_rf (some this)), some (.int a1), some (.int a2), some (.int (0 : Int32)), some (.int (0 : Int32))]) (pc' := 32) dX12_sheets_30 rfl rfl rfl ?_
      exact sn_weak (le_s (le_s (le_s (le_s (le_s le_e))))) (s_X12_sheets_32 G LFU this a1 a2 (0 : Int32) (0 : Int32))
theorem c_X12_sheets (G : GG) (this : Nat) (a1 : Int32) (a2 : Int32) : Cal G yX12_sheets cX12_sheets 5 (some FieldType.int) 3 56 (fun v : Int32 => some (.int v)) (X12_sheets this a1 a2) [.ref this, .int a1, .int a2] :=
  Cal.of (by decide) (cat_t (cat_i (cat_i cat_nil))) rfl (sn_weak (le_s (le_s (le_s (le_z (le_z le_e))))) (s_X12_sheets G this a1 a2))
theorem cw_X12_sheets : CW yX12_sheets cX12_sheets 5 (some FieldType.int) 2 := ⟨tw1672, tw15, by decide, by decide +kernel⟩
/-! X12_sheet -/
theorem dX12_sheet_0 : decode cX12_sheet 0 = .ok (.aload_n 0, 1) := by decide +kernel
theorem dX12_sheet_1 : decode cX12_sheet 1 = .ok (.iload_n 1, 1) := by decide +kernel
theorem dX12_sheet_2 : decode cX12_sheet 2 = .ok (.iload_n 2, 1) := by decide +kernel
theorem dX12_sheet_3 : decode cX12_sheet 3 = .ok (.invokevirtual 354, 3) := by decide +kernel
theorem dX12_sheet_6 : decode cX12_sheet 6 = .ok (.ifCond .ne 9, 3) := by decide +kernel
theorem dX12_sheet_9 : decode cX12_sheet 9 = .ok (.aload_n 0, 1) := by decide +kernel
theorem dX12_sheet_10 : decode cX12_sheet 10 = .ok (.iconst 1, 1) := by decide +kernel
theorem dX12_sheet_11 : decode cX12_sheet 11 = .ok (.invokevirtual 193, 3) := by decide +kernel
theorem dX12_sheet_14 : decode cX12_sheet 14 = .ok (.ireturn, 1) := by decide +kernel
theorem dX12_sheet_15 : decode cX12_sheet 15 = .ok (.iload_n 3, 1) := by decide +kernel
theorem dX12_sheet_16 : decode cX12_sheet 16 = .ok (.invokestatic 363, 3) := by decide +kernel
theorem dX12_sheet_19 : decode cX12_sheet 19 = .ok (.ifCond .eq 13, 3) := by decide +kernel
theorem dX12_sheet_22 : decode cX12_sheet 22 = .ok (.iload 4, 2) := by decide +kernel
theorem dX12_sheet_24 : decode cX12_sheet 24 = .ok (.iconst 0, 1) := by decide +kernel
theorem dX12_sheet_25 : decode cX12_sheet 25 = .ok (.iconst 1, 1) := by decide +kernel
theorem dX12_sheet_26 : decode cX12_sheet 26 = .ok (.invokestatic 10, 3) := by decide +kernel
theorem dX12_sheet_29 : decode cX12_sheet 29 = .ok (.ifCond .ne 9, 3) := by decide +kernel
theorem dX12_sheet_32 : decode cX12_sheet 32 = .ok (.aload_n 0, 1) := by decide +kernel
theorem dX12_sheet_33 : decode cX12_sheet 33 = .ok (.iconst 3, 1) := by decide +kernel
theorem dX12_sheet_34 : decode cX12_sheet 34 = .ok (.invokevirtual 193, 3) := by decide +kernel
theorem dX12_sheet_37 : decode cX12_sheet 37 = .ok (.ireturn, 1) := by decide +kernel
theorem dX12_sheet_38 : decode cX12_sheet 38 = .ok (.aload_n 0, 1) := by decide +kernel
theorem dX12_sheet_39 : decode cX12_sheet 39 = .ok (.iload_n 1, 1) := by decide +kernel
theorem dX12_sheet_40 : decode cX12_sheet 40 = .ok (.iload_n 2, 1) := by decide +kernel
theorem dX12_sheet_41 : decode cX12_sheet 41 = .ok (.invokevirtual 49, 3) := by decide +kernel
theorem dX12_sheet_44 : decode cX12_sheet 44 = .ok (.ifCond .ne 9, 3) := by decide +kernel
theorem dX12_sheet_47 : decode cX12_sheet 47 = .ok (.aload_n 0, 1) := by decide +kernel
theorem dX12_sheet_48 : decode cX12_sheet 48 = .ok (.iconst (-1), 1) := by decide +kernel
theorem dX12_sheet_49 : decode cX12_sheet 49 = .ok (.invokevirtual 199, 3) := by decide +kernel
theorem dX12_sheet_52 : decode cX12_sheet 52 = .ok (.ireturn, 1) := by decide +kernel
theorem dX12_sheet_53 : decode cX12_sheet 53 = .ok (.iload_n 1, 1) := by decide +kernel
theorem dX12_sheet_54 : decode cX12_sheet 54 = .ok (.sipush 400, 3) := by decide +kernel
theorem dX12_sheet_57 : decode cX12_sheet 57 = .ok (.imul, 1) := by decide +kernel
theorem dX12_sheet_58 : decode cX12_sheet 58 = .ok (.iload_n 2, 1) := by decide +kernel
theorem dX12_sheet_59 : decode cX12_sheet 59 = .ok (.iadd, 1) := by decide +kernel
theorem dX12_sheet_60 : decode cX12_sheet 60 = .ok (.istore 5, 2) := by decide +kernel
theorem dX12_sheet_62 : decode cX12_sheet 62 = .ok (.aload_n 0, 1) := by decide +kernel
theorem dX12_sheet_63 : decode cX12_sheet 63 = .ok (.getfield 24, 3) := by decide +kernel
theorem dX12_sheet_66 : decode cX12_sheet 66 = .ok (.iload_n 1, 1) := by decide +kernel
theorem dX12_sheet_67 : decode cX12_sheet 67 = .ok (.bipush 71, 2) := by decide +kernel
theorem dX12_sheet_69 : decode cX12_sheet 69 = .ok (.imul, 1) := by decide +kernel
theorem dX12_sheet_70 : decode cX12_sheet 70 = .ok (.aload_n 0, 1) := by decide +kernel
theorem dX12_sheet_71 : decode cX12_sheet 71 = .ok (.getfield 37, 3) := by decide +kernel
theorem dX12_sheet_74 : decode cX12_sheet 74 = .ok (.iload 5, 2) := by decide +kernel
theorem dX12_sheet_76 : decode cX12_sheet 76 = .ok (.iaload, 1) := by decide +kernel
theorem dX12_sheet_77 : decode cX12_sheet 77 = .ok (.iadd, 1) := by decide +kernel
theorem dX12_sheet_78 : decode cX12_sheet 78 = .ok (.iaload, 1) := by decide +kernel
theorem dX12_sheet_79 : decode cX12_sheet 79 = .ok (.istore 6, 2) := by decide +kernel
theorem dX12_sheet_81 : decode cX12_sheet 81 = .ok (.iload 4, 2) := by decide +kernel
theorem dX12_sheet_83 : decode cX12_sheet 83 = .ok (.iconst 1, 1) := by decide +kernel
theorem dX12_sheet_84 : decode cX12_sheet 84 = .ok (.if_icmp .ne 21, 3) := by decide +kernel
theorem dX12_sheet_87 : decode cX12_sheet 87 = .ok (.aload_n 0, 1) := by decide +kernel
theorem dX12_sheet_88 : decode cX12_sheet 88 = .ok (.iload 6, 2) := by decide +kernel
theorem dX12_sheet_90 : decode cX12_sheet 90 = .ok (.aload_n 0, 1) := by decide +kernel
theorem dX12_sheet_91 : decode cX12_sheet 91 = .ok (.getfield 40, 3) := by decide +kernel
theorem dX12_sheet_94 : decode cX12_sheet 94 = .ok (.iload 5, 2) := by decide +kernel
theorem dX12_sheet_96 : decode cX12_sheet 96 = .ok (.iaload, 1) := by decide +kernel
theorem dX12_sheet_97 : decode cX12_sheet 97 = .ok (.iload_n 3, 1) := by decide +kernel
theorem dX12_sheet_98 : decode cX12_sheet 98 = .ok (.invokestatic 369, 3) := by decide +kernel
theorem dX12_sheet_101 : decode cX12_sheet 101 = .ok (.invokevirtual 199, 3) := by decide +kernel
theorem dX12_sheet_104 : decode cX12_sheet 104 = .ok (.ireturn, 1) := by decide +kernel
theorem dX12_sheet_105 : decode cX12_sheet 105 = .ok (.iload 6, 2) := by decide +kernel
theorem dX12_sheet_107 : decode cX12_sheet 107 = .ok (.aload_n 0, 1) := by decide +kernel
theorem dX12_sheet_108 : decode cX12_sheet 108 = .ok (.getfield 40, 3) := by decide +kernel
theorem dX12_sheet_111 : decode cX12_sheet 111 = .ok (.iload 5, 2) := by decide +kernel
theorem dX12_sheet_113 : decode cX12_sheet 113 = .ok (.iaload, 1) := by decide +kernel
theorem dX12_sheet_114 : decode cX12_sheet 114 = .ok (.iload_n 3, 1) := by decide +kernel
theorem dX12_sheet_115 : decode cX12_sheet 115 = .ok (.invokestatic 233, 3) := by decide +kernel
theorem dX12_sheet_118 : decode cX12_sheet 118 = .ok (.istore 7, 2) := by decide +kernel
theorem dX12_sheet_120 : decode cX12_sheet 120 = .ok (.iconst 0, 1) := by decide +kernel
theorem dX12_sheet_121 : decode cX12_sheet 121 = .ok (.istore 8, 2) := by decide +kernel
theorem dX12_sheet_123 : decode cX12_sheet 123 = .ok (.iload 8, 2) := by decide +kernel
theorem dX12_sheet_125 : decode cX12_sheet 125 = .ok (.aload_n 0, 1) := by decide +kernel
theorem dX12_sheet_126 : decode cX12_sheet 126 = .ok (.getfield 37, 3) := by decide +kernel
theorem dX12_sheet_129 : decode cX12_sheet 129 = .ok (.iload 5, 2) := by decide +kernel
theorem dX12_sheet_131 : decode cX12_sheet 131 = .ok (.iaload, 1) := by decide +kernel
theorem dX12_sheet_132 : decode cX12_sheet 132 = .ok (.if_icmp .ge 30, 3) := by decide +kernel
theorem dX12_sheet_135 : decode cX12_sheet 135 = .ok (.iload 7, 2) := by decide +kernel
theorem dX12_sheet_137 : decode cX12_sheet 137 = .ok (.aload_n 0, 1) := by decide +kernel
theorem dX12_sheet_138 : decode cX12_sheet 138 = .ok (.getfield 24, 3) := by decide +kernel
theorem dX12_sheet_141 : decode cX12_sheet 141 = .ok (.iload_n 1, 1) := by decide +kernel
theorem dX12_sheet_142 : decode cX12_sheet 142 = .ok (.bipush 71, 2) := by decide +kernel
theorem dX12_sheet_144 : decode cX12_sheet 144 = .ok (.imul, 1) := by decide +kernel
theorem dX12_sheet_145 : decode cX12_sheet 145 = .ok (.iload 8, 2) := by decide +kernel
theorem dX12_sheet_147 : decode cX12_sheet 147 = .ok (.iadd, 1) := by decide +kernel
theorem dX12_sheet_148 : decode cX12_sheet 148 = .ok (.iaload, 1) := by decide +kernel
theorem dX12_sheet_149 : decode cX12_sheet 149 = .ok (.iload_n 3, 1) := by decide +kernel
theorem dX12_sheet_150 : decode cX12_sheet 150 = .ok (.invokestatic 366, 3) := by decide +kernel
theorem dX12_sheet_153 : decode cX12_sheet 153 = .ok (.iadd, 1) := by decide +kernel
theorem dX12_sheet_154 : decode cX12_sheet 154 = .ok (.istore 7, 2) := by decide +kernel
theorem dX12_sheet_156 : decode cX12_sheet 156 = .ok (.iinc 8 1, 3) := by decide +kernel
theorem dX12_sheet_159 : decode cX12_sheet 159 = .ok (.goto (-36), 3) := by decide +kernel
theorem dX12_sheet_162 : decode cX12_sheet 162 = .ok (.aload_n 0, 1) := by decide +kernel
theorem dX12_sheet_163 : decode cX12_sheet 163 = .ok (.iload 7, 2) := by decide +kernel
theorem dX12_sheet_165 : decode cX12_sheet 165 = .ok (.invokevirtual 199, 3) := by decide +kernel
theorem dX12_sheet_168 : decode cX12_sheet 168 = .ok (.ireturn, 1) := by decide +kernel
def X12_sheet_32  (this : Nat) : MM Int32 :=
  mb (wc 13 (some this) fun t => X12_no t (3 : Int32)) fun v1 =>
  mr v1
def X12_sheet_162  (this : Nat) (x7 : Int32) : MM Int32 :=
  mb (wc 13 (some this) fun t => X12_fine t x7) fun v1 =>
  mr v1
def X12_sheet_123_st  (k123 : Nat → Int32 → Int32 → Int32 → Int32 → Int32 → MM Int32) (this : Nat) (x1 : Int32) (x3 : Int32) (x5 : Int32) (x7 : Int32) (x8 : Int32) : MM Int32 :=
  mb (gR 13 (some this) 12) fun v1 =>
  mb (aI v1 x5) fun v2 =>
  if v2 ≤ x8 then ((X12_sheet_162 this x7)) else (mb (gR 13 (some this) 8) fun v3 =>
  mb (aI v3 ((x1 * (71 : Int32)) + x8)) fun v4 =>
  mb (X12_sheetsOf v4 x3) fun v5 =>
  (k123 this x1 x3 x5 (x7 + v5) (x8 + (1 : Int32))))
def X12_sheet_123  : Nat → Nat → Int32 → Int32 → Int32 → Int32 → Int32 → MM Int32
  | 0 => fun _ _ _ _ _ _ => mf
  | n + 1 => fun this x1 x3 x5 x7 x8 => X12_sheet_123_st  (X12_sheet_123  n) this x1 x3 x5 x7 x8
def X12_sheet (this : Nat) (a1 : Int32) (a2 : Int32) (a3 : Int32) (a4 : Int32) : MM Int32 :=
  mb (wc 13 (some this) fun t => X12_isLeaf t a1 a2) fun v1 =>
  if v1 = 0 then (mb (wc 13 (some this) fun t => X12_no t (1 : Int32)) fun v2 =>
  mr v2) else (mb (X12_isFormat a3) fun v3 =>
  if v3 = 0 then ((X12_sheet_32 this)) else (mb (X12_isIn a4 (0 : Int32) (1 : Int32)) fun v4 =>
  if v4 = 0 then ((X12_sheet_32 this)) else (mb (wc 13 (some this) fun t => X12_isPlain t a1 a2) fun v5 =>
  if v5 = 0 then (mb (wc 13 (some this) fun t => X12_fine t (-1 : Int32)) fun v6 =>
  mr v6) else (mb (gR 13 (some this) 8) fun v7 =>
  mb (gR 13 (some this) 12) fun v8 =>
  mb (aI v8 ((a1 * (400 : Int32)) + a2)) fun v9 =>
  mb (aI v7 ((a1 * (71 : Int32)) + v9)) fun v10 =>
  if a4 = (1 : Int32) then (mb (gR 13 (some this) 13) fun v11 =>
  mb (aI v11 ((a1 * (400 : Int32)) + a2)) fun v12 =>
  mb (X12_numberOn v10 v12 a3) fun v13 =>
  mb (wc 13 (some this) fun t => X12_fine t v13) fun v14 =>
  mr v14) else (mb (gR 13 (some this) 13) fun v15 =>
  mb (aI v15 ((a1 * (400 : Int32)) + a2)) fun v16 =>
  mb (X12_sheetOf v10 v16 a3) fun v17 =>
  (X12_sheet_123 LFU this a1 a3 ((a1 * (400 : Int32)) + a2) v17 (0 : Int32)))))))
set_option maxRecDepth 100000 in
set_option maxHeartbeats 4000000 in
theorem s_X12_sheet_32 (G : GG)   (this : Nat) : Sn G yX12_sheet cX12_sheet 9 (some FieldType.int) 3 65 (fun v : Int32 => some (.int v)) (X12_sheet_32  this) 32 [some (va_rf (some this)), none, none, none, none, none, none, none, none] [] := by
  unfold X12_sheet_32
  refine sn_aload_n (v := (some this)) (pc' := 33) dX12_sheet_32 rfl rfl rfl ?_
  refine sn_iconst (v := (3 : Int32)) (pc' := 34) dX12_sheet_33 rfl (by decide) ?_
  refine sn_cV (r := (some this)) (st := []) (As := [.int (3 : Int32)]) (st2 := (fun v => .int v :: [])) (pc' := 37) ci_13 (fun t => c_X12_no G t (3 : Int32)) cw_X12_no rfl rfl tw1431 pw44 tw1433 rfl rfl cat_nil rfl (fun _ => rfl) dX12_sheet_34 rfl (fun v1 => ?_)
  exact sn_iret dX12_sheet_37 rfl rfl
set_option maxRecDepth 100000 in
set_option maxHeartbeats 4000000 in
theorem s_X12_sheet_162 (G : GG)   (this : Nat) (x7 : Int32) : Sn G yX12_sheet cX12_sheet 9 (some FieldType.int) 3 65 (fun v : Int32 => some (.int v)) (X12_sheet_162  this x7) 162 [some (va_rf (some this)), none, none, none, none, none, none, some (.int x7), none] [] := by
  unfold X12_sheet_162
  refine sn_aload_n (v := (some this)) (pc' := 163) dX12_sheet_162 rfl rfl rfl ?_
  refine sn_iload (v := x7) (pc' := 165) dX12_sheet_163 rfl rfl ?_
  refine sn_cV (r := (some this)) (st := []) (As := [.int x7]) (st2 := (fun v => .int v :: [])) (pc' := 168) ci_13 (fun t => c_X12_fine G t x7) cw_X12_fine rfl rfl tw1435 pw45 tw1437 rfl rfl cat_nil rfl (fun _ => rfl) dX12_sheet_165 rfl (fun v1 => ?_)
  exact sn_iret dX12_sheet_168 rfl rfl
set_option maxRecDepth 100000 in
set_option maxHeartbeats 4000000 in
theorem s_X12_sheet_123_st (G : GG)   (k123 : Nat → Int32 → Int32 → Int32 → Int32 → Int32 → MM Int32) (hk123 : ∀ (this : Nat) (x1 : Int32) (x3 : Int32) (x5 : Int32) (x7 : Int32) (x8 : Int32), Sn G yX12_sheet cX12_sheet 9 (some FieldType.int) 3 65 (fun v : Int32 => some (.int v)) (k123 this x1 x3 x5 x7 x8) 123 [some (va_rf (some this)), some (.int x1), none, some (.int x3), none, some (.int x5), none, some (.int x7), some (.int x8)] []) (this : Nat) (x1 : Int32) (x3 : Int32) (x5 : Int32) (x7 : Int32) (x8 : Int32) : Sn G yX12_sheet cX12_sheet 9 (some FieldType.int) 3 65 (fun v : Int32 => some (.int v)) (X12_sheet_123_st  k123 this x1 x3 x5 x7 x8) 123 [some (va_rf (some this)), some (.int x1), none, some (.int x3), none, some (.int x5), none, some (.int x7), some (.int x8)] [] := by
  unfold X12_sheet_123_st
  refine sn_iload (v := x8) (pc' := 125) dX12_sheet_123 rfl rfl ?_
  refine sn_aload_n (v := (some this)) (pc' := 126) dX12_sheet_125 rfl rfl rfl ?_
  refine sn_gR (k := 12) (pc' := 129) ci_13 rfl (Or.inl tw1290) dX12_sheet_126 rfl (fun v1 => ?_)
  refine sn_iload (v := x5) (pc' := 131) dX12_sheet_129 rfl rfl ?_
  refine sn_aI (pc' := 132) dX12_sheet_131 rfl (fun v2 => ?_)
  refine sn_ic_ge (pt := 162) (pf := 135) dX12_sheet_132 rfl rfl ?_ ?_
  · exact sn_weak (le_s (le_n (le_n (le_n (le_n (le_n (le_n (le_s (le_n le_e))))))))) (s_X12_sheet_162 G this x7)
  · refine sn_iload (v := x7) (pc' := 137) dX12_sheet_135 rfl rfl ?_
    refine sn_aload_n (v := (some this)) (pc' := 138) dX12_sheet_137 rfl rfl rfl ?_
    refine sn_gR (k := 8) (pc' := 141) ci_13 rfl (Or.inl tw1286) dX12_sheet_138 rfl (fun v3 => ?_)
    refine sn_iload_n (v := x1) (pc' := 142) dX12_sheet_141 rfl rfl rfl ?_
    refine sn_bipush (v := (71 : Int32)) (pc' := 144) dX12_sheet_142 rfl (by decide) ?_
    refine sn_imul (pc' := 145) dX12_sheet_144 rfl ?_
    refine sn_iload (v := x8) (pc' := 147) dX12_sheet_145 rfl rfl ?_
    refine sn_iadd (pc' := 148) dX12_sheet_147 rfl ?_
    refine sn_aI (pc' := 149) dX12_sheet_148 rfl (fun v4 => ?_)
    refine sn_iload_n (v := x3) (pc' := 150) dX12_sheet_149 rfl rfl rfl ?_
    refine sn_cS (st := [.int x7]) (As := [.int v4, .int x3]) (st2 := (fun v => .int v :: [.int x7])) (pc' := 153) (c_X12_sheetsOf G v4 x3) cw_X12_sheetsOf rfl rfl tw1676 tw1677 rfl rfl (cat_i cat_nil) rfl (fun _ => rfl) dX12_sheet_150 rfl (fun v5 => ?_)
    refine sn_iadd (pc' := 154) dX12_sheet_153 rfl ?_
    refine sn_istore (v := (x7 + v5)) (L' := [some (va_rf (some this)), some (.int x1), none, some (.int x3), none, some (.int x5), none, some (.int (x7 + v5)), some (.int x8)]) (pc' := 156) dX12_sheet_154 rfl rfl rfl ?_
    refine sn_iinc (v := x8) (w := 1) (L' := [some (va_rf (some this)), some (.int x1), none, some (.int x3), none, some (.int x5), none, some (.int (x7 + v5)), some (.int (x8 + (1 : Int32)))]) (pc' := 159) dX12_sheet_156 rfl rfl rfl (by decide) rfl ?_
    refine sn_goto (pc' := 123) dX12_sheet_159 rfl ?_
    exact sn_weak (le_s (le_s (le_n (le_s (le_n (le_s (le_n (le_s (le_s le_e))))))))) (hk123 this x1 x3 x5 (x7 + v5) (x8 + (1 : Int32)))
set_option maxRecDepth 100000 in
set_option maxHeartbeats 4000000 in
theorem s_X12_sheet_123 (G : GG)   : ∀ (n : Nat) (this : Nat) (x1 : Int32) (x3 : Int32) (x5 : Int32) (x7 : Int32) (x8 : Int32), Sn G yX12_sheet cX12_sheet 9 (some FieldType.int) 3 65 (fun v : Int32 => some (.int v)) (X12_sheet_123  n this x1 x3 x5 x7 x8) 123 [some (va_rf (some this)), some (.int x1), none, some (.int x3), none, some (.int x5), none, some (.int x7), some (.int x8)] [] := by
  intro n
  induction n with
  | zero => intro this x1 x3 x5 x7 x8; exact sn_mf
  | succ n ih => intro this x1 x3 x5 x7 x8; exact s_X12_sheet_123_st G   (X12_sheet_123  n) ih this x1 x3 x5 x7 x8
set_option maxRecDepth 100000 in
set_option maxHeartbeats 4000000 in
theorem s_X12_sheet (G : GG) (this : Nat) (a1 : Int32) (a2 : Int32) (a3 : Int32) (a4 : Int32) : Sn G yX12_sheet cX12_sheet 9 (some FieldType.int) 3 65 (fun v : Int32 => some (.int v)) (X12_sheet this a1 a2 a3 a4) 0 [some (va_rf (some this)), some (.int a1), some (.int a2), some (.int a3), some (.int a4), none, none, none, none] [] := by
  unfold X12_sheet
  refine sn_aload_n (v := (some this)) (pc' := 1) dX12_sheet_0 rfl rfl rfl ?_
  refine sn_iload_n (v := a1) (pc' := 2) dX12_sheet_1 rfl rfl rfl ?_
  refine sn_iload_n (v := a2) (pc' := 3) dX12_sheet_2 rfl rfl rfl ?_
  refine sn_cV (r := (some this)) (st := []) (As := [.int a1, .int a2]) (st2 := (fun v => .int v :: [])) (pc' := 6) ci_13 (fun t => c_X12_isLeaf G t a1 a2) cw_X12_isLeaf rfl rfl tw1610 pw73 tw1612 rfl rfl cat_nil rfl (fun _ => rfl) dX12_sheet_3 rfl (fun v1 => ?_)
  refine sn_if_ne (pt := 15) (pf := 9) dX12_sheet_6 rfl rfl ?_ ?_
  · refine sn_aload_n (v := (some this)) (pc' := 10) dX12_sheet_9 rfl rfl rfl ?_
    refine sn_iconst (v := (1 : Int32)) (pc' := 11) dX12_sheet_10 rfl (by decide) ?_
    refine sn_cV (r := (some this)) (st := []) (As := [.int (1 : Int32)]) (st2 := (fun v => .int v :: [])) (pc' := 14) ci_13 (fun t => c_X12_no G t (1 : Int32)) cw_X12_no rfl rfl tw1431 pw44 tw1433 rfl rfl cat_nil rfl (fun _ => rfl) dX12_sheet_11 rfl (fun v2 => ?_)
    exact sn_iret dX12_sheet_14 rfl rfl
  · refine sn_iload_n (v := a3) (pc' := 16) dX12_sheet_15 rfl rfl rfl ?_
    refine sn_cS (st := []) (As := [.int a3]) (st2 := (fun v => .int v :: [])) (pc' := 19) (c_X12_isFormat G a3) cw_X12_isFormat rfl rfl tw1673 tw1674 rfl rfl cat_nil rfl (fun _ => rfl) dX12_sheet_16 rfl (fun v3 => ?_)
    refine sn_if_eq (pt := 32) (pf := 22) dX12_sheet_19 rfl rfl ?_ ?_
    · exact sn_weak (le_s (le_n (le_n (le_n (le_n (le_n (le_n (le_n (le_n le_e))))))))) (s_X12_sheet_32 G this)
    · refine sn_iload (v := a4) (pc' := 24) dX12_sheet_22 rfl rfl ?_
      refine sn_iconst (v := (0 : Int32)) (pc' := 25) dX12_sheet_24 rfl (by decide) ?_
      refine sn_iconst (v := (1 : Int32)) (pc' := 26) dX12_sheet_25 rfl (by decide) ?_
      refine sn_cS (st := []) (As := [.int a4, .int (0 : Int32), .int (1 : Int32)]) (st2 := (fun v => .int v :: [])) (pc' := 29) (c_X12_isIn G a4 (0 : Int32) (1 : Int32)) cw_X12_isIn rfl rfl tw1443 tw1444 rfl rfl cat_nil rfl (fun _ => rfl) dX12_sheet_26 rfl (fun v4 => ?_)
      refine sn_if_ne (pt := 38) (pf := 32) dX12_sheet_29 rfl rfl ?_ ?_
      · exact sn_weak (le_s (le_n (le_n (le_n (le_n (le_n (le_n (le_n (le_n le_e))))))))) (s_X12_sheet_32 G this)
      · refine sn_aload_n (v := (some this)) (pc' := 39) dX12_sheet_38 rfl rfl rfl ?_
        refine sn_iload_n (v := a1) (pc' := 40) dX12_sheet_39 rfl rfl rfl ?_
        refine sn_iload_n (v := a2) (pc' := 41) dX12_sheet_40 rfl rfl rfl ?_
        refine sn_cV (r := (some this)) (st := []) (As := [.int a1, .int a2]) (st2 := (fun v => .int v :: [])) (pc' := 44) ci_13 (fun t => c_X12_isPlain G t a1 a2) cw_X12_isPlain rfl rfl tw1614 pw74 tw1616 rfl rfl cat_nil rfl (fun _ => rfl) dX12_sheet_41 rfl (fun v5 => ?_)
        refine sn_if_ne (pt := 53) (pf := 47) dX12_sheet_44 rfl rfl ?_ ?_
        · refine sn_aload_n (v := (some this)) (pc' := 48) dX12_sheet_47 rfl rfl rfl ?_
          refine sn_iconst (v := (-1 : Int32)) (pc' := 49) dX12_sheet_48 rfl (by decide) ?_
          refine sn_cV (r := (some this)) (st := []) (As := [.int (-1 : Int32)]) (st2 := (fun v => .int v :: [])) (pc' := 52) ci_13 (fun t => c_X12_fine G t (-1 : Int32)) cw_X12_fine rfl rfl tw1435 pw45 tw1437 rfl rfl cat_nil rfl (fun _ => rfl) dX12_sheet_49 rfl (fun v6 => ?_)
          exact sn_iret dX12_sheet_52 rfl rfl
        · refine sn_iload_n (v := a1) (pc' := 54) dX12_sheet_53 rfl rfl rfl ?_
          refine sn_sipush (v := (400 : Int32)) (pc' := 57) dX12_sheet_54 rfl (by decide) ?_
          refine sn_imul (pc' := 58) dX12_sheet_57 rfl ?_
          refine sn_iload_n (v := a2) (pc' := 59) dX12_sheet_58 rfl rfl rfl ?_
          refine sn_iadd (pc' := 60) dX12_sheet_59 rfl ?_
          refine sn_istore (v := ((a1 * (400 : Int32)) + a2)) (L' := [some (va_rf (some this)), some (.int a1), some (.int a2), some (.int a3), some (.int a4), some (.int ((a1 * (400 : Int32)) + a2)), none, none, none]) (pc' := 62) dX12_sheet_60 rfl rfl rfl ?_
          refine sn_aload_n (v := (some this)) (pc' := 63) dX12_sheet_62 rfl rfl rfl ?_
          refine sn_gR (k := 8) (pc' := 66) ci_13 rfl (Or.inl tw1286) dX12_sheet_63 rfl (fun v7 => ?_)
          refine sn_iload_n (v := a1) (pc' := 67) dX12_sheet_66 rfl rfl rfl ?_
          refine sn_bipush (v := (71 : Int32)) (pc' := 69) dX12_sheet_67 rfl (by decide) ?_
          refine sn_imul (pc' := 70) dX12_sheet_69 rfl ?_
          refine sn_aload_n (v := (some this)) (pc' := 71) dX12_sheet_70 rfl rfl rfl ?_
          refine sn_gR (k := 12) (pc' := 74) ci_13 rfl (Or.inl tw1290) dX12_sheet_71 rfl (fun v8 => ?_)
          refine sn_iload (v := ((a1 * (400 : Int32)) + a2)) (pc' := 76) dX12_sheet_74 rfl rfl ?_
          refine sn_aI (pc' := 77) dX12_sheet_76 rfl (fun v9 => ?_)
          refine sn_iadd (pc' := 78) dX12_sheet_77 rfl ?_
          refine sn_aI (pc' := 79) dX12_sheet_78 rfl (fun v10 => ?_)
          refine sn_istore (v := v10) (L' := [some (va_rf (some this)), some (.int a1), some (.int a2), some (.int a3), some (.int a4), some (.int ((a1 * (400 : Int32)) + a2)), some (.int v10), none, none]) (pc' := 81) dX12_sheet_79 rfl rfl rfl ?_
          refine sn_iload (v := a4) (pc' := 83) dX12_sheet_81 rfl rfl ?_
          refine sn_iconst (v := (1 : Int32)) (pc' := 84) dX12_sheet_83 rfl (by decide) ?_
          refine sn_ic_ne (pt := 105) (pf := 87) dX12_sheet_84 rfl rfl ?_ ?_
          · refine sn_aload_n (v := (some this)) (pc' := 88) dX12_sheet_87 rfl rfl rfl ?_
            refine sn_iload (v := v10) (pc' := 90) dX12_sheet_88 rfl rfl ?_
            refine sn_aload_n (v := (some this)) (pc' := 91) dX12_sheet_90 rfl rfl rfl ?_
            refine sn_gR (k := 13) (pc' := 94) ci_13 rfl (Or.inl tw1291) dX12_sheet_91 rfl (fun v11 => ?_)
            refine sn_iload (v := ((a1 * (400 : Int32)) + a2)) (pc' := 96) dX12_sheet_94 rfl rfl ?_
            refine sn_aI (pc' := 97) dX12_sheet_96 rfl (fun v12 => ?_)
            refine sn_iload_n (v := a3) (pc' := 98) dX12_sheet_97 rfl rfl rfl ?_
            refine sn_cS (st := [va_rf (some this)]) (As := [.int v10, .int v12, .int a3]) (st2 := (fun v => .int v :: [va_rf (some this)])) (pc' := 101) (c_X12_numberOn G v10 v12 a3) cw_X12_numberOn rfl rfl tw1687 tw1688 rfl rfl (cat_q cat_nil) rfl (fun _ => rfl) dX12_sheet_98 rfl (fun v13 => ?_)
            refine sn_cV (r := (some this)) (st := []) (As := [.int v13]) (st2 := (fun v => .int v :: [])) (pc' := 104) ci_13 (fun t => c_X12_fine G t v13) cw_X12_fine rfl rfl tw1435 pw45 tw1437 rfl rfl cat_nil rfl (fun _ => rfl) dX12_sheet_101 rfl (fun v14 => ?_)
            exact sn_iret dX12_sheet_104 rfl rfl
          · refine sn_iload (v := v10) (pc' := 107) dX12_sheet_105 rfl rfl ?_
            refine sn_aload_n (v := (some this)) (pc' := 108) dX12_sheet_107 rfl rfl rfl ?_
            refine sn_gR (k := 13) (pc' := 111) ci_13 rfl (Or.inl tw1291) dX12_sheet_108 rfl (fun v15 => ?_)
            refine sn_iload (v := ((a1 * (400 : Int32)) + a2)) (pc' := 113) dX12_sheet_111 rfl rfl ?_
            refine sn_aI (pc' := 114) dX12_sheet_113 rfl (fun v16 => ?_)
            refine sn_iload_n (v := a3) (pc' := 115) dX12_sheet_114 rfl rfl rfl ?_
            refine sn_cS (st := []) (As := [.int v10, .int v16, .int a3]) (st2 := (fun v => .int v :: [])) (pc' := 118) (c_X12_sheetOf G v10 v16 a3) cw_X12_sheetOf rfl rfl tw1679 tw1680 rfl rfl cat_nil rfl (fun _ => rfl) dX12_sheet_115 rfl (fun v17 => ?_)
            refine sn_istore (v := v17) (L' := [some (va_rf (some this)), some (.int a1), some (.int a2), some (.int a3), some (.int a4), some (.int ((a1 * (400 : Int32)) + a2)), some (.int v10), some (.int v17), none]) (pc' := 120) dX12_sheet_118 rfl rfl rfl ?_
            refine sn_iconst (v := (0 : Int32)) (pc' := 121) dX12_sheet_120 rfl (by decide) ?_
            refine sn_istore (v := (0 : Int32)) (L' := [some (va_rf (some this)), some (.int a1), some (.int a2), some (.int a3), some (.int a4), some (.int ((a1 * (400 : Int32)) + a2)), some (.int v10), some (.int v17), some (.int (0 : Int32))]) (pc' := 123) dX12_sheet_121 rfl rfl rfl ?_
            exact sn_weak (le_s (le_s (le_n (le_s (le_n (le_s (le_n (le_s (le_s le_e))))))))) (s_X12_sheet_123 G LFU this a1 a3 ((a1 * (400 : Int32)) + a2) v17 (0 : Int32))
theorem c_X12_sheet (G : GG) (this : Nat) (a1 : Int32) (a2 : Int32) (a3 : Int32) (a4 : Int32) : Cal G yX12_sheet cX12_sheet 9 (some FieldType.int) 3 65 (fun v : Int32 => some (.int v)) (X12_sheet this a1 a2 a3 a4) [.ref this, .int a1, .int a2, .int a3, .int a4] :=
  Cal.of (by decide) (cat_t (cat_i (cat_i (cat_i (cat_i cat_nil))))) rfl (sn_weak (le_s (le_s (le_s (le_s (le_s (le_z (le_z (le_z (le_z le_e))))))))) (s_X12_sheet G this a1 a2 a3 a4))
theorem cw_X12_sheet : CW yX12_sheet cX12_sheet 9 (some FieldType.int) 4 := ⟨tw1686, tw15, by decide, by decide +kernel⟩
/-! X12_forme -/
theorem dX12_forme_0 : decode cX12_forme 0 = .ok (.aload_n 0, 1) := by decide +kernel
theorem dX12_forme_1 : decode cX12_forme 1 = .ok (.iload_n 1, 1) := by decide +kernel
theorem dX12_forme_2 : decode cX12_forme 2 = .ok (.iload_n 2, 1) := by decide +kernel
theorem dX12_forme_3 : decode cX12_forme 3 = .ok (.invokevirtual 354, 3) := by decide +kernel
theorem dX12_forme_6 : decode cX12_forme 6 = .ok (.ifCond .ne 9, 3) := by decide +kernel
theorem dX12_forme_9 : decode cX12_forme 9 = .ok (.aload_n 0, 1) := by decide +kernel
theorem dX12_forme_10 : decode cX12_forme 10 = .ok (.iconst 1, 1) := by decide +kernel
theorem dX12_forme_11 : decode cX12_forme 11 = .ok (.invokevirtual 193, 3) := by decide +kernel
theorem dX12_forme_14 : decode cX12_forme 14 = .ok (.ireturn, 1) := by decide +kernel
theorem dX12_forme_15 : decode cX12_forme 15 = .ok (.iload_n 3, 1) := by decide +kernel
theorem dX12_forme_16 : decode cX12_forme 16 = .ok (.iconst 0, 1) := by decide +kernel
theorem dX12_forme_17 : decode cX12_forme 17 = .ok (.iconst 1, 1) := by decide +kernel
theorem dX12_forme_18 : decode cX12_forme 18 = .ok (.invokestatic 10, 3) := by decide +kernel
theorem dX12_forme_21 : decode cX12_forme 21 = .ok (.ifCond .eq 11, 3) := by decide +kernel
theorem dX12_forme_24 : decode cX12_forme 24 = .ok (.iload 4, 2) := by decide +kernel
theorem dX12_forme_26 : decode cX12_forme 26 = .ok (.invokestatic 363, 3) := by decide +kernel
theorem dX12_forme_29 : decode cX12_forme 29 = .ok (.ifCond .ne 9, 3) := by decide +kernel
theorem dX12_forme_32 : decode cX12_forme 32 = .ok (.aload_n 0, 1) := by decide +kernel
theorem dX12_forme_33 : decode cX12_forme 33 = .ok (.iconst 3, 1) := by decide +kernel
theorem dX12_forme_34 : decode cX12_forme 34 = .ok (.invokevirtual 193, 3) := by decide +kernel
theorem dX12_forme_37 : decode cX12_forme 37 = .ok (.ireturn, 1) := by decide +kernel
theorem dX12_forme_38 : decode cX12_forme 38 = .ok (.aload_n 0, 1) := by decide +kernel
theorem dX12_forme_39 : decode cX12_forme 39 = .ok (.iload_n 1, 1) := by decide +kernel
theorem dX12_forme_40 : decode cX12_forme 40 = .ok (.iload_n 2, 1) := by decide +kernel
theorem dX12_forme_41 : decode cX12_forme 41 = .ok (.invokevirtual 49, 3) := by decide +kernel
theorem dX12_forme_44 : decode cX12_forme 44 = .ok (.ifCond .ne 9, 3) := by decide +kernel
theorem dX12_forme_47 : decode cX12_forme 47 = .ok (.aload_n 0, 1) := by decide +kernel
theorem dX12_forme_48 : decode cX12_forme 48 = .ok (.iconst (-1), 1) := by decide +kernel
theorem dX12_forme_49 : decode cX12_forme 49 = .ok (.invokevirtual 199, 3) := by decide +kernel
theorem dX12_forme_52 : decode cX12_forme 52 = .ok (.ireturn, 1) := by decide +kernel
theorem dX12_forme_53 : decode cX12_forme 53 = .ok (.iload_n 1, 1) := by decide +kernel
theorem dX12_forme_54 : decode cX12_forme 54 = .ok (.sipush 400, 3) := by decide +kernel
theorem dX12_forme_57 : decode cX12_forme 57 = .ok (.imul, 1) := by decide +kernel
theorem dX12_forme_58 : decode cX12_forme 58 = .ok (.iload_n 2, 1) := by decide +kernel
theorem dX12_forme_59 : decode cX12_forme 59 = .ok (.iadd, 1) := by decide +kernel
theorem dX12_forme_60 : decode cX12_forme 60 = .ok (.istore 5, 2) := by decide +kernel
theorem dX12_forme_62 : decode cX12_forme 62 = .ok (.aload_n 0, 1) := by decide +kernel
theorem dX12_forme_63 : decode cX12_forme 63 = .ok (.aload_n 0, 1) := by decide +kernel
theorem dX12_forme_64 : decode cX12_forme 64 = .ok (.getfield 24, 3) := by decide +kernel
theorem dX12_forme_67 : decode cX12_forme 67 = .ok (.iload_n 1, 1) := by decide +kernel
theorem dX12_forme_68 : decode cX12_forme 68 = .ok (.bipush 71, 2) := by decide +kernel
theorem dX12_forme_70 : decode cX12_forme 70 = .ok (.imul, 1) := by decide +kernel
theorem dX12_forme_71 : decode cX12_forme 71 = .ok (.aload_n 0, 1) := by decide +kernel
theorem dX12_forme_72 : decode cX12_forme 72 = .ok (.getfield 37, 3) := by decide +kernel
theorem dX12_forme_75 : decode cX12_forme 75 = .ok (.iload 5, 2) := by decide +kernel
theorem dX12_forme_77 : decode cX12_forme 77 = .ok (.iaload, 1) := by decide +kernel
theorem dX12_forme_78 : decode cX12_forme 78 = .ok (.iadd, 1) := by decide +kernel
theorem dX12_forme_79 : decode cX12_forme 79 = .ok (.iaload, 1) := by decide +kernel
theorem dX12_forme_80 : decode cX12_forme 80 = .ok (.aload_n 0, 1) := by decide +kernel
theorem dX12_forme_81 : decode cX12_forme 81 = .ok (.getfield 40, 3) := by decide +kernel
theorem dX12_forme_84 : decode cX12_forme 84 = .ok (.iload 5, 2) := by decide +kernel
theorem dX12_forme_86 : decode cX12_forme 86 = .ok (.iaload, 1) := by decide +kernel
theorem dX12_forme_87 : decode cX12_forme 87 = .ok (.iload 4, 2) := by decide +kernel
theorem dX12_forme_89 : decode cX12_forme 89 = .ok (.invokestatic 369, 3) := by decide +kernel
theorem dX12_forme_92 : decode cX12_forme 92 = .ok (.iconst 1, 1) := by decide +kernel
theorem dX12_forme_93 : decode cX12_forme 93 = .ok (.iadd, 1) := by decide +kernel
theorem dX12_forme_94 : decode cX12_forme 94 = .ok (.iload_n 3, 1) := by decide +kernel
theorem dX12_forme_95 : decode cX12_forme 95 = .ok (.iadd, 1) := by decide +kernel
theorem dX12_forme_96 : decode cX12_forme 96 = .ok (.iconst 2, 1) := by decide +kernel
theorem dX12_forme_97 : decode cX12_forme 97 = .ok (.irem, 1) := by decide +kernel
theorem dX12_forme_98 : decode cX12_forme 98 = .ok (.invokevirtual 199, 3) := by decide +kernel
theorem dX12_forme_101 : decode cX12_forme 101 = .ok (.ireturn, 1) := by decide +kernel
def X12_forme_32  (this : Nat) : MM Int32 :=
  mb (wc 13 (some this) fun t => X12_no t (3 : Int32)) fun v1 =>
  mr v1
def X12_forme (this : Nat) (a1 : Int32) (a2 : Int32) (a3 : Int32) (a4 : Int32) : MM Int32 :=
  mb (wc 13 (some this) fun t => X12_isLeaf t a1 a2) fun v1 =>
  if v1 = 0 then (mb (wc 13 (some this) fun t => X12_no t (1 : Int32)) fun v2 =>
  mr v2) else (mb (X12_isIn a3 (0 : Int32) (1 : Int32)) fun v3 =>
  if v3 = 0 then ((X12_forme_32 this)) else (mb (X12_isFormat a4) fun v4 =>
  if v4 = 0 then ((X12_forme_32 this)) else (mb (wc 13 (some this) fun t => X12_isPlain t a1 a2) fun v5 =>
  if v5 = 0 then (mb (wc 13 (some this) fun t => X12_fine t (-1 : Int32)) fun v6 =>
  mr v6) else (mb (gR 13 (some this) 8) fun v7 =>
  mb (gR 13 (some this) 12) fun v8 =>
  mb (aI v8 ((a1 * (400 : Int32)) + a2)) fun v9 =>
  mb (aI v7 ((a1 * (71 : Int32)) + v9)) fun v10 =>
  mb (gR 13 (some this) 13) fun v11 =>
  mb (aI v11 ((a1 * (400 : Int32)) + a2)) fun v12 =>
  mb (X12_numberOn v10 v12 a4) fun v13 =>
  mb (rI ((v13 + (1 : Int32)) + a3) (2 : Int32)) fun v14 =>
  mb (wc 13 (some this) fun t => X12_fine t v14) fun v15 =>
  mr v15))))
set_option maxRecDepth 100000 in
set_option maxHeartbeats 4000000 in
theorem s_X12_forme_32 (G : GG)   (this : Nat) : Sn G yX12_forme cX12_forme 6 (some FieldType.int) 3 65 (fun v : Int32 => some (.int v)) (X12_forme_32  this) 32 [some (va_rf (some this)), none, none, none, none, none] [] := by
  unfold X12_forme_32
  refine sn_aload_n (v := (some this)) (pc' := 33) dX12_forme_32 rfl rfl rfl ?_
  refine sn_iconst (v := (3 : Int32)) (pc' := 34) dX12_forme_33 rfl (by decide) ?_
  refine sn_cV (r := (some this)) (st := []) (As := [.int (3 : Int32)]) (st2 := (fun v => .int v :: [])) (pc' := 37) ci_13 (fun t => c_X12_no G t (3 : Int32)) cw_X12_no rfl rfl tw1431 pw44 tw1433 rfl rfl cat_nil rfl (fun _ => rfl) dX12_forme_34 rfl (fun v1 => ?_)
  exact sn_iret dX12_forme_37 rfl rfl
set_option maxRecDepth 100000 in
set_option maxHeartbeats 4000000 in
theorem s_X12_forme (G : GG) (this : Nat) (a1 : Int32) (a2 : Int32) (a3 : Int32) (a4 : Int32) : Sn G yX12_forme cX12_forme 6 (some FieldType.int) 3 65 (fun v : Int32 => some (.int v)) (X12_forme this a1 a2 a3 a4) 0 [some (va_rf (some this)), some (.int a1), some (.int a2), some (.int a3), some (.int a4), none] [] := by
  unfold X12_forme
  refine sn_aload_n (v := (some this)) (pc' := 1) dX12_forme_0 rfl rfl rfl ?_
  refine sn_iload_n (v := a1) (pc' := 2) dX12_forme_1 rfl rfl rfl ?_
  refine sn_iload_n (v := a2) (pc' := 3) dX12_forme_2 rfl rfl rfl ?_
  refine sn_cV (r := (some this)) (st := []) (As := [.int a1, .int a2]) (st2 := (fun v => .int v :: [])) (pc' := 6) ci_13 (fun t => c_X12_isLeaf G t a1 a2) cw_X12_isLeaf rfl rfl tw1610 pw73 tw1612 rfl rfl cat_nil rfl (fun _ => rfl) dX12_forme_3 rfl (fun v1 => ?_)
  refine sn_if_ne (pt := 15) (pf := 9) dX12_forme_6 rfl rfl ?_ ?_
  · refine sn_aload_n (v := (some this)) (pc' := 10) dX12_forme_9 rfl rfl rfl ?_
    refine sn_iconst (v := (1 : Int32)) (pc' := 11) dX12_forme_10 rfl (by decide) ?_
    refine sn_cV (r := (some this)) (st := []) (As := [.int (1 : Int32)]) (st2 := (fun v => .int v :: [])) (pc' := 14) ci_13 (fun t => c_X12_no G t (1 : Int32)) cw_X12_no rfl rfl tw1431 pw44 tw1433 rfl rfl cat_nil rfl (fun _ => rfl) dX12_forme_11 rfl (fun v2 => ?_)
    exact sn_iret dX12_forme_14 rfl rfl
  · refine sn_iload_n (v := a3) (pc' := 16) dX12_forme_15 rfl rfl rfl ?_
    refine sn_iconst (v := (0 : Int32)) (pc' := 17) dX12_forme_16 rfl (by decide) ?_
    refine sn_iconst (v := (1 : Int32)) (pc' := 18) dX12_forme_17 rfl (by decide) ?_
    refine sn_cS (st := []) (As := [.int a3, .int (0 : Int32), .int (1 : Int32)]) (st2 := (fun v => .int v :: [])) (pc' := 21) (c_X12_isIn G a3 (0 : Int32) (1 : Int32)) cw_X12_isIn rfl rfl tw1443 tw1444 rfl rfl cat_nil rfl (fun _ => rfl) dX12_forme_18 rfl (fun v3 => ?_)
    refine sn_if_eq (pt := 32) (pf := 24) dX12_forme_21 rfl rfl ?_ ?_
    · exact sn_weak (le_s (le_n (le_n (le_n (le_n (le_n le_e)))))) (s_X12_forme_32 G this)
    · refine sn_iload (v := a4) (pc' := 26) dX12_forme_24 rfl rfl ?_
      refine sn_cS (st := []) (As := [.int a4]) (st2 := (fun v => .int v :: [])) (pc' := 29) (c_X12_isFormat G a4) cw_X12_isFormat rfl rfl tw1673 tw1674 rfl rfl cat_nil rfl (fun _ => rfl) dX12_forme_26 rfl (fun v4 => ?_)
      refine sn_if_ne (pt := 38) (pf := 32) dX12_forme_29 rfl rfl ?_ ?_
      · exact sn_weak (le_s (le_n (le_n (le_n (le_n (le_n le_e)))))) (s_X12_forme_32 G this)
      · refine sn_aload_n (v := (some this)) (pc' := 39) dX12_forme_38 rfl rfl rfl ?_
        refine sn_iload_n (v := a1) (pc' := 40) dX12_forme_39 rfl rfl rfl ?_
        refine sn_iload_n (v := a2) (pc' := 41) dX12_forme_40 rfl rfl rfl ?_
        refine sn_cV (r := (some this)) (st := []) (As := [.int a1, .int a2]) (st2 := (fun v => .int v :: [])) (pc' := 44) ci_13 (fun t => c_X12_isPlain G t a1 a2) cw_X12_isPlain rfl rfl tw1614 pw74 tw1616 rfl rfl cat_nil rfl (fun _ => rfl) dX12_forme_41 rfl (fun v5 => ?_)
        refine sn_if_ne (pt := 53) (pf := 47) dX12_forme_44 rfl rfl ?_ ?_
        · refine sn_aload_n (v := (some this)) (pc' := 48) dX12_forme_47 rfl rfl rfl ?_
          refine sn_iconst (v := (-1 : Int32)) (pc' := 49) dX12_forme_48 rfl (by decide) ?_
          refine sn_cV (r := (some this)) (st := []) (As := [.int (-1 : Int32)]) (st2 := (fun v => .int v :: [])) (pc' := 52) ci_13 (fun t => c_X12_fine G t (-1 : Int32)) cw_X12_fine rfl rfl tw1435 pw45 tw1437 rfl rfl cat_nil rfl (fun _ => rfl) dX12_forme_49 rfl (fun v6 => ?_)
          exact sn_iret dX12_forme_52 rfl rfl
        · refine sn_iload_n (v := a1) (pc' := 54) dX12_forme_53 rfl rfl rfl ?_
          refine sn_sipush (v := (400 : Int32)) (pc' := 57) dX12_forme_54 rfl (by decide) ?_
          refine sn_imul (pc' := 58) dX12_forme_57 rfl ?_
          refine sn_iload_n (v := a2) (pc' := 59) dX12_forme_58 rfl rfl rfl ?_
          refine sn_iadd (pc' := 60) dX12_forme_59 rfl ?_
          refine sn_istore (v := ((a1 * (400 : Int32)) + a2)) (L' := [some (va_rf (some this)), some (.int a1), some (.int a2), some (.int a3), some (.int a4), some (.int ((a1 * (400 : Int32)) + a2))]) (pc' := 62) dX12_forme_60 rfl rfl rfl ?_
          refine sn_aload_n (v := (some this)) (pc' := 63) dX12_forme_62 rfl rfl rfl ?_
          refine sn_aload_n (v := (some this)) (pc' := 64) dX12_forme_63 rfl rfl rfl ?_
          refine sn_gR (k := 8) (pc' := 67) ci_13 rfl (Or.inl tw1286) dX12_forme_64 rfl (fun v7 => ?_)
          refine sn_iload_n (v := a1) (pc' := 68) dX12_forme_67 rfl rfl rfl ?_
          refine sn_bipush (v := (71 : Int32)) (pc' := 70) dX12_forme_68 rfl (by decide) ?_
          refine sn_imul (pc' := 71) dX12_forme_70 rfl ?_
          refine sn_aload_n (v := (some this)) (pc' := 72) dX12_forme_71 rfl rfl rfl ?_
          refine sn_gR (k := 12) (pc' := 75) ci_13 rfl (Or.inl tw1290) dX12_forme_72 rfl (fun v8 => ?_)
          refine sn_iload (v := ((a1 * (400 : Int32)) + a2)) (pc' := 77) dX12_forme_75 rfl rfl ?_
          refine sn_aI (pc' := 78) dX12_forme_77 rfl (fun v9 => ?_)
          refine sn_iadd (pc' := 79) dX12_forme_78 rfl ?_
          refine sn_aI (pc' := 80) dX12_forme_79 rfl (fun v10 => ?_)
          refine sn_aload_n (v := (some this)) (pc' := 81) dX12_forme_80 rfl rfl rfl ?_
          refine sn_gR (k := 13) (pc' := 84) ci_13 rfl (Or.inl tw1291) dX12_forme_81 rfl (fun v11 => ?_)
          refine sn_iload (v := ((a1 * (400 : Int32)) + a2)) (pc' := 86) dX12_forme_84 rfl rfl ?_
          refine sn_aI (pc' := 87) dX12_forme_86 rfl (fun v12 => ?_)
          refine sn_iload (v := a4) (pc' := 89) dX12_forme_87 rfl rfl ?_
          refine sn_cS (st := [va_rf (some this)]) (As := [.int v10, .int v12, .int a4]) (st2 := (fun v => .int v :: [va_rf (some this)])) (pc' := 92) (c_X12_numberOn G v10 v12 a4) cw_X12_numberOn rfl rfl tw1687 tw1688 rfl rfl (cat_q cat_nil) rfl (fun _ => rfl) dX12_forme_89 rfl (fun v13 => ?_)
          refine sn_iconst (v := (1 : Int32)) (pc' := 93) dX12_forme_92 rfl (by decide) ?_
          refine sn_iadd (pc' := 94) dX12_forme_93 rfl ?_
          refine sn_iload_n (v := a3) (pc' := 95) dX12_forme_94 rfl rfl rfl ?_
          refine sn_iadd (pc' := 96) dX12_forme_95 rfl ?_
          refine sn_iconst (v := (2 : Int32)) (pc' := 97) dX12_forme_96 rfl (by decide) ?_
          refine sn_rI (pc' := 98) dX12_forme_97 rfl (fun v14 => ?_)
          refine sn_cV (r := (some this)) (st := []) (As := [.int v14]) (st2 := (fun v => .int v :: [])) (pc' := 101) ci_13 (fun t => c_X12_fine G t v14) cw_X12_fine rfl rfl tw1435 pw45 tw1437 rfl rfl cat_nil rfl (fun _ => rfl) dX12_forme_98 rfl (fun v15 => ?_)
          exact sn_iret dX12_forme_101 rfl rfl
theorem c_X12_forme (G : GG) (this : Nat) (a1 : Int32) (a2 : Int32) (a3 : Int32) (a4 : Int32) : Cal G yX12_forme cX12_forme 6 (some FieldType.int) 3 65 (fun v : Int32 => some (.int v)) (X12_forme this a1 a2 a3 a4) [.ref this, .int a1, .int a2, .int a3, .int a4] :=
  Cal.of (by decide) (cat_t (cat_i (cat_i (cat_i (cat_i cat_nil))))) rfl (sn_weak (le_s (le_s (le_s (le_s (le_s (le_z le_e)))))) (s_X12_forme G this a1 a2 a3 a4))
theorem cw_X12_forme : CW yX12_forme cX12_forme 6 (some FieldType.int) 4 := ⟨tw1693, tw15, by decide, by decide +kernel⟩
/-! X12_state -/
theorem dX12_state_0 : decode cX12_state 0 = .ok (.aload_n 0, 1) := by decide +kernel
theorem dX12_state_1 : decode cX12_state 1 = .ok (.iload_n 1, 1) := by decide +kernel
theorem dX12_state_2 : decode cX12_state 2 = .ok (.invokevirtual 372, 3) := by decide +kernel
theorem dX12_state_5 : decode cX12_state 5 = .ok (.ifCond .ne 9, 3) := by decide +kernel
theorem dX12_state_8 : decode cX12_state 8 = .ok (.aload_n 0, 1) := by decide +kernel
theorem dX12_state_9 : decode cX12_state 9 = .ok (.iconst 1, 1) := by decide +kernel
theorem dX12_state_10 : decode cX12_state 10 = .ok (.invokevirtual 193, 3) := by decide +kernel
theorem dX12_state_13 : decode cX12_state 13 = .ok (.ireturn, 1) := by decide +kernel
theorem dX12_state_14 : decode cX12_state 14 = .ok (.iload_n 2, 1) := by decide +kernel
theorem dX12_state_15 : decode cX12_state 15 = .ok (.ifCond .ne 14, 3) := by decide +kernel
theorem dX12_state_18 : decode cX12_state 18 = .ok (.aload_n 0, 1) := by decide +kernel
theorem dX12_state_19 : decode cX12_state 19 = .ok (.aload_n 0, 1) := by decide +kernel
theorem dX12_state_20 : decode cX12_state 20 = .ok (.getfield 236, 3) := by decide +kernel
theorem dX12_state_23 : decode cX12_state 23 = .ok (.iload_n 1, 1) := by decide +kernel
theorem dX12_state_24 : decode cX12_state 24 = .ok (.iaload, 1) := by decide +kernel
theorem dX12_state_25 : decode cX12_state 25 = .ok (.invokevirtual 199, 3) := by decide +kernel
theorem dX12_state_28 : decode cX12_state 28 = .ok (.ireturn, 1) := by decide +kernel
theorem dX12_state_29 : decode cX12_state 29 = .ok (.iload_n 2, 1) := by decide +kernel
theorem dX12_state_30 : decode cX12_state 30 = .ok (.iconst 1, 1) := by decide +kernel
theorem dX12_state_31 : decode cX12_state 31 = .ok (.if_icmp .ne 14, 3) := by decide +kernel
theorem dX12_state_34 : decode cX12_state 34 = .ok (.aload_n 0, 1) := by decide +kernel
theorem dX12_state_35 : decode cX12_state 35 = .ok (.aload_n 0, 1) := by decide +kernel
theorem dX12_state_36 : decode cX12_state 36 = .ok (.getfield 242, 3) := by decide +kernel
theorem dX12_state_39 : decode cX12_state 39 = .ok (.iload_n 1, 1) := by decide +kernel
theorem dX12_state_40 : decode cX12_state 40 = .ok (.iaload, 1) := by decide +kernel
theorem dX12_state_41 : decode cX12_state 41 = .ok (.invokevirtual 199, 3) := by decide +kernel
theorem dX12_state_44 : decode cX12_state 44 = .ok (.ireturn, 1) := by decide +kernel
theorem dX12_state_45 : decode cX12_state 45 = .ok (.iload_n 2, 1) := by decide +kernel
theorem dX12_state_46 : decode cX12_state 46 = .ok (.iconst 2, 1) := by decide +kernel
theorem dX12_state_47 : decode cX12_state 47 = .ok (.iconst 5, 1) := by decide +kernel
theorem dX12_state_48 : decode cX12_state 48 = .ok (.invokestatic 10, 3) := by decide +kernel
theorem dX12_state_51 : decode cX12_state 51 = .ok (.ifCond .ne 9, 3) := by decide +kernel
theorem dX12_state_54 : decode cX12_state 54 = .ok (.aload_n 0, 1) := by decide +kernel
theorem dX12_state_55 : decode cX12_state 55 = .ok (.iconst 3, 1) := by decide +kernel
theorem dX12_state_56 : decode cX12_state 56 = .ok (.invokevirtual 193, 3) := by decide +kernel
theorem dX12_state_59 : decode cX12_state 59 = .ok (.ireturn, 1) := by decide +kernel
theorem dX12_state_60 : decode cX12_state 60 = .ok (.aload_n 0, 1) := by decide +kernel
theorem dX12_state_61 : decode cX12_state 61 = .ok (.iload_n 1, 1) := by decide +kernel
theorem dX12_state_62 : decode cX12_state 62 = .ok (.invokevirtual 272, 3) := by decide +kernel
theorem dX12_state_65 : decode cX12_state 65 = .ok (.aload_n 0, 1) := by decide +kernel
theorem dX12_state_66 : decode cX12_state 66 = .ok (.aload_n 0, 1) := by decide +kernel
theorem dX12_state_67 : decode cX12_state 67 = .ok (.iload_n 1, 1) := by decide +kernel
theorem dX12_state_68 : decode cX12_state 68 = .ok (.iload_n 2, 1) := by decide +kernel
theorem dX12_state_69 : decode cX12_state 69 = .ok (.invokevirtual 275, 3) := by decide +kernel
theorem dX12_state_72 : decode cX12_state 72 = .ok (.invokevirtual 199, 3) := by decide +kernel
theorem dX12_state_75 : decode cX12_state 75 = .ok (.ireturn, 1) := by decide +kernel
def X12_state (this : Nat) (a1 : Int32) (a2 : Int32) : MM Int32 :=
  mb (wc 13 (some this) fun t => X12_isCopy t a1) fun v1 =>
  if v1 = 0 then (mb (wc 13 (some this) fun t => X12_no t (1 : Int32)) fun v2 =>
  mr v2) else (if a2 = 0 then (mb (gR 13 (some this) 16) fun v3 =>
  mb (aI v3 a1) fun v4 =>
  mb (wc 13 (some this) fun t => X12_fine t v4) fun v5 =>
  mr v5) else (if a2 = (1 : Int32) then (mb (gR 13 (some this) 17) fun v6 =>
  mb (aI v6 a1) fun v7 =>
  mb (wc 13 (some this) fun t => X12_fine t v7) fun v8 =>
  mr v8) else (mb (X12_isIn a2 (2 : Int32) (5 : Int32)) fun v9 =>
  if v9 = 0 then (mb (wc 13 (some this) fun t => X12_no t (3 : Int32)) fun v10 =>
  mr v10) else (mb (wc 13 (some this) fun t => X12_look t a1) fun _ =>
  mb (wc 13 (some this) fun t => X12_countTold t a1 a2) fun v11 =>
  mb (wc 13 (some this) fun t => X12_fine t v11) fun v12 =>
  mr v12))))
set_option maxRecDepth 100000 in
set_option maxHeartbeats 4000000 in
theorem s_X12_state (G : GG) (this : Nat) (a1 : Int32) (a2 : Int32) : Sn G yX12_state cX12_state 3 (some FieldType.int) 5 120 (fun v : Int32 => some (.int v)) (X12_state this a1 a2) 0 [some (va_rf (some this)), some (.int a1), some (.int a2)] [] := by
  unfold X12_state
  refine sn_aload_n (v := (some this)) (pc' := 1) dX12_state_0 rfl rfl rfl ?_
  refine sn_iload_n (v := a1) (pc' := 2) dX12_state_1 rfl rfl rfl ?_
  refine sn_cV (r := (some this)) (st := []) (As := [.int a1]) (st2 := (fun v => .int v :: [])) (pc' := 5) ci_13 (fun t => c_X12_isCopy G t a1) cw_X12_isCopy rfl rfl tw1698 pw84 tw1700 rfl rfl cat_nil rfl (fun _ => rfl) dX12_state_2 rfl (fun v1 => ?_)
  refine sn_if_ne (pt := 14) (pf := 8) dX12_state_5 rfl rfl ?_ ?_
  · refine sn_aload_n (v := (some this)) (pc' := 9) dX12_state_8 rfl rfl rfl ?_
    refine sn_iconst (v := (1 : Int32)) (pc' := 10) dX12_state_9 rfl (by decide) ?_
    refine sn_cV (r := (some this)) (st := []) (As := [.int (1 : Int32)]) (st2 := (fun v => .int v :: [])) (pc' := 13) ci_13 (fun t => c_X12_no G t (1 : Int32)) cw_X12_no rfl rfl tw1431 pw44 tw1433 rfl rfl cat_nil rfl (fun _ => rfl) dX12_state_10 rfl (fun v2 => ?_)
    exact sn_iret dX12_state_13 rfl rfl
  · refine sn_iload_n (v := a2) (pc' := 15) dX12_state_14 rfl rfl rfl ?_
    refine sn_if_ne (pt := 29) (pf := 18) dX12_state_15 rfl rfl ?_ ?_
    · refine sn_aload_n (v := (some this)) (pc' := 19) dX12_state_18 rfl rfl rfl ?_
      refine sn_aload_n (v := (some this)) (pc' := 20) dX12_state_19 rfl rfl rfl ?_
      refine sn_gR (k := 16) (pc' := 23) ci_13 rfl (Or.inl tw1294) dX12_state_20 rfl (fun v3 => ?_)
      refine sn_iload_n (v := a1) (pc' := 24) dX12_state_23 rfl rfl rfl ?_
      refine sn_aI (pc' := 25) dX12_state_24 rfl (fun v4 => ?_)
      refine sn_cV (r := (some this)) (st := []) (As := [.int v4]) (st2 := (fun v => .int v :: [])) (pc' := 28) ci_13 (fun t => c_X12_fine G t v4) cw_X12_fine rfl rfl tw1435 pw45 tw1437 rfl rfl cat_nil rfl (fun _ => rfl) dX12_state_25 rfl (fun v5 => ?_)
      exact sn_iret dX12_state_28 rfl rfl
    · refine sn_iload_n (v := a2) (pc' := 30) dX12_state_29 rfl rfl rfl ?_
      refine sn_iconst (v := (1 : Int32)) (pc' := 31) dX12_state_30 rfl (by decide) ?_
      refine sn_ic_ne (pt := 45) (pf := 34) dX12_state_31 rfl rfl ?_ ?_
      · refine sn_aload_n (v := (some this)) (pc' := 35) dX12_state_34 rfl rfl rfl ?_
        refine sn_aload_n (v := (some this)) (pc' := 36) dX12_state_35 rfl rfl rfl ?_
        refine sn_gR (k := 17) (pc' := 39) ci_13 rfl (Or.inl tw1295) dX12_state_36 rfl (fun v6 => ?_)
        refine sn_iload_n (v := a1) (pc' := 40) dX12_state_39 rfl rfl rfl ?_
        refine sn_aI (pc' := 41) dX12_state_40 rfl (fun v7 => ?_)
        refine sn_cV (r := (some this)) (st := []) (As := [.int v7]) (st2 := (fun v => .int v :: [])) (pc' := 44) ci_13 (fun t => c_X12_fine G t v7) cw_X12_fine rfl rfl tw1435 pw45 tw1437 rfl rfl cat_nil rfl (fun _ => rfl) dX12_state_41 rfl (fun v8 => ?_)
        exact sn_iret dX12_state_44 rfl rfl
      · refine sn_iload_n (v := a2) (pc' := 46) dX12_state_45 rfl rfl rfl ?_
        refine sn_iconst (v := (2 : Int32)) (pc' := 47) dX12_state_46 rfl (by decide) ?_
        refine sn_iconst (v := (5 : Int32)) (pc' := 48) dX12_state_47 rfl (by decide) ?_
        refine sn_cS (st := []) (As := [.int a2, .int (2 : Int32), .int (5 : Int32)]) (st2 := (fun v => .int v :: [])) (pc' := 51) (c_X12_isIn G a2 (2 : Int32) (5 : Int32)) cw_X12_isIn rfl rfl tw1443 tw1444 rfl rfl cat_nil rfl (fun _ => rfl) dX12_state_48 rfl (fun v9 => ?_)
        refine sn_if_ne (pt := 60) (pf := 54) dX12_state_51 rfl rfl ?_ ?_
        · refine sn_aload_n (v := (some this)) (pc' := 55) dX12_state_54 rfl rfl rfl ?_
          refine sn_iconst (v := (3 : Int32)) (pc' := 56) dX12_state_55 rfl (by decide) ?_
          refine sn_cV (r := (some this)) (st := []) (As := [.int (3 : Int32)]) (st2 := (fun v => .int v :: [])) (pc' := 59) ci_13 (fun t => c_X12_no G t (3 : Int32)) cw_X12_no rfl rfl tw1431 pw44 tw1433 rfl rfl cat_nil rfl (fun _ => rfl) dX12_state_56 rfl (fun v10 => ?_)
          exact sn_iret dX12_state_59 rfl rfl
        · refine sn_aload_n (v := (some this)) (pc' := 61) dX12_state_60 rfl rfl rfl ?_
          refine sn_iload_n (v := a1) (pc' := 62) dX12_state_61 rfl rfl rfl ?_
          refine sn_cV (r := (some this)) (st := []) (As := [.int a1]) (st2 := (fun _ => [])) (pc' := 65) ci_13 (fun t => c_X12_look G t a1) cw_X12_look rfl rfl tw1702 pw85 tw1704 rfl rfl cat_nil rfl (fun _ => rfl) dX12_state_62 rfl (fun _ => ?_)
          refine sn_aload_n (v := (some this)) (pc' := 66) dX12_state_65 rfl rfl rfl ?_
          refine sn_aload_n (v := (some this)) (pc' := 67) dX12_state_66 rfl rfl rfl ?_
          refine sn_iload_n (v := a1) (pc' := 68) dX12_state_67 rfl rfl rfl ?_
          refine sn_iload_n (v := a2) (pc' := 69) dX12_state_68 rfl rfl rfl ?_
          refine sn_cV (r := (some this)) (st := [va_rf (some this)]) (As := [.int a1, .int a2]) (st2 := (fun v => .int v :: [va_rf (some this)])) (pc' := 72) ci_13 (fun t => c_X12_countTold G t a1 a2) cw_X12_countTold rfl rfl tw1707 pw86 tw1709 rfl rfl (cat_q cat_nil) rfl (fun _ => rfl) dX12_state_69 rfl (fun v11 => ?_)
          refine sn_cV (r := (some this)) (st := []) (As := [.int v11]) (st2 := (fun v => .int v :: [])) (pc' := 75) ci_13 (fun t => c_X12_fine G t v11) cw_X12_fine rfl rfl tw1435 pw45 tw1437 rfl rfl cat_nil rfl (fun _ => rfl) dX12_state_72 rfl (fun v12 => ?_)
          exact sn_iret dX12_state_75 rfl rfl
theorem c_X12_state (G : GG) (this : Nat) (a1 : Int32) (a2 : Int32) : Cal G yX12_state cX12_state 3 (some FieldType.int) 5 120 (fun v : Int32 => some (.int v)) (X12_state this a1 a2) [.ref this, .int a1, .int a2] :=
  Cal.of (by decide) (cat_t (cat_i (cat_i cat_nil))) rfl (sn_weak (le_s (le_s (le_s le_e))) (s_X12_state G this a1 a2))
theorem cw_X12_state : CW yX12_state cX12_state 3 (some FieldType.int) 2 := ⟨tw1697, tw15, by decide, by decide +kernel⟩
/-! X12_entry -/
theorem dX12_entry_0 : decode cX12_entry 0 = .ok (.aload_n 0, 1) := by decide +kernel
theorem dX12_entry_1 : decode cX12_entry 1 = .ok (.iload_n 1, 1) := by decide +kernel
theorem dX12_entry_2 : decode cX12_entry 2 = .ok (.invokevirtual 372, 3) := by decide +kernel
theorem dX12_entry_5 : decode cX12_entry 5 = .ok (.ifCond .eq 38, 3) := by decide +kernel
theorem dX12_entry_8 : decode cX12_entry 8 = .ok (.iload_n 2, 1) := by decide +kernel
theorem dX12_entry_9 : decode cX12_entry 9 = .ok (.iconst 0, 1) := by decide +kernel
theorem dX12_entry_10 : decode cX12_entry 10 = .ok (.aload_n 0, 1) := by decide +kernel
theorem dX12_entry_11 : decode cX12_entry 11 = .ok (.getfield 242, 3) := by decide +kernel
theorem dX12_entry_14 : decode cX12_entry 14 = .ok (.iload_n 1, 1) := by decide +kernel
theorem dX12_entry_15 : decode cX12_entry 15 = .ok (.iaload, 1) := by decide +kernel
theorem dX12_entry_16 : decode cX12_entry 16 = .ok (.iconst 1, 1) := by decide +kernel
theorem dX12_entry_17 : decode cX12_entry 17 = .ok (.isub, 1) := by decide +kernel
theorem dX12_entry_18 : decode cX12_entry 18 = .ok (.invokestatic 10, 3) := by decide +kernel
theorem dX12_entry_21 : decode cX12_entry 21 = .ok (.ifCond .eq 22, 3) := by decide +kernel
theorem dX12_entry_24 : decode cX12_entry 24 = .ok (.aload_n 0, 1) := by decide +kernel
theorem dX12_entry_25 : decode cX12_entry 25 = .ok (.aload_n 0, 1) := by decide +kernel
theorem dX12_entry_26 : decode cX12_entry 26 = .ok (.getfield 245, 3) := by decide +kernel
theorem dX12_entry_29 : decode cX12_entry 29 = .ok (.iload_n 1, 1) := by decide +kernel
theorem dX12_entry_30 : decode cX12_entry 30 = .ok (.sipush 400, 3) := by decide +kernel
theorem dX12_entry_33 : decode cX12_entry 33 = .ok (.imul, 1) := by decide +kernel
theorem dX12_entry_34 : decode cX12_entry 34 = .ok (.iload_n 2, 1) := by decide +kernel
theorem dX12_entry_35 : decode cX12_entry 35 = .ok (.iadd, 1) := by decide +kernel
theorem dX12_entry_36 : decode cX12_entry 36 = .ok (.iaload, 1) := by decide +kernel
theorem dX12_entry_37 : decode cX12_entry 37 = .ok (.invokevirtual 199, 3) := by decide +kernel
theorem dX12_entry_40 : decode cX12_entry 40 = .ok (.goto 8, 3) := by decide +kernel
theorem dX12_entry_43 : decode cX12_entry 43 = .ok (.aload_n 0, 1) := by decide +kernel
theorem dX12_entry_44 : decode cX12_entry 44 = .ok (.iconst 1, 1) := by decide +kernel
theorem dX12_entry_45 : decode cX12_entry 45 = .ok (.invokevirtual 193, 3) := by decide +kernel
theorem dX12_entry_48 : decode cX12_entry 48 = .ok (.ireturn, 1) := by decide +kernel
def X12_entry_43  (this : Nat) : MM Int32 :=
  mb (wc 13 (some this) fun t => X12_no t (1 : Int32)) fun v1 =>
  mr v1
def X12_entry (this : Nat) (a1 : Int32) (a2 : Int32) : MM Int32 :=
  mb (wc 13 (some this) fun t => X12_isCopy t a1) fun v1 =>
  if v1 = 0 then ((X12_entry_43 this)) else (mb (gR 13 (some this) 17) fun v2 =>
  mb (aI v2 a1) fun v3 =>
  mb (X12_isIn a2 (0 : Int32) (v3 - (1 : Int32))) fun v4 =>
  if v4 = 0 then ((X12_entry_43 this)) else (mb (gR 13 (some this) 18) fun v5 =>
  mb (aI v5 ((a1 * (400 : Int32)) + a2)) fun v6 =>
  mb (wc 13 (some this) fun t => X12_fine t v6) fun v7 =>
  mr v7))
set_option maxRecDepth 100000 in
set_option maxHeartbeats 4000000 in
theorem s_X12_entry_43 (G : GG)   (this : Nat) : Sn G yX12_entry cX12_entry 3 (some FieldType.int) 2 43 (fun v : Int32 => some (.int v)) (X12_entry_43  this) 43 [some (va_rf (some this)), none, none] [] := by
  unfold X12_entry_43
  refine sn_aload_n (v := (some this)) (pc' := 44) dX12_entry_43 rfl rfl rfl ?_
  refine sn_iconst (v := (1 : Int32)) (pc' := 45) dX12_entry_44 rfl (by decide) ?_
  refine sn_cV (r := (some this)) (st := []) (As := [.int (1 : Int32)]) (st2 := (fun v => .int v :: [])) (pc' := 48) ci_13 (fun t => c_X12_no G t (1 : Int32)) cw_X12_no rfl rfl tw1431 pw44 tw1433 rfl rfl cat_nil rfl (fun _ => rfl) dX12_entry_45 rfl (fun v1 => ?_)
  exact sn_iret dX12_entry_48 rfl rfl
set_option maxRecDepth 100000 in
set_option maxHeartbeats 4000000 in
theorem s_X12_entry (G : GG) (this : Nat) (a1 : Int32) (a2 : Int32) : Sn G yX12_entry cX12_entry 3 (some FieldType.int) 2 43 (fun v : Int32 => some (.int v)) (X12_entry this a1 a2) 0 [some (va_rf (some this)), some (.int a1), some (.int a2)] [] := by
  unfold X12_entry
  refine sn_aload_n (v := (some this)) (pc' := 1) dX12_entry_0 rfl rfl rfl ?_
  refine sn_iload_n (v := a1) (pc' := 2) dX12_entry_1 rfl rfl rfl ?_
  refine sn_cV (r := (some this)) (st := []) (As := [.int a1]) (st2 := (fun v => .int v :: [])) (pc' := 5) ci_13 (fun t => c_X12_isCopy G t a1) cw_X12_isCopy rfl rfl tw1698 pw84 tw1700 rfl rfl cat_nil rfl (fun _ => rfl) dX12_entry_2 rfl (fun v1 => ?_)
  refine sn_if_eq (pt := 43) (pf := 8) dX12_entry_5 rfl rfl ?_ ?_
  · exact sn_weak (le_s (le_n (le_n le_e))) (s_X12_entry_43 G this)
  · refine sn_iload_n (v := a2) (pc' := 9) dX12_entry_8 rfl rfl rfl ?_
    refine sn_iconst (v := (0 : Int32)) (pc' := 10) dX12_entry_9 rfl (by decide) ?_
    refine sn_aload_n (v := (some this)) (pc' := 11) dX12_entry_10 rfl rfl rfl ?_
    refine sn_gR (k := 17) (pc' := 14) ci_13 rfl (Or.inl tw1295) dX12_entry_11 rfl (fun v2 => ?_)
    refine sn_iload_n (v := a1) (pc' := 15) dX12_entry_14 rfl rfl rfl ?_
    refine sn_aI (pc' := 16) dX12_entry_15 rfl (fun v3 => ?_)
    refine sn_iconst (v := (1 : Int32)) (pc' := 17) dX12_entry_16 rfl (by decide) ?_
    refine sn_isub (pc' := 18) dX12_entry_17 rfl ?_
    refine sn_cS (st := []) (As := [.int a2, .int (0 : Int32), .int (v3 - (1 : Int32))]) (st2 := (fun v => .int v :: [])) (pc' := 21) (c_X12_isIn G a2 (0 : Int32) (v3 - (1 : Int32))) cw_X12_isIn rfl rfl tw1443 tw1444 rfl rfl cat_nil rfl (fun _ => rfl) dX12_entry_18 rfl (fun v4 => ?_)
    refine sn_if_eq (pt := 43) (pf := 24) dX12_entry_21 rfl rfl ?_ ?_
    · exact sn_weak (le_s (le_n (le_n le_e))) (s_X12_entry_43 G this)
    · refine sn_aload_n (v := (some this)) (pc' := 25) dX12_entry_24 rfl rfl rfl ?_
      refine sn_aload_n (v := (some this)) (pc' := 26) dX12_entry_25 rfl rfl rfl ?_
      refine sn_gR (k := 18) (pc' := 29) ci_13 rfl (Or.inl tw1296) dX12_entry_26 rfl (fun v5 => ?_)
      refine sn_iload_n (v := a1) (pc' := 30) dX12_entry_29 rfl rfl rfl ?_
      refine sn_sipush (v := (400 : Int32)) (pc' := 33) dX12_entry_30 rfl (by decide) ?_
      refine sn_imul (pc' := 34) dX12_entry_33 rfl ?_
      refine sn_iload_n (v := a2) (pc' := 35) dX12_entry_34 rfl rfl rfl ?_
      refine sn_iadd (pc' := 36) dX12_entry_35 rfl ?_
      refine sn_aI (pc' := 37) dX12_entry_36 rfl (fun v6 => ?_)
      refine sn_cV (r := (some this)) (st := []) (As := [.int v6]) (st2 := (fun v => .int v :: [])) (pc' := 40) ci_13 (fun t => c_X12_fine G t v6) cw_X12_fine rfl rfl tw1435 pw45 tw1437 rfl rfl cat_nil rfl (fun _ => rfl) dX12_entry_37 rfl (fun v7 => ?_)
      refine sn_goto (pc' := 48) dX12_entry_40 rfl ?_
      exact sn_iret dX12_entry_48 rfl rfl
theorem c_X12_entry (G : GG) (this : Nat) (a1 : Int32) (a2 : Int32) : Cal G yX12_entry cX12_entry 3 (some FieldType.int) 2 43 (fun v : Int32 => some (.int v)) (X12_entry this a1 a2) [.ref this, .int a1, .int a2] :=
  Cal.of (by decide) (cat_t (cat_i (cat_i cat_nil))) rfl (sn_weak (le_s (le_s (le_s le_e))) (s_X12_entry G this a1 a2))
theorem cw_X12_entry : CW yX12_entry cX12_entry 3 (some FieldType.int) 2 := ⟨tw1722, tw15, by decide, by decide +kernel⟩
/-! X12_told -/
theorem dX12_told_0 : decode cX12_told 0 = .ok (.aload_n 0, 1) := by decide +kernel
theorem dX12_told_1 : decode cX12_told 1 = .ok (.iload_n 1, 1) := by decide +kernel
theorem dX12_told_2 : decode cX12_told 2 = .ok (.invokevirtual 372, 3) := by decide +kernel
theorem dX12_told_5 : decode cX12_told 5 = .ok (.ifCond .ne 9, 3) := by decide +kernel
theorem dX12_told_8 : decode cX12_told 8 = .ok (.aload_n 0, 1) := by decide +kernel
theorem dX12_told_9 : decode cX12_told 9 = .ok (.iconst 1, 1) := by decide +kernel
theorem dX12_told_10 : decode cX12_told 10 = .ok (.invokevirtual 193, 3) := by decide +kernel
theorem dX12_told_13 : decode cX12_told 13 = .ok (.ireturn, 1) := by decide +kernel
theorem dX12_told_14 : decode cX12_told 14 = .ok (.iload_n 2, 1) := by decide +kernel
theorem dX12_told_15 : decode cX12_told 15 = .ok (.iconst 2, 1) := by decide +kernel
theorem dX12_told_16 : decode cX12_told 16 = .ok (.iconst 5, 1) := by decide +kernel
theorem dX12_told_17 : decode cX12_told 17 = .ok (.invokestatic 10, 3) := by decide +kernel
theorem dX12_told_20 : decode cX12_told 20 = .ok (.ifCond .ne 9, 3) := by decide +kernel
theorem dX12_told_23 : decode cX12_told 23 = .ok (.aload_n 0, 1) := by decide +kernel
theorem dX12_told_24 : decode cX12_told 24 = .ok (.iconst 3, 1) := by decide +kernel
theorem dX12_told_25 : decode cX12_told 25 = .ok (.invokevirtual 193, 3) := by decide +kernel
theorem dX12_told_28 : decode cX12_told 28 = .ok (.ireturn, 1) := by decide +kernel
theorem dX12_told_29 : decode cX12_told 29 = .ok (.aload_n 0, 1) := by decide +kernel
theorem dX12_told_30 : decode cX12_told 30 = .ok (.iload_n 1, 1) := by decide +kernel
theorem dX12_told_31 : decode cX12_told 31 = .ok (.invokevirtual 272, 3) := by decide +kernel
theorem dX12_told_34 : decode cX12_told 34 = .ok (.iload_n 3, 1) := by decide +kernel
theorem dX12_told_35 : decode cX12_told 35 = .ok (.istore 4, 2) := by decide +kernel
theorem dX12_told_37 : decode cX12_told 37 = .ok (.iconst 0, 1) := by decide +kernel
theorem dX12_told_38 : decode cX12_told 38 = .ok (.istore 5, 2) := by decide +kernel
theorem dX12_told_40 : decode cX12_told 40 = .ok (.iload 5, 2) := by decide +kernel
theorem dX12_told_42 : decode cX12_told 42 = .ok (.aload_n 0, 1) := by decide +kernel
theorem dX12_told_43 : decode cX12_told 43 = .ok (.iload_n 1, 1) := by decide +kernel
theorem dX12_told_44 : decode cX12_told 44 = .ok (.iload_n 2, 1) := by decide +kernel
theorem dX12_told_45 : decode cX12_told 45 = .ok (.invokevirtual 269, 3) := by decide +kernel
theorem dX12_told_48 : decode cX12_told 48 = .ok (.if_icmp .ge 38, 3) := by decide +kernel
theorem dX12_told_51 : decode cX12_told 51 = .ok (.aload_n 0, 1) := by decide +kernel
theorem dX12_told_52 : decode cX12_told 52 = .ok (.iload_n 1, 1) := by decide +kernel
theorem dX12_told_53 : decode cX12_told 53 = .ok (.iload_n 2, 1) := by decide +kernel
theorem dX12_told_54 : decode cX12_told 54 = .ok (.iload 5, 2) := by decide +kernel
theorem dX12_told_56 : decode cX12_told 56 = .ok (.invokevirtual 260, 3) := by decide +kernel
theorem dX12_told_59 : decode cX12_told 59 = .ok (.ifCond .ne 6, 3) := by decide +kernel
theorem dX12_told_62 : decode cX12_told 62 = .ok (.goto 18, 3) := by decide +kernel
theorem dX12_told_65 : decode cX12_told 65 = .ok (.iload 4, 2) := by decide +kernel
theorem dX12_told_67 : decode cX12_told 67 = .ok (.ifCond .ne 10, 3) := by decide +kernel
theorem dX12_told_70 : decode cX12_told 70 = .ok (.aload_n 0, 1) := by decide +kernel
theorem dX12_told_71 : decode cX12_told 71 = .ok (.iload 5, 2) := by decide +kernel
theorem dX12_told_73 : decode cX12_told 73 = .ok (.invokevirtual 199, 3) := by decide +kernel
theorem dX12_told_76 : decode cX12_told 76 = .ok (.ireturn, 1) := by decide +kernel
theorem dX12_told_77 : decode cX12_told 77 = .ok (.iinc 4 (-1), 3) := by decide +kernel
theorem dX12_told_80 : decode cX12_told 80 = .ok (.iinc 5 1, 3) := by decide +kernel
theorem dX12_told_83 : decode cX12_told 83 = .ok (.goto (-43), 3) := by decide +kernel
theorem dX12_told_86 : decode cX12_told 86 = .ok (.aload_n 0, 1) := by decide +kernel
theorem dX12_told_87 : decode cX12_told 87 = .ok (.iconst 1, 1) := by decide +kernel
theorem dX12_told_88 : decode cX12_told 88 = .ok (.invokevirtual 193, 3) := by decide +kernel
theorem dX12_told_91 : decode cX12_told 91 = .ok (.ireturn, 1) := by decide +kernel
def X12_told_70  (this : Nat) (x5 : Int32) : MM Int32 :=
  mb (wc 13 (some this) fun t => X12_fine t x5) fun v1 =>
  mr v1
def X12_told_80 (k40 : Nat → Int32 → Int32 → Int32 → Int32 → MM Int32) (this : Nat) (x1 : Int32) (x2 : Int32) (x4 : Int32) (x5 : Int32) : MM Int32 :=
  (k40 this x1 x2 x4 (x5 + (1 : Int32)))
def X12_told_86  (this : Nat) : MM Int32 :=
  mb (wc 13 (some this) fun t => X12_no t (1 : Int32)) fun v1 =>
  mr v1
def X12_told_40_st  (k40 : Nat → Int32 → Int32 → Int32 → Int32 → MM Int32) (this : Nat) (x1 : Int32) (x2 : Int32) (x4 : Int32) (x5 : Int32) : MM Int32 :=
  mb (wc 13 (some this) fun t => X12_many t x1 x2) fun v1 =>
  if v1 ≤ x5 then ((X12_told_86 this)) else (mb (wc 13 (some this) fun t => X12_isTold t x1 x2 x5) fun v2 =>
  if v2 = 0 then ((X12_told_80 k40 this x1 x2 x4 x5)) else (if x4 = 0 then ((X12_told_70 this x5)) else ((X12_told_80 k40 this x1 x2 (x4 + (-1 : Int32)) x5))))
def X12_told_40  : Nat → Nat → Int32 → Int32 → Int32 → Int32 → MM Int32
  | 0 => fun _ _ _ _ _ => mf
  | n + 1 => fun this x1 x2 x4 x5 => X12_told_40_st  (X12_told_40  n) this x1 x2 x4 x5
def X12_told (this : Nat) (a1 : Int32) (a2 : Int32) (a3 : Int32) : MM Int32 :=
  mb (wc 13 (some this) fun t => X12_isCopy t a1) fun v1 =>
  if v1 = 0 then (mb (wc 13 (some this) fun t => X12_no t (1 : Int32)) fun v2 =>
  mr v2) else (mb (X12_isIn a2 (2 : Int32) (5 : Int32)) fun v3 =>
  if v3 = 0 then (mb (wc 13 (some this) fun t => X12_no t (3 : Int32)) fun v4 =>
  mr v4) else (mb (wc 13 (some this) fun t => X12_look t a1) fun _ =>
  (X12_told_40 LFU this a1 a2 a3 (0 : Int32))))
set_option maxRecDepth 100000 in
set_option maxHeartbeats 4000000 in
theorem s_X12_told_70 (G : GG)   (this : Nat) (x5 : Int32) : Sn G yX12_told cX12_told 6 (some FieldType.int) 4 96 (fun v : Int32 => some (.int v)) (X12_told_70  this x5) 70 [some (va_rf (some this)), none, none, none, none, some (.int x5)] [] := by
  unfold X12_told_70
  refine sn_aload_n (v := (some this)) (pc' := 71) dX12_told_70 rfl rfl rfl ?_
  refine sn_iload (v := x5) (pc' := 73) dX12_told_71 rfl rfl ?_
  refine sn_cV (r := (some this)) (st := []) (As := [.int x5]) (st2 := (fun v => .int v :: [])) (pc' := 76) ci_13 (fun t => c_X12_fine G t x5) cw_X12_fine rfl rfl tw1435 pw45 tw1437 rfl rfl cat_nil rfl (fun _ => rfl) dX12_told_73 rfl (fun v1 => ?_)
  exact sn_iret dX12_told_76 rfl rfl
set_option maxRecDepth 100000 in
set_option maxHeartbeats 4000000 in
theorem s_X12_told_80 (G : GG) (k40 : Nat → Int32 → Int32 → Int32 → Int32 → MM Int32) (hk40 : ∀ (this : Nat) (x1 : Int32) (x2 : Int32) (x4 : Int32) (x5 : Int32), Sn G yX12_told cX12_told 6 (some FieldType.int) 4 96 (fun v : Int32 => some (.int v)) (k40 this x1 x2 x4 x5) 40 [some (va_rf (some this)), some (.int x1), some (.int x2), none, some (.int x4), some (.int x5)] []) (this : Nat) (x1 : Int32) (x2 : Int32) (x4 : Int32) (x5 : Int32) : Sn G yX12_told cX12_told 6 (some FieldType.int) 4 96 (fun v : Int32 => some (.int v)) (X12_told_80 k40 this x1 x2 x4 x5) 80 [some (va_rf (some this)), some (.int x1), some (.int x2), none, some (.int x4), some (.int x5)] [] := by
  unfold X12_told_80
  refine sn_iinc (v := x5) (w := 1) (L' := [some (va_rf (some this)), some (.int x1), some (.int x2), none, some (.int x4), some (.int (x5 + (1 : Int32)))]) (pc' := 83) dX12_told_80 rfl rfl rfl (by decide) rfl ?_
  refine sn_goto (pc' := 40) dX12_told_83 rfl ?_
  exact sn_weak (le_s (le_s (le_s (le_n (le_s (le_s le_e)))))) (hk40 this x1 x2 x4 (x5 + (1 : Int32)))
set_option maxRecDepth 100000 in
set_option maxHeartbeats 4000000 in
theorem s_X12_told_86 (G : GG)   (this : Nat) : Sn G yX12_told cX12_told 6 (some FieldType.int) 4 96 (fun v : Int32 => some (.int v)) (X12_told_86  this) 86 [some (va_rf (some this)), none, none, none, none, none] [] := by
  unfold X12_told_86
  refine sn_aload_n (v := (some this)) (pc' := 87) dX12_told_86 rfl rfl rfl ?_
  refine sn_iconst (v := (1 : Int32)) (pc' := 88) dX12_told_87 rfl (by decide) ?_
  refine sn_cV (r := (some this)) (st := []) (As := [.int (1 : Int32)]) (st2 := (fun v => .int v :: [])) (pc' := 91) ci_13 (fun t => c_X12_no G t (1 : Int32)) cw_X12_no rfl rfl tw1431 pw44 tw1433 rfl rfl cat_nil rfl (fun _ => rfl) dX12_told_88 rfl (fun v1 => ?_)
  exact sn_iret dX12_told_91 rfl rfl
set_option maxRecDepth 100000 in
set_option maxHeartbeats 4000000 in
theorem s_X12_told_40_st (G : GG)   (k40 : Nat → Int32 → Int32 → Int32 → Int32 → MM Int32) (hk40 : ∀ (this : Nat) (x1 : Int32) (x2 : Int32) (x4 : Int32) (x5 : Int32), Sn G yX12_told cX12_told 6 (some FieldType.int) 4 96 (fun v : Int32 => some (.int v)) (k40 this x1 x2 x4 x5) 40 [some (va_rf (some this)), some (.int x1), some (.int x2), none, some (.int x4), some (.int x5)] []) (this : Nat) (x1 : Int32) (x2 : Int32) (x4 : Int32) (x5 : Int32) : Sn G yX12_told cX12_told 6 (some FieldType.int) 4 96 (fun v : Int32 => some (.int v)) (X12_told_40_st  k40 this x1 x2 x4 x5) 40 [some (va_rf (some this)), some (.int x1), some (.int x2), none, some (.int x4), some (.int x5)] [] := by
  unfold X12_told_40_st
  refine sn_iload (v := x5) (pc' := 42) dX12_told_40 rfl rfl ?_
  refine sn_aload_n (v := (some this)) (pc' := 43) dX12_told_42 rfl rfl rfl ?_
  refine sn_iload_n (v := x1) (pc' := 44) dX12_told_43 rfl rfl rfl ?_
  refine sn_iload_n (v := x2) (pc' := 45) dX12_told_44 rfl rfl rfl ?_
  refine sn_cV (r := (some this)) (st := [.int x5]) (As := [.int x1, .int x2]) (st2 := (fun v => .int v :: [.int x5])) (pc' := 48) ci_13 (fun t => c_X12_many G t x1 x2) cw_X12_many rfl rfl tw1711 pw87 tw1713 rfl rfl (cat_i cat_nil) rfl (fun _ => rfl) dX12_told_45 rfl (fun v1 => ?_)
  refine sn_ic_ge (pt := 86) (pf := 51) dX12_told_48 rfl rfl ?_ ?_
  · exact sn_weak (le_s (le_n (le_n (le_n (le_n (le_n le_e)))))) (s_X12_told_86 G this)
  · refine sn_aload_n (v := (some this)) (pc' := 52) dX12_told_51 rfl rfl rfl ?_
    refine sn_iload_n (v := x1) (pc' := 53) dX12_told_52 rfl rfl rfl ?_
    refine sn_iload_n (v := x2) (pc' := 54) dX12_told_53 rfl rfl rfl ?_
    refine sn_iload (v := x5) (pc' := 56) dX12_told_54 rfl rfl ?_
    refine sn_cV (r := (some this)) (st := []) (As := [.int x1, .int x2, .int x5]) (st2 := (fun v => .int v :: [])) (pc' := 59) ci_13 (fun t => c_X12_isTold G t x1 x2 x5) cw_X12_isTold rfl rfl tw1715 pw88 tw1717 rfl rfl cat_nil rfl (fun _ => rfl) dX12_told_56 rfl (fun v2 => ?_)
    refine sn_if_ne (pt := 65) (pf := 62) dX12_told_59 rfl rfl ?_ ?_
    · refine sn_goto (pc' := 80) dX12_told_62 rfl ?_
      exact sn_weak (le_s (le_s (le_s (le_n (le_s (le_s le_e)))))) (s_X12_told_80 G k40 hk40 this x1 x2 x4 x5)
    · refine sn_iload (v := x4) (pc' := 67) dX12_told_65 rfl rfl ?_
      refine sn_if_ne (pt := 77) (pf := 70) dX12_told_67 rfl rfl ?_ ?_
      · exact sn_weak (le_s (le_n (le_n (le_n (le_n (le_s le_e)))))) (s_X12_told_70 G this x5)
      · refine sn_iinc (v := x4) (w := -1) (L' := [some (va_rf (some this)), some (.int x1), some (.int x2), none, some (.int (x4 + (-1 : Int32))), some (.int x5)]) (pc' := 80) dX12_told_77 rfl rfl rfl (by decide) rfl ?_
        exact sn_weak (le_s (le_s (le_s (le_n (le_s (le_s le_e)))))) (s_X12_told_80 G k40 hk40 this x1 x2 (x4 + (-1 : Int32)) x5)
set_option maxRecDepth 100000 in
set_option maxHeartbeats 4000000 in
theorem s_X12_told_40 (G : GG)   : ∀ (n : Nat) (this : Nat) (x1 : Int32) (x2 : Int32) (x4 : Int32) (x5 : Int32), Sn G yX12_told cX12_told 6 (some FieldType.int) 4 96 (fun v : Int32 => some (.int v)) (X12_told_40  n this x1 x2 x4 x5) 40 [some (va_rf (some this)), some (.int x1), some (.int x2), none, some (.int x4), some (.int x5)] [] := by
  intro n
  induction n with
  | zero => intro this x1 x2 x4 x5; exact sn_mf
  | succ n ih => intro this x1 x2 x4 x5; exact s_X12_told_40_st G   (X12_told_40  n) ih this x1 x2 x4 x5
set_option maxRecDepth 100000 in
set_option maxHeartbeats 4000000 in
theorem s_X12_told (G : GG) (this : Nat) (a1 : Int32) (a2 : Int32) (a3 : Int32) : Sn G yX12_told cX12_told 6 (some FieldType.int) 4 96 (fun v : Int32 => some (.int v)) (X12_told this a1 a2 a3) 0 [some (va_rf (some this)), some (.int a1), some (.int a2), some (.int a3), none, none] [] := by
  unfold X12_told
  refine sn_aload_n (v := (some this)) (pc' := 1) dX12_told_0 rfl rfl rfl ?_
  refine sn_iload_n (v := a1) (pc' := 2) dX12_told_1 rfl rfl rfl ?_
  refine sn_cV (r := (some this)) (st := []) (As := [.int a1]) (st2 := (fun v => .int v :: [])) (pc' := 5) ci_13 (fun t => c_X12_isCopy G t a1) cw_X12_isCopy rfl rfl tw1698 pw84 tw1700 rfl rfl cat_nil rfl (fun _ => rfl) dX12_told_2 rfl (fun v1 => ?_)
  refine sn_if_ne (pt := 14) (pf := 8) dX12_told_5 rfl rfl ?_ ?_
  · refine sn_aload_n (v := (some this)) (pc' := 9) dX12_told_8 rfl rfl rfl ?_
    refine sn_iconst (v := (1 : Int32)) (pc' := 10) dX12_told_9 rfl (by decide) ?_
    refine sn_cV (r := (some this)) (st := []) (As := [.int (1 : Int32)]) (st2 := (fun v => .int v :: [])) (pc' := 13) ci_13 (fun t => c_X12_no G t (1 : Int32)) cw_X12_no rfl rfl tw1431 pw44 tw1433 rfl rfl cat_nil rfl (fun _ => rfl) dX12_told_10 rfl (fun v2 => ?_)
    exact sn_iret dX12_told_13 rfl rfl
  · refine sn_iload_n (v := a2) (pc' := 15) dX12_told_14 rfl rfl rfl ?_
    refine sn_iconst (v := (2 : Int32)) (pc' := 16) dX12_told_15 rfl (by decide) ?_
    refine sn_iconst (v := (5 : Int32)) (pc' := 17) dX12_told_16 rfl (by decide) ?_
    refine sn_cS (st := []) (As := [.int a2, .int (2 : Int32), .int (5 : Int32)]) (st2 := (fun v => .int v :: [])) (pc' := 20) (c_X12_isIn G a2 (2 : Int32) (5 : Int32)) cw_X12_isIn rfl rfl tw1443 tw1444 rfl rfl cat_nil rfl (fun _ => rfl) dX12_told_17 rfl (fun v3 => ?_)
    refine sn_if_ne (pt := 29) (pf := 23) dX12_told_20 rfl rfl ?_ ?_
    · refine sn_aload_n (v := (some this)) (pc' := 24) dX12_told_23 rfl rfl rfl ?_
      refine sn_iconst (v := (3 : Int32)) (pc' := 25) dX12_told_24 rfl (by decide) ?_
      refine sn_cV (r := (some this)) (st := []) (As := [.int (3 : Int32)]) (st2 := (fun v => .int v :: [])) (pc' := 28) ci_13 (fun t => c_X12_no G t (3 : Int32)) cw_X12_no rfl rfl tw1431 pw44 tw1433 rfl rfl cat_nil rfl (fun _ => rfl) dX12_told_25 rfl (fun v4 => ?_)
      exact sn_iret dX12_told_28 rfl rfl
    · refine sn_aload_n (v := (some this)) (pc' := 30) dX12_told_29 rfl rfl rfl ?_
      refine sn_iload_n (v := a1) (pc' := 31) dX12_told_30 rfl rfl rfl ?_
      refine sn_cV (r := (some this)) (st := []) (As := [.int a1]) (st2 := (fun _ => [])) (pc' := 34) ci_13 (fun t => c_X12_look G t a1) cw_X12_look rfl rfl tw1702 pw85 tw1704 rfl rfl cat_nil rfl (fun _ => rfl) dX12_told_31 rfl (fun _ => ?_)
      refine sn_iload_n (v := a3) (pc' := 35) dX12_told_34 rfl rfl rfl ?_
      refine sn_istore (v := a3) (L' := [some (va_rf (some this)), some (.int a1), some (.int a2), some (.int a3), some (.int a3), none]) (pc' := 37) dX12_told_35 rfl rfl rfl ?_
      refine sn_iconst (v := (0 : Int32)) (pc' := 38) dX12_told_37 rfl (by decide) ?_
      refine sn_istore (v := (0 : Int32)) (L' := [some (va_rf (some this)), some (.int a1), some (.int a2), some (.int a3), some (.int a3), some (.int (0 : Int32))]) (pc' := 40) dX12_told_38 rfl rfl rfl ?_
      exact sn_weak (le_s (le_s (le_s (le_n (le_s (le_s le_e)))))) (s_X12_told_40 G LFU this a1 a2 a3 (0 : Int32))
theorem c_X12_told (G : GG) (this : Nat) (a1 : Int32) (a2 : Int32) (a3 : Int32) : Cal G yX12_told cX12_told 6 (some FieldType.int) 4 96 (fun v : Int32 => some (.int v)) (X12_told this a1 a2 a3) [.ref this, .int a1, .int a2, .int a3] :=
  Cal.of (by decide) (cat_t (cat_i (cat_i (cat_i cat_nil)))) rfl (sn_weak (le_s (le_s (le_s (le_s (le_z (le_z le_e)))))) (s_X12_told G this a1 a2 a3))
theorem cw_X12_told : CW yX12_told cX12_told 6 (some FieldType.int) 3 := ⟨tw1726, tw15, by decide, by decide +kernel⟩
/-! X12_note -/
theorem dX12_note_0 : decode cX12_note 0 = .ok (.aload_n 0, 1) := by decide +kernel
theorem dX12_note_1 : decode cX12_note 1 = .ok (.iload_n 1, 1) := by decide +kernel
theorem dX12_note_2 : decode cX12_note 2 = .ok (.invokevirtual 372, 3) := by decide +kernel
theorem dX12_note_5 : decode cX12_note 5 = .ok (.ifCond .ne 9, 3) := by decide +kernel
theorem dX12_note_8 : decode cX12_note 8 = .ok (.aload_n 0, 1) := by decide +kernel
theorem dX12_note_9 : decode cX12_note 9 = .ok (.iconst 1, 1) := by decide +kernel
theorem dX12_note_10 : decode cX12_note 10 = .ok (.invokevirtual 193, 3) := by decide +kernel
theorem dX12_note_13 : decode cX12_note 13 = .ok (.ireturn, 1) := by decide +kernel
theorem dX12_note_14 : decode cX12_note 14 = .ok (.aload_n 0, 1) := by decide +kernel
theorem dX12_note_15 : decode cX12_note 15 = .ok (.iload_n 1, 1) := by decide +kernel
theorem dX12_note_16 : decode cX12_note 16 = .ok (.invokevirtual 375, 3) := by decide +kernel
theorem dX12_note_19 : decode cX12_note 19 = .ok (.aload_n 0, 1) := by decide +kernel
theorem dX12_note_20 : decode cX12_note 20 = .ok (.iload_n 2, 1) := by decide +kernel
theorem dX12_note_21 : decode cX12_note 21 = .ok (.invokevirtual 360, 3) := by decide +kernel
theorem dX12_note_24 : decode cX12_note 24 = .ok (.ireturn, 1) := by decide +kernel
def X12_note (this : Nat) (a1 : Int32) (a2 : Int32) : MM Int32 :=
  mb (wc 13 (some this) fun t => X12_isCopy t a1) fun v1 =>
  if v1 = 0 then (mb (wc 13 (some this) fun t => X12_no t (1 : Int32)) fun v2 =>
  mr v2) else (mb (wc 13 (some this) fun t => X12_writeNote t a1) fun _ =>
  mb (wc 13 (some this) fun t => X12_tell t a2) fun v3 =>
  mr v3)
set_option maxRecDepth 100000 in
set_option maxHeartbeats 4000000 in
theorem s_X12_note (G : GG) (this : Nat) (a1 : Int32) (a2 : Int32) : Sn G yX12_note cX12_note 3 (some FieldType.int) 9 201 (fun v : Int32 => some (.int v)) (X12_note this a1 a2) 0 [some (va_rf (some this)), some (.int a1), some (.int a2)] [] := by
  unfold X12_note
  refine sn_aload_n (v := (some this)) (pc' := 1) dX12_note_0 rfl rfl rfl ?_
  refine sn_iload_n (v := a1) (pc' := 2) dX12_note_1 rfl rfl rfl ?_
  refine sn_cV (r := (some this)) (st := []) (As := [.int a1]) (st2 := (fun v => .int v :: [])) (pc' := 5) ci_13 (fun t => c_X12_isCopy G t a1) cw_X12_isCopy rfl rfl tw1698 pw84 tw1700 rfl rfl cat_nil rfl (fun _ => rfl) dX12_note_2 rfl (fun v1 => ?_)
  refine sn_if_ne (pt := 14) (pf := 8) dX12_note_5 rfl rfl ?_ ?_
  · refine sn_aload_n (v := (some this)) (pc' := 9) dX12_note_8 rfl rfl rfl ?_
    refine sn_iconst (v := (1 : Int32)) (pc' := 10) dX12_note_9 rfl (by decide) ?_
    refine sn_cV (r := (some this)) (st := []) (As := [.int (1 : Int32)]) (st2 := (fun v => .int v :: [])) (pc' := 13) ci_13 (fun t => c_X12_no G t (1 : Int32)) cw_X12_no rfl rfl tw1431 pw44 tw1433 rfl rfl cat_nil rfl (fun _ => rfl) dX12_note_10 rfl (fun v2 => ?_)
    exact sn_iret dX12_note_13 rfl rfl
  · refine sn_aload_n (v := (some this)) (pc' := 15) dX12_note_14 rfl rfl rfl ?_
    refine sn_iload_n (v := a1) (pc' := 16) dX12_note_15 rfl rfl rfl ?_
    refine sn_cV (r := (some this)) (st := []) (As := [.int a1]) (st2 := (fun _ => [])) (pc' := 19) ci_13 (fun t => c_X12_writeNote G t a1) cw_X12_writeNote rfl rfl tw1731 pw89 tw1733 rfl rfl cat_nil rfl (fun _ => rfl) dX12_note_16 rfl (fun _ => ?_)
    refine sn_aload_n (v := (some this)) (pc' := 20) dX12_note_19 rfl rfl rfl ?_
    refine sn_iload_n (v := a2) (pc' := 21) dX12_note_20 rfl rfl rfl ?_
    refine sn_cV (r := (some this)) (st := []) (As := [.int a2]) (st2 := (fun v => .int v :: [])) (pc' := 24) ci_13 (fun t => c_X12_tell G t a2) cw_X12_tell rfl rfl tw1653 pw82 tw1655 rfl rfl cat_nil rfl (fun _ => rfl) dX12_note_21 rfl (fun v3 => ?_)
    exact sn_iret dX12_note_24 rfl rfl
theorem c_X12_note (G : GG) (this : Nat) (a1 : Int32) (a2 : Int32) : Cal G yX12_note cX12_note 3 (some FieldType.int) 9 201 (fun v : Int32 => some (.int v)) (X12_note this a1 a2) [.ref this, .int a1, .int a2] :=
  Cal.of (by decide) (cat_t (cat_i (cat_i cat_nil))) rfl (sn_weak (le_s (le_s (le_s le_e))) (s_X12_note G this a1 a2))
theorem cw_X12_note : CW yX12_note cX12_note 3 (some FieldType.int) 2 := ⟨tw1730, tw15, by decide, by decide +kernel⟩
/-! X12_mark -/
theorem dX12_mark_0 : decode cX12_mark 0 = .ok (.iconst 0, 1) := by decide +kernel
theorem dX12_mark_1 : decode cX12_mark 1 = .ok (.istore_n 3, 1) := by decide +kernel
theorem dX12_mark_2 : decode cX12_mark 2 = .ok (.iload_n 3, 1) := by decide +kernel
theorem dX12_mark_3 : decode cX12_mark 3 = .ok (.sipush 400, 3) := by decide +kernel
theorem dX12_mark_6 : decode cX12_mark 6 = .ok (.if_icmp .ge 13, 3) := by decide +kernel
theorem dX12_mark_9 : decode cX12_mark 9 = .ok (.aload_n 2, 1) := by decide +kernel
theorem dX12_mark_10 : decode cX12_mark 10 = .ok (.iload_n 3, 1) := by decide +kernel
theorem dX12_mark_11 : decode cX12_mark 11 = .ok (.iconst 0, 1) := by decide +kernel
theorem dX12_mark_12 : decode cX12_mark 12 = .ok (.bastore, 1) := by decide +kernel
theorem dX12_mark_13 : decode cX12_mark 13 = .ok (.iinc 3 1, 3) := by decide +kernel
theorem dX12_mark_16 : decode cX12_mark 16 = .ok (.goto (-14), 3) := by decide +kernel
theorem dX12_mark_19 : decode cX12_mark 19 = .ok (.iconst 0, 1) := by decide +kernel
theorem dX12_mark_20 : decode cX12_mark 20 = .ok (.istore_n 3, 1) := by decide +kernel
theorem dX12_mark_21 : decode cX12_mark 21 = .ok (.iload_n 3, 1) := by decide +kernel
theorem dX12_mark_22 : decode cX12_mark 22 = .ok (.aload_n 0, 1) := by decide +kernel
theorem dX12_mark_23 : decode cX12_mark 23 = .ok (.getfield 242, 3) := by decide +kernel
theorem dX12_mark_26 : decode cX12_mark 26 = .ok (.iload_n 1, 1) := by decide +kernel
theorem dX12_mark_27 : decode cX12_mark 27 = .ok (.iaload, 1) := by decide +kernel
theorem dX12_mark_28 : decode cX12_mark 28 = .ok (.if_icmp .ge 24, 3) := by decide +kernel
theorem dX12_mark_31 : decode cX12_mark 31 = .ok (.aload_n 2, 1) := by decide +kernel
theorem dX12_mark_32 : decode cX12_mark 32 = .ok (.aload_n 0, 1) := by decide +kernel
theorem dX12_mark_33 : decode cX12_mark 33 = .ok (.getfield 245, 3) := by decide +kernel
theorem dX12_mark_36 : decode cX12_mark 36 = .ok (.iload_n 1, 1) := by decide +kernel
theorem dX12_mark_37 : decode cX12_mark 37 = .ok (.sipush 400, 3) := by decide +kernel
theorem dX12_mark_40 : decode cX12_mark 40 = .ok (.imul, 1) := by decide +kernel
theorem dX12_mark_41 : decode cX12_mark 41 = .ok (.iload_n 3, 1) := by decide +kernel
theorem dX12_mark_42 : decode cX12_mark 42 = .ok (.iadd, 1) := by decide +kernel
theorem dX12_mark_43 : decode cX12_mark 43 = .ok (.iaload, 1) := by decide +kernel
theorem dX12_mark_44 : decode cX12_mark 44 = .ok (.iconst 1, 1) := by decide +kernel
theorem dX12_mark_45 : decode cX12_mark 45 = .ok (.bastore, 1) := by decide +kernel
theorem dX12_mark_46 : decode cX12_mark 46 = .ok (.iinc 3 1, 3) := by decide +kernel
theorem dX12_mark_49 : decode cX12_mark 49 = .ok (.goto (-28), 3) := by decide +kernel
theorem dX12_mark_52 : decode cX12_mark 52 = .ok (.return_, 1) := by decide +kernel
def X12_mark_21_st  (k21 : Nat → Int32 → Option Nat → Int32 → MM Unit) (this : Nat) (x1 : Int32) (x2 : Option Nat) (x3 : Int32) : MM Unit :=
  mb (gR 13 (some this) 17) fun v1 =>
  mb (aI v1 x1) fun v2 =>
  if v2 ≤ x3 then (mr ()) else (mb (gR 13 (some this) 18) fun v3 =>
  mb (aI v3 ((x1 * (400 : Int32)) + x3)) fun v4 =>
  mb (sB x2 v4 (1 : Int32)) fun _ =>
  (k21 this x1 x2 (x3 + (1 : Int32))))
def X12_mark_21  : Nat → Nat → Int32 → Option Nat → Int32 → MM Unit
  | 0 => fun _ _ _ _ => mf
  | n + 1 => fun this x1 x2 x3 => X12_mark_21_st  (X12_mark_21  n) this x1 x2 x3
def X12_mark_19  (this : Nat) (x1 : Int32) (x2 : Option Nat) : MM Unit :=
  (X12_mark_21 LFU this x1 x2 (0 : Int32))
def X12_mark_2_st  (k2 : Nat → Int32 → Option Nat → Int32 → MM Unit) (this : Nat) (x1 : Int32) (x2 : Option Nat) (x3 : Int32) : MM Unit :=
  if (400 : Int32) ≤ x3 then ((X12_mark_19 this x1 x2)) else (mb (sB x2 x3 (0 : Int32)) fun _ =>
  (k2 this x1 x2 (x3 + (1 : Int32))))
def X12_mark_2  : Nat → Nat → Int32 → Option Nat → Int32 → MM Unit
  | 0 => fun _ _ _ _ => mf
  | n + 1 => fun this x1 x2 x3 => X12_mark_2_st  (X12_mark_2  n) this x1 x2 x3
def X12_mark (this : Nat) (a1 : Int32) (a2 : Option Nat) : MM Unit :=
  (X12_mark_2 LFU this a1 a2 (0 : Int32))
set_option maxRecDepth 100000 in
set_option maxHeartbeats 4000000 in
theorem s_X12_mark_21_st (G : GG)   (k21 : Nat → Int32 → Option Nat → Int32 → MM Unit) (hk21 : ∀ (this : Nat) (x1 : Int32) (x2 : Option Nat) (x3 : Int32), Sn G yX12_mark cX12_mark 4 none 0 0 (fun _ : Unit => none) (k21 this x1 x2 x3) 21 [some (va_rf (some this)), some (.int x1), some (va_rf x2), some (.int x3)] []) (this : Nat) (x1 : Int32) (x2 : Option Nat) (x3 : Int32) : Sn G yX12_mark cX12_mark 4 none 0 0 (fun _ : Unit => none) (X12_mark_21_st  k21 this x1 x2 x3) 21 [some (va_rf (some this)), some (.int x1), some (va_rf x2), some (.int x3)] [] := by
  unfold X12_mark_21_st
  refine sn_iload_n (v := x3) (pc' := 22) dX12_mark_21 rfl rfl rfl ?_
  refine sn_aload_n (v := (some this)) (pc' := 23) dX12_mark_22 rfl rfl rfl ?_
  refine sn_gR (k := 17) (pc' := 26) ci_13 rfl (Or.inl tw1295) dX12_mark_23 rfl (fun v1 => ?_)
  refine sn_iload_n (v := x1) (pc' := 27) dX12_mark_26 rfl rfl rfl ?_
  refine sn_aI (pc' := 28) dX12_mark_27 rfl (fun v2 => ?_)
  refine sn_ic_ge (pt := 52) (pf := 31) dX12_mark_28 rfl rfl ?_ ?_
  · exact sn_vret dX12_mark_52 rfl
  · refine sn_aload_n (v := x2) (pc' := 32) dX12_mark_31 rfl rfl rfl ?_
    refine sn_aload_n (v := (some this)) (pc' := 33) dX12_mark_32 rfl rfl rfl ?_
    refine sn_gR (k := 18) (pc' := 36) ci_13 rfl (Or.inl tw1296) dX12_mark_33 rfl (fun v3 => ?_)
    refine sn_iload_n (v := x1) (pc' := 37) dX12_mark_36 rfl rfl rfl ?_
    refine sn_sipush (v := (400 : Int32)) (pc' := 40) dX12_mark_37 rfl (by decide) ?_
    refine sn_imul (pc' := 41) dX12_mark_40 rfl ?_
    refine sn_iload_n (v := x3) (pc' := 42) dX12_mark_41 rfl rfl rfl ?_
    refine sn_iadd (pc' := 43) dX12_mark_42 rfl ?_
    refine sn_aI (pc' := 44) dX12_mark_43 rfl (fun v4 => ?_)
    refine sn_iconst (v := (1 : Int32)) (pc' := 45) dX12_mark_44 rfl (by decide) ?_
    refine sn_sB (pc' := 46) dX12_mark_45 rfl (fun _ => ?_)
    refine sn_iinc (v := x3) (w := 1) (L' := [some (va_rf (some this)), some (.int x1), some (va_rf x2), some (.int (x3 + (1 : Int32)))]) (pc' := 49) dX12_mark_46 rfl rfl rfl (by decide) rfl ?_
    refine sn_goto (pc' := 21) dX12_mark_49 rfl ?_
    exact sn_weak (le_s (le_s (le_s (le_s le_e)))) (hk21 this x1 x2 (x3 + (1 : Int32)))
set_option maxRecDepth 100000 in
set_option maxHeartbeats 4000000 in
theorem s_X12_mark_21 (G : GG)   : ∀ (n : Nat) (this : Nat) (x1 : Int32) (x2 : Option Nat) (x3 : Int32), Sn G yX12_mark cX12_mark 4 none 0 0 (fun _ : Unit => none) (X12_mark_21  n this x1 x2 x3) 21 [some (va_rf (some this)), some (.int x1), some (va_rf x2), some (.int x3)] [] := by
  intro n
  induction n with
  | zero => intro this x1 x2 x3; exact sn_mf
  | succ n ih => intro this x1 x2 x3; exact s_X12_mark_21_st G   (X12_mark_21  n) ih this x1 x2 x3
set_option maxRecDepth 100000 in
set_option maxHeartbeats 4000000 in
theorem s_X12_mark_19 (G : GG)   (this : Nat) (x1 : Int32) (x2 : Option Nat) : Sn G yX12_mark cX12_mark 4 none 0 0 (fun _ : Unit => none) (X12_mark_19  this x1 x2) 19 [some (va_rf (some this)), some (.int x1), some (va_rf x2), none] [] := by
  unfold X12_mark_19
  refine sn_iconst (v := (0 : Int32)) (pc' := 20) dX12_mark_19 rfl (by decide) ?_
  refine sn_istore_n (v := (0 : Int32)) (L' := [some (va_rf (some this)), some (.int x1), some (va_rf x2), some (.int (0 : Int32))]) (pc' := 21) dX12_mark_20 rfl rfl rfl rfl ?_
  exact sn_weak (le_s (le_s (le_s (le_s le_e)))) (s_X12_mark_21 G LFU this x1 x2 (0 : Int32))
set_option maxRecDepth 100000 in
set_option maxHeartbeats 4000000 in
theorem s_X12_mark_2_st (G : GG)   (k2 : Nat → Int32 → Option Nat → Int32 → MM Unit) (hk2 : ∀ (this : Nat) (x1 : Int32) (x2 : Option Nat) (x3 : Int32), Sn G yX12_mark cX12_mark 4 none 0 0 (fun _ : Unit => none) (k2 this x1 x2 x3) 2 [some (va_rf (some this)), some (.int x1), some (va_rf x2), some (.int x3)] []) (this : Nat) (x1 : Int32) (x2 : Option Nat) (x3 : Int32) : Sn G yX12_mark cX12_mark 4 none 0 0 (fun _ : Unit => none) (X12_mark_2_st  k2 this x1 x2 x3) 2 [some (va_rf (some this)), some (.int x1), some (va_rf x2), some (.int x3)] [] := by
  unfold X12_mark_2_st
  refine sn_iload_n (v := x3) (pc' := 3) dX12_mark_2 rfl rfl rfl ?_
  refine sn_sipush (v := (400 : Int32)) (pc' := 6) dX12_mark_3 rfl (by decide) ?_
  refine sn_ic_ge (pt := 19) (pf := 9) dX12_mark_6 rfl rfl ?_ ?_
  · exact sn_weak (le_s (le_s (le_s (le_n le_e)))) (s_X12_mark_19 G this x1 x2)
  · refine sn_aload_n (v := x2) (pc' := 10) dX12_mark_9 rfl rfl rfl ?_
    refine sn_iload_n (v := x3) (pc' := 11) dX12_mark_10 rfl rfl rfl ?_
    refine sn_iconst (v := (0 : Int32)) (pc' := 12) dX12_mark_11 rfl (by decide) ?_
    refine sn_sB (pc' := 13) dX12_mark_12 rfl (fun _ => ?_)
    refine sn_iinc (v := x3) (w := 1) (L' := [some (va_rf (some this)), some (.int x1), some (va_rf x2), some (.int (x3 + (1 : Int32)))]) (pc' := 16) dX12_mark_13 rfl rfl rfl (by decide) rfl ?_
    refine sn_goto (pc' := 2) dX12_mark_16 rfl ?_
    exact sn_weak (le_s (le_s (le_s (le_s le_e)))) (hk2 this x1 x2 (x3 + (1 : Int32)))
set_option maxRecDepth 100000 in
set_option maxHeartbeats 4000000 in
theorem s_X12_mark_2 (G : GG)   : ∀ (n : Nat) (this : Nat) (x1 : Int32) (x2 : Option Nat) (x3 : Int32), Sn G yX12_mark cX12_mark 4 none 0 0 (fun _ : Unit => none) (X12_mark_2  n this x1 x2 x3) 2 [some (va_rf (some this)), some (.int x1), some (va_rf x2), some (.int x3)] [] := by
  intro n
  induction n with
  | zero => intro this x1 x2 x3; exact sn_mf
  | succ n ih => intro this x1 x2 x3; exact s_X12_mark_2_st G   (X12_mark_2  n) ih this x1 x2 x3
set_option maxRecDepth 100000 in
set_option maxHeartbeats 4000000 in
theorem s_X12_mark (G : GG) (this : Nat) (a1 : Int32) (a2 : Option Nat) : Sn G yX12_mark cX12_mark 4 none 0 0 (fun _ : Unit => none) (X12_mark this a1 a2) 0 [some (va_rf (some this)), some (.int a1), some (va_rf a2), none] [] := by
  unfold X12_mark
  refine sn_iconst (v := (0 : Int32)) (pc' := 1) dX12_mark_0 rfl (by decide) ?_
  refine sn_istore_n (v := (0 : Int32)) (L' := [some (va_rf (some this)), some (.int a1), some (va_rf a2), some (.int (0 : Int32))]) (pc' := 2) dX12_mark_1 rfl rfl rfl rfl ?_
  exact sn_weak (le_s (le_s (le_s (le_s le_e)))) (s_X12_mark_2 G LFU this a1 a2 (0 : Int32))
theorem c_X12_mark (G : GG) (this : Nat) (a1 : Int32) (a2 : Option Nat) : Cal G yX12_mark cX12_mark 4 none 0 0 (fun _ : Unit => none) (X12_mark this a1 a2) [.ref this, .int a1, va_rf a2] :=
  Cal.of (by decide) (cat_t (cat_i (cat_q cat_nil))) rfl (sn_weak (le_s (le_s (le_s (le_z le_e)))) (s_X12_mark G this a1 a2))
theorem cw_X12_mark : CW yX12_mark cX12_mark 4 none 2 := ⟨tw1756, tw15, by decide, by decide +kernel⟩
/-! X12_twoWhy -/
theorem dX12_twoWhy_0 : decode cX12_twoWhy 0 = .ok (.aload_n 0, 1) := by decide +kernel
theorem dX12_twoWhy_1 : decode cX12_twoWhy 1 = .ok (.iload_n 1, 1) := by decide +kernel
theorem dX12_twoWhy_2 : decode cX12_twoWhy 2 = .ok (.invokevirtual 372, 3) := by decide +kernel
theorem dX12_twoWhy_5 : decode cX12_twoWhy 5 = .ok (.ifCond .eq 11, 3) := by decide +kernel
theorem dX12_twoWhy_8 : decode cX12_twoWhy 8 = .ok (.aload_n 0, 1) := by decide +kernel
theorem dX12_twoWhy_9 : decode cX12_twoWhy 9 = .ok (.iload_n 2, 1) := by decide +kernel
theorem dX12_twoWhy_10 : decode cX12_twoWhy 10 = .ok (.invokevirtual 372, 3) := by decide +kernel
theorem dX12_twoWhy_13 : decode cX12_twoWhy 13 = .ok (.ifCond .ne 7, 3) := by decide +kernel
theorem dX12_twoWhy_16 : decode cX12_twoWhy 16 = .ok (.iconst 1, 1) := by decide +kernel
theorem dX12_twoWhy_17 : decode cX12_twoWhy 17 = .ok (.goto 23, 3) := by decide +kernel
theorem dX12_twoWhy_20 : decode cX12_twoWhy 20 = .ok (.aload_n 0, 1) := by decide +kernel
theorem dX12_twoWhy_21 : decode cX12_twoWhy 21 = .ok (.getfield 236, 3) := by decide +kernel
theorem dX12_twoWhy_24 : decode cX12_twoWhy 24 = .ok (.iload_n 1, 1) := by decide +kernel
theorem dX12_twoWhy_25 : decode cX12_twoWhy 25 = .ok (.iaload, 1) := by decide +kernel
theorem dX12_twoWhy_26 : decode cX12_twoWhy 26 = .ok (.aload_n 0, 1) := by decide +kernel
theorem dX12_twoWhy_27 : decode cX12_twoWhy 27 = .ok (.getfield 236, 3) := by decide +kernel
theorem dX12_twoWhy_30 : decode cX12_twoWhy 30 = .ok (.iload_n 2, 1) := by decide +kernel
theorem dX12_twoWhy_31 : decode cX12_twoWhy 31 = .ok (.iaload, 1) := by decide +kernel
theorem dX12_twoWhy_32 : decode cX12_twoWhy 32 = .ok (.if_icmp .eq 7, 3) := by decide +kernel
theorem dX12_twoWhy_35 : decode cX12_twoWhy 35 = .ok (.iconst 4, 1) := by decide +kernel
theorem dX12_twoWhy_36 : decode cX12_twoWhy 36 = .ok (.goto 4, 3) := by decide +kernel
theorem dX12_twoWhy_39 : decode cX12_twoWhy 39 = .ok (.iconst 0, 1) := by decide +kernel
theorem dX12_twoWhy_40 : decode cX12_twoWhy 40 = .ok (.ireturn, 1) := by decide +kernel
def X12_twoWhy (this : Nat) (a1 : Int32) (a2 : Int32) : MM Int32 :=
  mb (wc 13 (some this) fun t => X12_isCopy t a1) fun v1 =>
  if v1 = 0 then (mr (1 : Int32)) else (mb (wc 13 (some this) fun t => X12_isCopy t a2) fun v2 =>
  if v2 = 0 then (mr (1 : Int32)) else (mb (gR 13 (some this) 16) fun v3 =>
  mb (aI v3 a1) fun v4 =>
  mb (gR 13 (some this) 16) fun v5 =>
  mb (aI v5 a2) fun v6 =>
  if v4 = v6 then (mr (0 : Int32)) else (mr (4 : Int32))))
set_option maxRecDepth 100000 in
set_option maxHeartbeats 4000000 in
theorem s_X12_twoWhy (G : GG) (this : Nat) (a1 : Int32) (a2 : Int32) : Sn G yX12_twoWhy cX12_twoWhy 3 (some FieldType.int) 2 43 (fun v : Int32 => some (.int v)) (X12_twoWhy this a1 a2) 0 [some (va_rf (some this)), some (.int a1), some (.int a2)] [] := by
  unfold X12_twoWhy
  refine sn_aload_n (v := (some this)) (pc' := 1) dX12_twoWhy_0 rfl rfl rfl ?_
  refine sn_iload_n (v := a1) (pc' := 2) dX12_twoWhy_1 rfl rfl rfl ?_
  refine sn_cV (r := (some this)) (st := []) (As := [.int a1]) (st2 := (fun v => .int v :: [])) (pc' := 5) ci_13 (fun t => c_X12_isCopy G t a1) cw_X12_isCopy rfl rfl tw1698 pw84 tw1700 rfl rfl cat_nil rfl (fun _ => rfl) dX12_twoWhy_2 rfl (fun v1 => ?_)
  refine sn_if_eq (pt := 16) (pf := 8) dX12_twoWhy_5 rfl rfl ?_ ?_
  · refine sn_iconst (v := (1 : Int32)) (pc' := 17) dX12_twoWhy_16 rfl (by decide) ?_
    refine sn_goto (pc' := 40) dX12_twoWhy_17 rfl ?_
    exact sn_iret dX12_twoWhy_40 rfl rfl
  · refine sn_aload_n (v := (some this)) (pc' := 9) dX12_twoWhy_8 rfl rfl rfl ?_
    refine sn_iload_n (v := a2) (pc' := 10) dX12_twoWhy_9 rfl rfl rfl ?_
    refine sn_cV (r := (some this)) (st := []) (As := [.int a2]) (st2 := (fun v => .int v :: [])) (pc' := 13) ci_13 (fun t => c_X12_isCopy G t a2) cw_X12_isCopy rfl rfl tw1698 pw84 tw1700 rfl rfl cat_nil rfl (fun _ => rfl) dX12_twoWhy_10 rfl (fun v2 => ?_)
    refine sn_if_ne (pt := 20) (pf := 16) dX12_twoWhy_13 rfl rfl ?_ ?_
    · refine sn_iconst (v := (1 : Int32)) (pc' := 17) dX12_twoWhy_16 rfl (by decide) ?_
      refine sn_goto (pc' := 40) dX12_twoWhy_17 rfl ?_
      exact sn_iret dX12_twoWhy_40 rfl rfl
    · refine sn_aload_n (v := (some this)) (pc' := 21) dX12_twoWhy_20 rfl rfl rfl ?_
      refine sn_gR (k := 16) (pc' := 24) ci_13 rfl (Or.inl tw1294) dX12_twoWhy_21 rfl (fun v3 => ?_)
      refine sn_iload_n (v := a1) (pc' := 25) dX12_twoWhy_24 rfl rfl rfl ?_
      refine sn_aI (pc' := 26) dX12_twoWhy_25 rfl (fun v4 => ?_)
      refine sn_aload_n (v := (some this)) (pc' := 27) dX12_twoWhy_26 rfl rfl rfl ?_
      refine sn_gR (k := 16) (pc' := 30) ci_13 rfl (Or.inl tw1294) dX12_twoWhy_27 rfl (fun v5 => ?_)
      refine sn_iload_n (v := a2) (pc' := 31) dX12_twoWhy_30 rfl rfl rfl ?_
      refine sn_aI (pc' := 32) dX12_twoWhy_31 rfl (fun v6 => ?_)
      refine sn_ic_eq (pt := 39) (pf := 35) dX12_twoWhy_32 rfl rfl ?_ ?_
      · refine sn_iconst (v := (0 : Int32)) (pc' := 40) dX12_twoWhy_39 rfl (by decide) ?_
        exact sn_iret dX12_twoWhy_40 rfl rfl
      · refine sn_iconst (v := (4 : Int32)) (pc' := 36) dX12_twoWhy_35 rfl (by decide) ?_
        refine sn_goto (pc' := 40) dX12_twoWhy_36 rfl ?_
        exact sn_iret dX12_twoWhy_40 rfl rfl
theorem c_X12_twoWhy (G : GG) (this : Nat) (a1 : Int32) (a2 : Int32) : Cal G yX12_twoWhy cX12_twoWhy 3 (some FieldType.int) 2 43 (fun v : Int32 => some (.int v)) (X12_twoWhy this a1 a2) [.ref this, .int a1, .int a2] :=
  Cal.of (by decide) (cat_t (cat_i (cat_i cat_nil))) rfl (sn_weak (le_s (le_s (le_s le_e))) (s_X12_twoWhy G this a1 a2))
theorem cw_X12_twoWhy : CW yX12_twoWhy cX12_twoWhy 3 (some FieldType.int) 2 := ⟨tw1752, tw15, by decide, by decide +kernel⟩
/-! X12_apart -/
theorem dX12_apart_0 : decode cX12_apart 0 = .ok (.aload_n 0, 1) := by decide +kernel
theorem dX12_apart_1 : decode cX12_apart 1 = .ok (.iload_n 1, 1) := by decide +kernel
theorem dX12_apart_2 : decode cX12_apart 2 = .ok (.iload_n 2, 1) := by decide +kernel
theorem dX12_apart_3 : decode cX12_apart 3 = .ok (.invokevirtual 378, 3) := by decide +kernel
theorem dX12_apart_6 : decode cX12_apart 6 = .ok (.istore_n 3, 1) := by decide +kernel
theorem dX12_apart_7 : decode cX12_apart 7 = .ok (.iload_n 3, 1) := by decide +kernel
theorem dX12_apart_8 : decode cX12_apart 8 = .ok (.ifCond .le 9, 3) := by decide +kernel
theorem dX12_apart_11 : decode cX12_apart 11 = .ok (.aload_n 0, 1) := by decide +kernel
theorem dX12_apart_12 : decode cX12_apart 12 = .ok (.iload_n 3, 1) := by decide +kernel
theorem dX12_apart_13 : decode cX12_apart 13 = .ok (.invokevirtual 193, 3) := by decide +kernel
theorem dX12_apart_16 : decode cX12_apart 16 = .ok (.ireturn, 1) := by decide +kernel
theorem dX12_apart_17 : decode cX12_apart 17 = .ok (.aload_n 0, 1) := by decide +kernel
theorem dX12_apart_18 : decode cX12_apart 18 = .ok (.iload_n 1, 1) := by decide +kernel
theorem dX12_apart_19 : decode cX12_apart 19 = .ok (.aload_n 0, 1) := by decide +kernel
theorem dX12_apart_20 : decode cX12_apart 20 = .ok (.getfield 305, 3) := by decide +kernel
theorem dX12_apart_23 : decode cX12_apart 23 = .ok (.invokevirtual 381, 3) := by decide +kernel
theorem dX12_apart_26 : decode cX12_apart 26 = .ok (.aload_n 0, 1) := by decide +kernel
theorem dX12_apart_27 : decode cX12_apart 27 = .ok (.iload_n 2, 1) := by decide +kernel
theorem dX12_apart_28 : decode cX12_apart 28 = .ok (.aload_n 0, 1) := by decide +kernel
theorem dX12_apart_29 : decode cX12_apart 29 = .ok (.getfield 308, 3) := by decide +kernel
theorem dX12_apart_32 : decode cX12_apart 32 = .ok (.invokevirtual 381, 3) := by decide +kernel
theorem dX12_apart_35 : decode cX12_apart 35 = .ok (.iconst 0, 1) := by decide +kernel
theorem dX12_apart_36 : decode cX12_apart 36 = .ok (.istore 4, 2) := by decide +kernel
theorem dX12_apart_38 : decode cX12_apart 38 = .ok (.iconst 0, 1) := by decide +kernel
theorem dX12_apart_39 : decode cX12_apart 39 = .ok (.istore 5, 2) := by decide +kernel
theorem dX12_apart_41 : decode cX12_apart 41 = .ok (.iload 5, 2) := by decide +kernel
theorem dX12_apart_43 : decode cX12_apart 43 = .ok (.sipush 400, 3) := by decide +kernel
theorem dX12_apart_46 : decode cX12_apart 46 = .ok (.if_icmp .ge 36, 3) := by decide +kernel
theorem dX12_apart_49 : decode cX12_apart 49 = .ok (.iload 4, 2) := by decide +kernel
theorem dX12_apart_51 : decode cX12_apart 51 = .ok (.aload_n 0, 1) := by decide +kernel
theorem dX12_apart_52 : decode cX12_apart 52 = .ok (.getfield 305, 3) := by decide +kernel
theorem dX12_apart_55 : decode cX12_apart 55 = .ok (.iload 5, 2) := by decide +kernel
theorem dX12_apart_57 : decode cX12_apart 57 = .ok (.baload, 1) := by decide +kernel
theorem dX12_apart_58 : decode cX12_apart 58 = .ok (.aload_n 0, 1) := by decide +kernel
theorem dX12_apart_59 : decode cX12_apart 59 = .ok (.getfield 308, 3) := by decide +kernel
theorem dX12_apart_62 : decode cX12_apart 62 = .ok (.iload 5, 2) := by decide +kernel
theorem dX12_apart_64 : decode cX12_apart 64 = .ok (.baload, 1) := by decide +kernel
theorem dX12_apart_65 : decode cX12_apart 65 = .ok (.if_icmp .eq 7, 3) := by decide +kernel
theorem dX12_apart_68 : decode cX12_apart 68 = .ok (.iconst 1, 1) := by decide +kernel
theorem dX12_apart_69 : decode cX12_apart 69 = .ok (.goto 4, 3) := by decide +kernel
theorem dX12_apart_72 : decode cX12_apart 72 = .ok (.iconst 0, 1) := by decide +kernel
theorem dX12_apart_73 : decode cX12_apart 73 = .ok (.iadd, 1) := by decide +kernel
theorem dX12_apart_74 : decode cX12_apart 74 = .ok (.istore 4, 2) := by decide +kernel
theorem dX12_apart_76 : decode cX12_apart 76 = .ok (.iinc 5 1, 3) := by decide +kernel
theorem dX12_apart_79 : decode cX12_apart 79 = .ok (.goto (-38), 3) := by decide +kernel
theorem dX12_apart_82 : decode cX12_apart 82 = .ok (.aload_n 0, 1) := by decide +kernel
theorem dX12_apart_83 : decode cX12_apart 83 = .ok (.iload 4, 2) := by decide +kernel
theorem dX12_apart_85 : decode cX12_apart 85 = .ok (.invokevirtual 199, 3) := by decide +kernel
theorem dX12_apart_88 : decode cX12_apart 88 = .ok (.ireturn, 1) := by decide +kernel
def X12_apart_73 (k41 : Nat → Int32 → Int32 → MM Int32) (this : Nat) (x5 : Int32) (y0 : Int32) (y1 : Int32) : MM Int32 :=
  (k41 this (y1 + y0) (x5 + (1 : Int32)))
def X12_apart_82  (this : Nat) (x4 : Int32) : MM Int32 :=
  mb (wc 13 (some this) fun t => X12_fine t x4) fun v1 =>
  mr v1
def X12_apart_41_st  (k41 : Nat → Int32 → Int32 → MM Int32) (this : Nat) (x4 : Int32) (x5 : Int32) : MM Int32 :=
  if (400 : Int32) ≤ x5 then ((X12_apart_82 this x4)) else (mb (gR 13 (some this) 47) fun v1 =>
  mb (aB v1 x5) fun v2 =>
  mb (gR 13 (some this) 48) fun v3 =>
  mb (aB v3 x5) fun v4 =>
  if v2 = v4 then ((X12_apart_73 k41 this x5 (0 : Int32) x4)) else ((X12_apart_73 k41 this x5 (1 : Int32) x4)))
def X12_apart_41  : Nat → Nat → Int32 → Int32 → MM Int32
  | 0 => fun _ _ _ => mf
  | n + 1 => fun this x4 x5 => X12_apart_41_st  (X12_apart_41  n) this x4 x5
def X12_apart (this : Nat) (a1 : Int32) (a2 : Int32) : MM Int32 :=
  mb (wc 13 (some this) fun t => X12_twoWhy t a1 a2) fun v1 =>
  if v1 ≤ 0 then (mb (gR 13 (some this) 47) fun v2 =>
  mb (wc 13 (some this) fun t => X12_mark t a1 v2) fun _ =>
  mb (gR 13 (some this) 48) fun v3 =>
  mb (wc 13 (some this) fun t => X12_mark t a2 v3) fun _ =>
  (X12_apart_41 LFU this (0 : Int32) (0 : Int32))) else (mb (wc 13 (some this) fun t => X12_no t v1) fun v4 =>
  mr v4)
set_option maxRecDepth 100000 in
set_option maxHeartbeats 4000000 in
theorem s_X12_apart_73 (G : GG) (k41 : Nat → Int32 → Int32 → MM Int32) (hk41 : ∀ (this : Nat) (x4 : Int32) (x5 : Int32), Sn G yX12_apart cX12_apart 6 (some FieldType.int) 3 65 (fun v : Int32 => some (.int v)) (k41 this x4 x5) 41 [some (va_rf (some this)), none, none, none, some (.int x4), some (.int x5)] []) (this : Nat) (x5 : Int32) (y0 : Int32) (y1 : Int32) : Sn G yX12_apart cX12_apart 6 (some FieldType.int) 3 65 (fun v : Int32 => some (.int v)) (X12_apart_73 k41 this x5 y0 y1) 73 [some (va_rf (some this)), none, none, none, none, some (.int x5)] [.int y0, .int y1] := by
  unfold X12_apart_73
  refine sn_iadd (pc' := 74) dX12_apart_73 rfl ?_
  refine sn_istore (v := (y1 + y0)) (L' := [some (va_rf (some this)), none, none, none, some (.int (y1 + y0)), some (.int x5)]) (pc' := 76) dX12_apart_74 rfl rfl rfl ?_
  refine sn_iinc (v := x5) (w := 1) (L' := [some (va_rf (some this)), none, none, none, some (.int (y1 + y0)), some (.int (x5 + (1 : Int32)))]) (pc' := 79) dX12_apart_76 rfl rfl rfl (by decide) rfl ?_
  refine sn_goto (pc' := 41) dX12_apart_79 rfl ?_
  exact sn_weak (le_s (le_n (le_n (le_n (le_s (le_s le_e)))))) (hk41 this (y1 + y0) (x5 + (1 : Int32)))
set_option maxRecDepth 100000 in
set_option maxHeartbeats 4000000 in
theorem s_X12_apart_82 (G : GG)   (this : Nat) (x4 : Int32) : Sn G yX12_apart cX12_apart 6 (some FieldType.int) 3 65 (fun v : Int32 => some (.int v)) (X12_apart_82  this x4) 82 [some (va_rf (some this)), none, none, none, some (.int x4), none] [] := by
  unfold X12_apart_82
  refine sn_aload_n (v := (some this)) (pc' := 83) dX12_apart_82 rfl rfl rfl ?_
  refine sn_iload (v := x4) (pc' := 85) dX12_apart_83 rfl rfl ?_
  refine sn_cV (r := (some this)) (st := []) (As := [.int x4]) (st2 := (fun v => .int v :: [])) (pc' := 88) ci_13 (fun t => c_X12_fine G t x4) cw_X12_fine rfl rfl tw1435 pw45 tw1437 rfl rfl cat_nil rfl (fun _ => rfl) dX12_apart_85 rfl (fun v1 => ?_)
  exact sn_iret dX12_apart_88 rfl rfl
set_option maxRecDepth 100000 in
set_option maxHeartbeats 4000000 in
theorem s_X12_apart_41_st (G : GG)   (k41 : Nat → Int32 → Int32 → MM Int32) (hk41 : ∀ (this : Nat) (x4 : Int32) (x5 : Int32), Sn G yX12_apart cX12_apart 6 (some FieldType.int) 3 65 (fun v : Int32 => some (.int v)) (k41 this x4 x5) 41 [some (va_rf (some this)), none, none, none, some (.int x4), some (.int x5)] []) (this : Nat) (x4 : Int32) (x5 : Int32) : Sn G yX12_apart cX12_apart 6 (some FieldType.int) 3 65 (fun v : Int32 => some (.int v)) (X12_apart_41_st  k41 this x4 x5) 41 [some (va_rf (some this)), none, none, none, some (.int x4), some (.int x5)] [] := by
  unfold X12_apart_41_st
  refine sn_iload (v := x5) (pc' := 43) dX12_apart_41 rfl rfl ?_
  refine sn_sipush (v := (400 : Int32)) (pc' := 46) dX12_apart_43 rfl (by decide) ?_
  refine sn_ic_ge (pt := 82) (pf := 49) dX12_apart_46 rfl rfl ?_ ?_
  · exact sn_weak (le_s (le_n (le_n (le_n (le_s (le_n le_e)))))) (s_X12_apart_82 G this x4)
  · refine sn_iload (v := x4) (pc' := 51) dX12_apart_49 rfl rfl ?_
    refine sn_aload_n (v := (some this)) (pc' := 52) dX12_apart_51 rfl rfl rfl ?_
    refine sn_gR (k := 47) (pc' := 55) ci_13 rfl (Or.inl tw1325) dX12_apart_52 rfl (fun v1 => ?_)
    refine sn_iload (v := x5) (pc' := 57) dX12_apart_55 rfl rfl ?_
    refine sn_aB (pc' := 58) dX12_apart_57 rfl (fun v2 => ?_)
    refine sn_aload_n (v := (some this)) (pc' := 59) dX12_apart_58 rfl rfl rfl ?_
    refine sn_gR (k := 48) (pc' := 62) ci_13 rfl (Or.inl tw1326) dX12_apart_59 rfl (fun v3 => ?_)
    refine sn_iload (v := x5) (pc' := 64) dX12_apart_62 rfl rfl ?_
    refine sn_aB (pc' := 65) dX12_apart_64 rfl (fun v4 => ?_)
    refine sn_ic_eq (pt := 72) (pf := 68) dX12_apart_65 rfl rfl ?_ ?_
    · refine sn_iconst (v := (0 : Int32)) (pc' := 73) dX12_apart_72 rfl (by decide) ?_
      exact sn_weak (le_s (le_n (le_n (le_n (le_n (le_s le_e)))))) (s_X12_apart_73 G k41 hk41 this x5 (0 : Int32) x4)
    · refine sn_iconst (v := (1 : Int32)) (pc' := 69) dX12_apart_68 rfl (by decide) ?_
      refine sn_goto (pc' := 73) dX12_apart_69 rfl ?_
      exact sn_weak (le_s (le_n (le_n (le_n (le_n (le_s le_e)))))) (s_X12_apart_73 G k41 hk41 this x5 (1 : Int32) x4)
set_option maxRecDepth 100000 in
set_option maxHeartbeats 4000000 in
theorem s_X12_apart_41 (G : GG)   : ∀ (n : Nat) (this : Nat) (x4 : Int32) (x5 : Int32), Sn G yX12_apart cX12_apart 6 (some FieldType.int) 3 65 (fun v : Int32 => some (.int v)) (X12_apart_41  n this x4 x5) 41 [some (va_rf (some this)), none, none, none, some (.int x4), some (.int x5)] [] := by
  intro n
  induction n with
  | zero => intro this x4 x5; exact sn_mf
  | succ n ih => intro this x4 x5; exact s_X12_apart_41_st G   (X12_apart_41  n) ih this x4 x5
set_option maxRecDepth 100000 in
set_option maxHeartbeats 4000000 in
theorem s_X12_apart (G : GG) (this : Nat) (a1 : Int32) (a2 : Int32) : Sn G yX12_apart cX12_apart 6 (some FieldType.int) 3 65 (fun v : Int32 => some (.int v)) (X12_apart this a1 a2) 0 [some (va_rf (some this)), some (.int a1), some (.int a2), none, none, none] [] := by
  unfold X12_apart
  refine sn_aload_n (v := (some this)) (pc' := 1) dX12_apart_0 rfl rfl rfl ?_
  refine sn_iload_n (v := a1) (pc' := 2) dX12_apart_1 rfl rfl rfl ?_
  refine sn_iload_n (v := a2) (pc' := 3) dX12_apart_2 rfl rfl rfl ?_
  refine sn_cV (r := (some this)) (st := []) (As := [.int a1, .int a2]) (st2 := (fun v => .int v :: [])) (pc' := 6) ci_13 (fun t => c_X12_twoWhy G t a1 a2) cw_X12_twoWhy rfl rfl tw1749 pw91 tw1751 rfl rfl cat_nil rfl (fun _ => rfl) dX12_apart_3 rfl (fun v1 => ?_)
  refine sn_istore_n (v := v1) (L' := [some (va_rf (some this)), some (.int a1), some (.int a2), some (.int v1), none, none]) (pc' := 7) dX12_apart_6 rfl rfl rfl rfl ?_
  refine sn_iload_n (v := v1) (pc' := 8) dX12_apart_7 rfl rfl rfl ?_
  refine sn_if_le (pt := 17) (pf := 11) dX12_apart_8 rfl rfl ?_ ?_
  · refine sn_aload_n (v := (some this)) (pc' := 18) dX12_apart_17 rfl rfl rfl ?_
    refine sn_iload_n (v := a1) (pc' := 19) dX12_apart_18 rfl rfl rfl ?_
    refine sn_aload_n (v := (some this)) (pc' := 20) dX12_apart_19 rfl rfl rfl ?_
    refine sn_gR (k := 47) (pc' := 23) ci_13 rfl (Or.inl tw1325) dX12_apart_20 rfl (fun v2 => ?_)
    refine sn_cV (r := (some this)) (st := []) (As := [.int a1, va_rf v2]) (st2 := (fun _ => [])) (pc' := 26) ci_13 (fun t => c_X12_mark G t a1 v2) cw_X12_mark rfl rfl tw1753 pw92 tw1755 rfl rfl cat_nil rfl (fun _ => rfl) dX12_apart_23 rfl (fun _ => ?_)
    refine sn_aload_n (v := (some this)) (pc' := 27) dX12_apart_26 rfl rfl rfl ?_
    refine sn_iload_n (v := a2) (pc' := 28) dX12_apart_27 rfl rfl rfl ?_
    refine sn_aload_n (v := (some this)) (pc' := 29) dX12_apart_28 rfl rfl rfl ?_
    refine sn_gR (k := 48) (pc' := 32) ci_13 rfl (Or.inl tw1326) dX12_apart_29 rfl (fun v3 => ?_)
    refine sn_cV (r := (some this)) (st := []) (As := [.int a2, va_rf v3]) (st2 := (fun _ => [])) (pc' := 35) ci_13 (fun t => c_X12_mark G t a2 v3) cw_X12_mark rfl rfl tw1753 pw92 tw1755 rfl rfl cat_nil rfl (fun _ => rfl) dX12_apart_32 rfl (fun _ => ?_)
    refine sn_iconst (v := (0 : Int32)) (pc' := 36) dX12_apart_35 rfl (by decide) ?_
    refine sn_istore (v := (0 : Int32)) (L' := [some (va_rf (some this)), some (.int a1), some (.int a2), some (.int v1), some (.int (0 : Int32)), none]) (pc' := 38) dX12_apart_36 rfl rfl rfl ?_
    refine sn_iconst (v := (0 : Int32)) (pc' := 39) dX12_apart_38 rfl (by decide) ?_
    refine sn_istore (v := (0 : Int32)) (L' := [some (va_rf (some this)), some (.int a1), some (.int a2), some (.int v1), some (.int (0 : Int32)), some (.int (0 : Int32))]) (pc' := 41) dX12_apart_39 rfl rfl rfl ?_
    exact sn_weak (le_s (le_n (le_n (le_n (le_s (le_s le_e)))))) (s_X12_apart_41 G LFU this (0 : Int32) (0 : Int32))
  · refine sn_aload_n (v := (some this)) (pc' := 12) dX12_apart_11 rfl rfl rfl ?_
    refine sn_iload_n (v := v1) (pc' := 13) dX12_apart_12 rfl rfl rfl ?_
    refine sn_cV (r := (some this)) (st := []) (As := [.int v1]) (st2 := (fun v => .int v :: [])) (pc' := 16) ci_13 (fun t => c_X12_no G t v1) cw_X12_no rfl rfl tw1431 pw44 tw1433 rfl rfl cat_nil rfl (fun _ => rfl) dX12_apart_13 rfl (fun v4 => ?_)
    exact sn_iret dX12_apart_16 rfl rfl
theorem c_X12_apart (G : GG) (this : Nat) (a1 : Int32) (a2 : Int32) : Cal G yX12_apart cX12_apart 6 (some FieldType.int) 3 65 (fun v : Int32 => some (.int v)) (X12_apart this a1 a2) [.ref this, .int a1, .int a2] :=
  Cal.of (by decide) (cat_t (cat_i (cat_i cat_nil))) rfl (sn_weak (le_s (le_s (le_s (le_z (le_z (le_z le_e)))))) (s_X12_apart G this a1 a2))
theorem cw_X12_apart : CW yX12_apart cX12_apart 6 (some FieldType.int) 2 := ⟨tw1748, tw15, by decide, by decide +kernel⟩
