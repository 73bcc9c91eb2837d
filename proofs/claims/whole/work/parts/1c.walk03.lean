theorem tw17 : (Jvm.Cond.initialized "jdk/internal/util/Preconditions") ∈ gtbl := gt_of 110 (by decide +kernel) (by decide +kernel)
theorem tw22 : (Jvm.Cond.initialized "jdk/internal/util/ArraysSupport") ∈ gtbl := gt_of 115 (by decide +kernel) (by decide +kernel)
theorem tw23 : (Jvm.Cond.initialized "java/lang/System") ∈ gtbl := gt_of 116 (by decide +kernel) (by decide +kernel)
theorem tw25 : (Jvm.Cond.initialized "java/lang/Integer") ∈ gtbl := gt_of 118 (by decide +kernel) (by decide +kernel)
theorem tw253 : (Jvm.Cond.fieldLink "java/lang/AbstractStringBuilder" (73 : Nat) "java/lang/AbstractStringBuilder" "maybeLatin1" "Z") ∈ gtbl := gt_of 346 (by decide +kernel) (by decide +kernel)
theorem tw255 : (Jvm.Cond.fieldLink "java/lang/AbstractStringBuilder" (79 : Nat) "java/lang/AbstractStringBuilder" "count" "I") ∈ gtbl := gt_of 348 (by decide +kernel) (by decide +kernel)
theorem tw264 : (Jvm.Cond.superclass "java/lang/StringBuilder" "java/lang/AbstractStringBuilder") ∈ gtbl := gt_of 357 (by decide +kernel) (by decide +kernel)
theorem tw283 : (Jvm.Cond.fieldLink "LeafFormula" (88 : Nat) "LeafFormula" "latestFault" "I") ∈ gtbl := gt_of 376 (by decide +kernel) (by decide +kernel)
theorem tw446 : (Jvm.Cond.fieldLink "java/lang/String" (1053 : Nat) "jdk/internal/util/Preconditions" "SIOOBE_FORMATTER" "Ljava/util/function/BiFunction;") ∈ gtbl := gt_of 539 (by decide +kernel) (by decide +kernel)
theorem tw519 : (Jvm.Cond.code ({ cls := "LeafFormula", name := "draftFormula", desc := "()I" } : Jvm.MethodName) prog_1_method_36_code (1 : Nat) (Option.some Jvm.ClassFile.FieldType.int)) ∈ gtbl := gt_of 612 (by decide +kernel) (by decide +kernel)
theorem tw520 : (Jvm.Cond.methodLink "LeafFormula" (243 : Nat) ({ cls := "LeafFormula$Faults", name := "ofFormula", desc := "(LLeafFormula$Reader;LLeafFormula$Plan;)I" } : Jvm.MethodName)) ∈ gtbl := gt_of 613 (by decide +kernel) (by decide +kernel)
theorem tw521 : (Jvm.Cond.static ({ cls := "LeafFormula$Faults", name := "ofFormula", desc := "(LLeafFormula$Reader;LLeafFormula$Plan;)I" } : Jvm.MethodName)) ∈ gtbl := gt_of 614 (by decide +kernel) (by decide +kernel)
theorem tw567 : (Jvm.Cond.methodLink "LeafFormula" (249 : Nat) ({ cls := "LeafFormula", name := "refusalOfDraft", desc := "()I" } : Jvm.MethodName)) ∈ gtbl := gt_of 660 (by decide +kernel) (by decide +kernel)
theorem tw569 : (Jvm.Cond.instanceMethod ({ cls := "LeafFormula", name := "refusalOfDraft", desc := "()I" } : Jvm.MethodName)) ∈ gtbl := gt_of 662 (by decide +kernel) (by decide +kernel)
theorem tw570 : (Jvm.Cond.code ({ cls := "LeafFormula", name := "refusalOfDraft", desc := "()I" } : Jvm.MethodName) prog_1_method_38_code (1 : Nat) (Option.some Jvm.ClassFile.FieldType.int)) ∈ gtbl := gt_of 663 (by decide +kernel) (by decide +kernel)
theorem tw571 : (Jvm.Cond.methodLink "LeafFormula" (265 : Nat) ({ cls := "LeafFormula$Plan", name := "leavesInAll", desc := "()I" } : Jvm.MethodName)) ∈ gtbl := gt_of 664 (by decide +kernel) (by decide +kernel)
theorem tw572 : (Jvm.Cond.instanceMethod ({ cls := "LeafFormula$Plan", name := "leavesInAll", desc := "()I" } : Jvm.MethodName)) ∈ gtbl := gt_of 665 (by decide +kernel) (by decide +kernel)
theorem tw573 : (Jvm.Cond.selects "LeafFormula$Plan" ({ cls := "LeafFormula$Plan", name := "leavesInAll", desc := "()I" } : Jvm.MethodName) ({ cls := "LeafFormula$Plan", name := "leavesInAll", desc := "()I" } : Jvm.MethodName)) ∈ gtbl := gt_of 666 (by decide +kernel) (by decide +kernel)
theorem tw574 : (Jvm.Cond.code ({ cls := "LeafFormula$Plan", name := "leavesInAll", desc := "()I" } : Jvm.MethodName) prog_8_method_14_code (3 : Nat) (Option.some Jvm.ClassFile.FieldType.int)) ∈ gtbl := gt_of 667 (by decide +kernel) (by decide +kernel)
theorem tw575 : (Jvm.Cond.methodLink "LeafFormula$Plan" (58 : Nat) ({ cls := "LeafFormula$Plan", name := "insertedAt", desc := "(I)I" } : Jvm.MethodName)) ∈ gtbl := gt_of 668 (by decide +kernel) (by decide +kernel)
theorem tw576 : (Jvm.Cond.instanceMethod ({ cls := "LeafFormula$Plan", name := "insertedAt", desc := "(I)I" } : Jvm.MethodName)) ∈ gtbl := gt_of 669 (by decide +kernel) (by decide +kernel)
theorem tw577 : (Jvm.Cond.selects "LeafFormula$Plan" ({ cls := "LeafFormula$Plan", name := "insertedAt", desc := "(I)I" } : Jvm.MethodName) ({ cls := "LeafFormula$Plan", name := "insertedAt", desc := "(I)I" } : Jvm.MethodName)) ∈ gtbl := gt_of 670 (by decide +kernel) (by decide +kernel)
theorem tw591 : (Jvm.Cond.code ({ cls := "java/lang/StringBuilder", name := "setLength", desc := "(I)V" } : Jvm.MethodName) prog_22_method_89_code (2 : Nat) (Option.none : Option Jvm.ClassFile.FieldType)) ∈ gtbl := gt_of 684 (by decide +kernel) (by decide +kernel)
theorem tw592 : (Jvm.Cond.methodLink "java/lang/StringBuilder" (333 : Nat) ({ cls := "java/lang/AbstractStringBuilder", name := "setLength", desc := "(I)V" } : Jvm.MethodName)) ∈ gtbl := gt_of 685 (by decide +kernel) (by decide +kernel)
theorem tw593 : (Jvm.Cond.instanceMethod ({ cls := "java/lang/AbstractStringBuilder", name := "setLength", desc := "(I)V" } : Jvm.MethodName)) ∈ gtbl := gt_of 686 (by decide +kernel) (by decide +kernel)
theorem tw594 : (Jvm.Cond.code ({ cls := "java/lang/AbstractStringBuilder", name := "setLength", desc := "(I)V" } : Jvm.MethodName) prog_15_method_13_code (2 : Nat) (Option.none : Option Jvm.ClassFile.FieldType)) ∈ gtbl := gt_of 687 (by decide +kernel) (by decide +kernel)
theorem tw595 : (Jvm.Cond.methodLink "java/lang/AbstractStringBuilder" (100 : Nat) ({ cls := "java/lang/AbstractStringBuilder", name := "ensureCapacityInternal", desc := "(I)V" } : Jvm.MethodName)) ∈ gtbl := gt_of 688 (by decide +kernel) (by decide +kernel)
theorem tw597 : (Jvm.Cond.instanceMethod ({ cls := "java/lang/AbstractStringBuilder", name := "ensureCapacityInternal", desc := "(I)V" } : Jvm.MethodName)) ∈ gtbl := gt_of 690 (by decide +kernel) (by decide +kernel)
theorem tw598 : (Jvm.Cond.code ({ cls := "java/lang/AbstractStringBuilder", name := "ensureCapacityInternal", desc := "(I)V" } : Jvm.MethodName) prog_15_method_9_code (3 : Nat) (Option.none : Option Jvm.ClassFile.FieldType)) ∈ gtbl := gt_of 691 (by decide +kernel) (by decide +kernel)
theorem tw599 : (Jvm.Cond.methodLink "java/lang/AbstractStringBuilder" (104 : Nat) ({ cls := "java/lang/AbstractStringBuilder", name := "newCapacity", desc := "(I)I" } : Jvm.MethodName)) ∈ gtbl := gt_of 692 (by decide +kernel) (by decide +kernel)
theorem tw601 : (Jvm.Cond.instanceMethod ({ cls := "java/lang/AbstractStringBuilder", name := "newCapacity", desc := "(I)I" } : Jvm.MethodName)) ∈ gtbl := gt_of 694 (by decide +kernel) (by decide +kernel)
theorem tw602 : (Jvm.Cond.code ({ cls := "java/lang/AbstractStringBuilder", name := "newCapacity", desc := "(I)I" } : Jvm.MethodName) prog_15_method_10_code (6 : Nat) (Option.some Jvm.ClassFile.FieldType.int)) ∈ gtbl := gt_of 695 (by decide +kernel) (by decide +kernel)
theorem tw603 : (Jvm.Cond.methodLink "java/lang/AbstractStringBuilder" (114 : Nat) ({ cls := "jdk/internal/util/ArraysSupport", name := "newLength", desc := "(III)I" } : Jvm.MethodName)) ∈ gtbl := gt_of 696 (by decide +kernel) (by decide +kernel)
theorem tw604 : (Jvm.Cond.static ({ cls := "jdk/internal/util/ArraysSupport", name := "newLength", desc := "(III)I" } : Jvm.MethodName)) ∈ gtbl := gt_of 697 (by decide +kernel) (by decide +kernel)
theorem tw605 : (Jvm.Cond.code ({ cls := "jdk/internal/util/ArraysSupport", name := "newLength", desc := "(III)I" } : Jvm.MethodName) prog_27_method_27_code (4 : Nat) (Option.some Jvm.ClassFile.FieldType.int)) ∈ gtbl := gt_of 698 (by decide +kernel) (by decide +kernel)
theorem tw606 : (Jvm.Cond.methodLink "jdk/internal/util/ArraysSupport" (194 : Nat) ({ cls := "java/lang/Math", name := "max", desc := "(II)I" } : Jvm.MethodName)) ∈ gtbl := gt_of 699 (by decide +kernel) (by decide +kernel)
theorem tw607 : (Jvm.Cond.constant "jdk/internal/util/ArraysSupport" (200 : Nat) (2147483639 : Int32)) ∈ gtbl := gt_of 700 (by decide +kernel) (by decide +kernel)
theorem tw611 : (Jvm.Cond.constant "java/lang/AbstractStringBuilder" (39 : Nat) (2147483647 : Int32)) ∈ gtbl := gt_of 704 (by decide +kernel) (by decide +kernel)
theorem tw612 : (Jvm.Cond.methodLink "java/lang/AbstractStringBuilder" (108 : Nat) ({ cls := "java/util/Arrays", name := "copyOf", desc := "([BI)[B" } : Jvm.MethodName)) ∈ gtbl := gt_of 705 (by decide +kernel) (by decide +kernel)
theorem tw613 : (Jvm.Cond.static ({ cls := "java/util/Arrays", name := "copyOf", desc := "([BI)[B" } : Jvm.MethodName)) ∈ gtbl := gt_of 706 (by decide +kernel) (by decide +kernel)
theorem tw614 : (Jvm.Cond.code ({ cls := "java/util/Arrays", name := "copyOf", desc := "([BI)[B" } : Jvm.MethodName) prog_26_method_121_code (3 : Nat) (Option.some (Jvm.ClassFile.FieldType.array Jvm.ClassFile.FieldType.byte))) ∈ gtbl := gt_of 707 (by decide +kernel) (by decide +kernel)
theorem tw622 : (Jvm.Cond.methodLink "java/util/Arrays" (304 : Nat) ({ cls := "java/lang/Math", name := "min", desc := "(II)I" } : Jvm.MethodName)) ∈ gtbl := gt_of 715 (by decide +kernel) (by decide +kernel)
theorem tw623 : (Jvm.Cond.methodLink "java/util/Arrays" (150 : Nat) ({ cls := "java/lang/System", name := "arraycopy", desc := "(Ljava/lang/Object;ILjava/lang/Object;II)V" } : Jvm.MethodName)) ∈ gtbl := gt_of 716 (by decide +kernel) (by decide +kernel)
theorem tw624 : (Jvm.Cond.static ({ cls := "java/lang/System", name := "arraycopy", desc := "(Ljava/lang/Object;ILjava/lang/Object;II)V" } : Jvm.MethodName)) ∈ gtbl := gt_of 717 (by decide +kernel) (by decide +kernel)
theorem tw625 : (Jvm.Cond.native ({ cls := "java/lang/System", name := "arraycopy", desc := "(Ljava/lang/Object;ILjava/lang/Object;II)V" } : Jvm.MethodName)) ∈ gtbl := gt_of 718 (by decide +kernel) (by decide +kernel)
theorem tw626 : (Jvm.Cond.methodLink "java/lang/AbstractStringBuilder" (83 : Nat) ({ cls := "java/lang/AbstractStringBuilder", name := "isLatin1", desc := "()Z" } : Jvm.MethodName)) ∈ gtbl := gt_of 719 (by decide +kernel) (by decide +kernel)
theorem tw627 : (Jvm.Cond.instanceMethod ({ cls := "java/lang/AbstractStringBuilder", name := "isLatin1", desc := "()Z" } : Jvm.MethodName)) ∈ gtbl := gt_of 720 (by decide +kernel) (by decide +kernel)
theorem tw629 : (Jvm.Cond.selects "java/lang/StringBuilder" ({ cls := "java/lang/AbstractStringBuilder", name := "isLatin1", desc := "()Z" } : Jvm.MethodName) ({ cls := "java/lang/AbstractStringBuilder", name := "isLatin1", desc := "()Z" } : Jvm.MethodName)) ∈ gtbl := gt_of 722 (by decide +kernel) (by decide +kernel)
theorem tw630 : (Jvm.Cond.code ({ cls := "java/lang/AbstractStringBuilder", name := "isLatin1", desc := "()Z" } : Jvm.MethodName) prog_15_method_68_code (1 : Nat) (Option.some Jvm.ClassFile.FieldType.boolean)) ∈ gtbl := gt_of 723 (by decide +kernel) (by decide +kernel)
theorem tw646 : (Jvm.Cond.code ({ cls := "LeafFormula$Scribe", name := "goesOn", desc := "(LLeafFormula$Plan;I)Z" } : Jvm.MethodName) prog_11_method_5_code (4 : Nat) (Option.some Jvm.ClassFile.FieldType.boolean)) ∈ gtbl := gt_of 739 (by decide +kernel) (by decide +kernel)
theorem tw647 : (Jvm.Cond.methodLink "LeafFormula$Scribe" (69 : Nat) ({ cls := "LeafFormula$Plan", name := "signOf", desc := "(I)I" } : Jvm.MethodName)) ∈ gtbl := gt_of 740 (by decide +kernel) (by decide +kernel)
theorem tw648 : (Jvm.Cond.instanceMethod ({ cls := "LeafFormula$Plan", name := "signOf", desc := "(I)I" } : Jvm.MethodName)) ∈ gtbl := gt_of 741 (by decide +kernel) (by decide +kernel)
theorem tw649 : (Jvm.Cond.selects "LeafFormula$Plan" ({ cls := "LeafFormula$Plan", name := "signOf", desc := "(I)I" } : Jvm.MethodName) ({ cls := "LeafFormula$Plan", name := "signOf", desc := "(I)I" } : Jvm.MethodName)) ∈ gtbl := gt_of 742 (by decide +kernel) (by decide +kernel)
theorem tw650 : (Jvm.Cond.code ({ cls := "LeafFormula$Plan", name := "signOf", desc := "(I)I" } : Jvm.MethodName) prog_8_method_7_code (2 : Nat) (Option.some Jvm.ClassFile.FieldType.int)) ∈ gtbl := gt_of 743 (by decide +kernel) (by decide +kernel)
theorem tw651 : (Jvm.Cond.methodLink "LeafFormula$Scribe" (73 : Nat) ({ cls := "LeafFormula$Plan", name := "sizeOf", desc := "(I)I" } : Jvm.MethodName)) ∈ gtbl := gt_of 744 (by decide +kernel) (by decide +kernel)
theorem tw655 : (Jvm.Cond.code ({ cls := "LeafFormula$Scribe", name := "writeGroup", desc := "(LLeafFormula$Plan;II)V" } : Jvm.MethodName) prog_11_method_6_code (6 : Nat) (Option.none : Option Jvm.ClassFile.FieldType)) ∈ gtbl := gt_of 748 (by decide +kernel) (by decide +kernel)
theorem tw656 : (Jvm.Cond.methodLink "LeafFormula$Scribe" (76 : Nat) ({ cls := "java/lang/StringBuilder", name := "append", desc := "(C)Ljava/lang/StringBuilder;" } : Jvm.MethodName)) ∈ gtbl := gt_of 749 (by decide +kernel) (by decide +kernel)
theorem tw657 : (Jvm.Cond.instanceMethod ({ cls := "java/lang/StringBuilder", name := "append", desc := "(C)Ljava/lang/StringBuilder;" } : Jvm.MethodName)) ∈ gtbl := gt_of 750 (by decide +kernel) (by decide +kernel)
theorem tw658 : (Jvm.Cond.selects "java/lang/StringBuilder" ({ cls := "java/lang/StringBuilder", name := "append", desc := "(C)Ljava/lang/StringBuilder;" } : Jvm.MethodName) ({ cls := "java/lang/StringBuilder", name := "append", desc := "(C)Ljava/lang/StringBuilder;" } : Jvm.MethodName)) ∈ gtbl := gt_of 751 (by decide +kernel) (by decide +kernel)
theorem tw659 : (Jvm.Cond.code ({ cls := "java/lang/StringBuilder", name := "append", desc := "(C)Ljava/lang/StringBuilder;" } : Jvm.MethodName) prog_22_method_14_code (2 : Nat) (Option.some (Jvm.ClassFile.FieldType.object "java/lang/StringBuilder"))) ∈ gtbl := gt_of 752 (by decide +kernel) (by decide +kernel)
theorem tw660 : (Jvm.Cond.methodLink "java/lang/StringBuilder" (50 : Nat) ({ cls := "java/lang/AbstractStringBuilder", name := "append", desc := "(C)Ljava/lang/AbstractStringBuilder;" } : Jvm.MethodName)) ∈ gtbl := gt_of 753 (by decide +kernel) (by decide +kernel)
theorem tw661 : (Jvm.Cond.instanceMethod ({ cls := "java/lang/AbstractStringBuilder", name := "append", desc := "(C)Ljava/lang/AbstractStringBuilder;" } : Jvm.MethodName)) ∈ gtbl := gt_of 754 (by decide +kernel) (by decide +kernel)
theorem tw662 : (Jvm.Cond.code ({ cls := "java/lang/AbstractStringBuilder", name := "append", desc := "(C)Ljava/lang/AbstractStringBuilder;" } : Jvm.MethodName) prog_15_method_31_code (2 : Nat) (Option.some (Jvm.ClassFile.FieldType.object "java/lang/AbstractStringBuilder"))) ∈ gtbl := gt_of 755 (by decide +kernel) (by decide +kernel)
theorem tw663 : (Jvm.Cond.methodLink "java/lang/AbstractStringBuilder" (191 : Nat) ({ cls := "java/lang/StringLatin1", name := "canEncode", desc := "(C)Z" } : Jvm.MethodName)) ∈ gtbl := gt_of 756 (by decide +kernel) (by decide +kernel)
theorem tw664 : (Jvm.Cond.static ({ cls := "java/lang/StringLatin1", name := "canEncode", desc := "(C)Z" } : Jvm.MethodName)) ∈ gtbl := gt_of 757 (by decide +kernel) (by decide +kernel)
theorem tw665 : (Jvm.Cond.code ({ cls := "java/lang/StringLatin1", name := "canEncode", desc := "(C)Z" } : Jvm.MethodName) prog_23_method_3_code (1 : Nat) (Option.some Jvm.ClassFile.FieldType.boolean)) ∈ gtbl := gt_of 758 (by decide +kernel) (by decide +kernel)
theorem tw695 : (Jvm.Cond.static ({ cls := "java/lang/String", name := "checkIndex", desc := "(II)V" } : Jvm.MethodName)) ∈ gtbl := gt_of 788 (by decide +kernel) (by decide +kernel)
theorem tw696 : (Jvm.Cond.code ({ cls := "java/lang/String", name := "checkIndex", desc := "(II)V" } : Jvm.MethodName) prog_21_method_155_code (2 : Nat) (Option.none : Option Jvm.ClassFile.FieldType)) ∈ gtbl := gt_of 789 (by decide +kernel) (by decide +kernel)
theorem tw697 : (Jvm.Cond.methodLink "java/lang/String" (1059 : Nat) ({ cls := "jdk/internal/util/Preconditions", name := "checkIndex", desc := "(IILjava/util/function/BiFunction;)I" } : Jvm.MethodName)) ∈ gtbl := gt_of 790 (by decide +kernel) (by decide +kernel)
theorem tw698 : (Jvm.Cond.static ({ cls := "jdk/internal/util/Preconditions", name := "checkIndex", desc := "(IILjava/util/function/BiFunction;)I" } : Jvm.MethodName)) ∈ gtbl := gt_of 791 (by decide +kernel) (by decide +kernel)
theorem tw699 : (Jvm.Cond.code ({ cls := "jdk/internal/util/Preconditions", name := "checkIndex", desc := "(IILjava/util/function/BiFunction;)I" } : Jvm.MethodName) prog_28_method_11_code (3 : Nat) (Option.some Jvm.ClassFile.FieldType.int)) ∈ gtbl := gt_of 792 (by decide +kernel) (by decide +kernel)
theorem tw700 : (Jvm.Cond.methodLink "LeafFormula$Scribe" (80 : Nat) ({ cls := "LeafFormula$Scribe", name := "writeSign", desc := "(I)V" } : Jvm.MethodName)) ∈ gtbl := gt_of 793 (by decide +kernel) (by decide +kernel)
theorem tw702 : (Jvm.Cond.instanceMethod ({ cls := "LeafFormula$Scribe", name := "writeSign", desc := "(I)V" } : Jvm.MethodName)) ∈ gtbl := gt_of 795 (by decide +kernel) (by decide +kernel)
theorem tw703 : (Jvm.Cond.code ({ cls := "LeafFormula$Scribe", name := "writeSign", desc := "(I)V" } : Jvm.MethodName) prog_11_method_12_code (5 : Nat) (Option.none : Option Jvm.ClassFile.FieldType)) ∈ gtbl := gt_of 796 (by decide +kernel) (by decide +kernel)
theorem tw705 : (Jvm.Cond.methodLink "LeafFormula$Scribe" (116 : Nat) ({ cls := "java/lang/StringBuilder", name := "append", desc := "(Ljava/lang/String;)Ljava/lang/StringBuilder;" } : Jvm.MethodName)) ∈ gtbl := gt_of 798 (by decide +kernel) (by decide +kernel)
theorem tw706 : (Jvm.Cond.instanceMethod ({ cls := "java/lang/StringBuilder", name := "append", desc := "(Ljava/lang/String;)Ljava/lang/StringBuilder;" } : Jvm.MethodName)) ∈ gtbl := gt_of 799 (by decide +kernel) (by decide +kernel)
theorem tw707 : (Jvm.Cond.selects "java/lang/StringBuilder" ({ cls := "java/lang/StringBuilder", name := "append", desc := "(Ljava/lang/String;)Ljava/lang/StringBuilder;" } : Jvm.MethodName) ({ cls := "java/lang/StringBuilder", name := "append", desc := "(Ljava/lang/String;)Ljava/lang/StringBuilder;" } : Jvm.MethodName)) ∈ gtbl := gt_of 800 (by decide +kernel) (by decide +kernel)
theorem tw708 : (Jvm.Cond.code ({ cls := "java/lang/StringBuilder", name := "append", desc := "(Ljava/lang/String;)Ljava/lang/StringBuilder;" } : Jvm.MethodName) prog_22_method_7_code (2 : Nat) (Option.some (Jvm.ClassFile.FieldType.object "java/lang/StringBuilder"))) ∈ gtbl := gt_of 801 (by decide +kernel) (by decide +kernel)
theorem tw709 : (Jvm.Cond.methodLink "java/lang/StringBuilder" (29 : Nat) ({ cls := "java/lang/AbstractStringBuilder", name := "append", desc := "(Ljava/lang/String;)Ljava/lang/AbstractStringBuilder;" } : Jvm.MethodName)) ∈ gtbl := gt_of 802 (by decide +kernel) (by decide +kernel)
theorem tw710 : (Jvm.Cond.instanceMethod ({ cls := "java/lang/AbstractStringBuilder", name := "append", desc := "(Ljava/lang/String;)Ljava/lang/AbstractStringBuilder;" } : Jvm.MethodName)) ∈ gtbl := gt_of 803 (by decide +kernel) (by decide +kernel)
theorem tw711 : (Jvm.Cond.code ({ cls := "java/lang/AbstractStringBuilder", name := "append", desc := "(Ljava/lang/String;)Ljava/lang/AbstractStringBuilder;" } : Jvm.MethodName) prog_15_method_22_code (3 : Nat) (Option.some (Jvm.ClassFile.FieldType.object "java/lang/AbstractStringBuilder"))) ∈ gtbl := gt_of 804 (by decide +kernel) (by decide +kernel)
theorem tw719 : (Jvm.Cond.methodLink "java/lang/AbstractStringBuilder" (32 : Nat) ({ cls := "java/lang/String", name := "length", desc := "()I" } : Jvm.MethodName)) ∈ gtbl := gt_of 812 (by decide +kernel) (by decide +kernel)
theorem tw720 : (Jvm.Cond.methodLink "java/lang/AbstractStringBuilder" (208 : Nat) ({ cls := "java/lang/AbstractStringBuilder", name := "putStringAt", desc := "(ILjava/lang/String;)V" } : Jvm.MethodName)) ∈ gtbl := gt_of 813 (by decide +kernel) (by decide +kernel)
theorem tw722 : (Jvm.Cond.instanceMethod ({ cls := "java/lang/AbstractStringBuilder", name := "putStringAt", desc := "(ILjava/lang/String;)V" } : Jvm.MethodName)) ∈ gtbl := gt_of 815 (by decide +kernel) (by decide +kernel)
theorem tw723 : (Jvm.Cond.code ({ cls := "java/lang/AbstractStringBuilder", name := "putStringAt", desc := "(ILjava/lang/String;)V" } : Jvm.MethodName) prog_15_method_73_code (3 : Nat) (Option.none : Option Jvm.ClassFile.FieldType)) ∈ gtbl := gt_of 816 (by decide +kernel) (by decide +kernel)
theorem tw724 : (Jvm.Cond.methodLink "java/lang/AbstractStringBuilder" (397 : Nat) ({ cls := "java/lang/AbstractStringBuilder", name := "inflateIfNeededFor", desc := "(Ljava/lang/String;)V" } : Jvm.MethodName)) ∈ gtbl := gt_of 817 (by decide +kernel) (by decide +kernel)
theorem tw726 : (Jvm.Cond.instanceMethod ({ cls := "java/lang/AbstractStringBuilder", name := "inflateIfNeededFor", desc := "(Ljava/lang/String;)V" } : Jvm.MethodName)) ∈ gtbl := gt_of 819 (by decide +kernel) (by decide +kernel)
theorem tw727 : (Jvm.Cond.code ({ cls := "java/lang/AbstractStringBuilder", name := "inflateIfNeededFor", desc := "(Ljava/lang/String;)V" } : Jvm.MethodName) prog_15_method_71_code (2 : Nat) (Option.none : Option Jvm.ClassFile.FieldType)) ∈ gtbl := gt_of 820 (by decide +kernel) (by decide +kernel)
theorem tw728 : (Jvm.Cond.methodLink "java/lang/AbstractStringBuilder" (40 : Nat) ({ cls := "java/lang/String", name := "coder", desc := "()B" } : Jvm.MethodName)) ∈ gtbl := gt_of 821 (by decide +kernel) (by decide +kernel)
theorem tw729 : (Jvm.Cond.methodLink "java/lang/AbstractStringBuilder" (399 : Nat) ({ cls := "java/lang/String", name := "getBytes", desc := "([BIB)V" } : Jvm.MethodName)) ∈ gtbl := gt_of 822 (by decide +kernel) (by decide +kernel)
theorem tw730 : (Jvm.Cond.instanceMethod ({ cls := "java/lang/String", name := "getBytes", desc := "([BIB)V" } : Jvm.MethodName)) ∈ gtbl := gt_of 823 (by decide +kernel) (by decide +kernel)
theorem tw731 : (Jvm.Cond.selects "java/lang/String" ({ cls := "java/lang/String", name := "getBytes", desc := "([BIB)V" } : Jvm.MethodName) ({ cls := "java/lang/String", name := "getBytes", desc := "([BIB)V" } : Jvm.MethodName)) ∈ gtbl := gt_of 824 (by decide +kernel) (by decide +kernel)
theorem tw732 : (Jvm.Cond.code ({ cls := "java/lang/String", name := "getBytes", desc := "([BIB)V" } : Jvm.MethodName) prog_21_method_147_code (4 : Nat) (Option.none : Option Jvm.ClassFile.FieldType)) ∈ gtbl := gt_of 825 (by decide +kernel) (by decide +kernel)
theorem tw733 : (Jvm.Cond.methodLink "java/lang/String" (212 : Nat) ({ cls := "java/lang/System", name := "arraycopy", desc := "(Ljava/lang/Object;ILjava/lang/Object;II)V" } : Jvm.MethodName)) ∈ gtbl := gt_of 826 (by decide +kernel) (by decide +kernel)
theorem tw737 : (Jvm.Cond.methodLink "LeafFormula$Scribe" (146 : Nat) ({ cls := "java/lang/String", name := "length", desc := "()I" } : Jvm.MethodName)) ∈ gtbl := gt_of 830 (by decide +kernel) (by decide +kernel)
theorem tw738 : (Jvm.Cond.methodLink "LeafFormula$Scribe" (149 : Nat) ({ cls := "java/lang/String", name := "charAt", desc := "(I)C" } : Jvm.MethodName)) ∈ gtbl := gt_of 831 (by decide +kernel) (by decide +kernel)
theorem tw739 : (Jvm.Cond.instanceMethod ({ cls := "java/lang/String", name := "charAt", desc := "(I)C" } : Jvm.MethodName)) ∈ gtbl := gt_of 832 (by decide +kernel) (by decide +kernel)
theorem tw740 : (Jvm.Cond.selects "java/lang/String" ({ cls := "java/lang/String", name := "charAt", desc := "(I)C" } : Jvm.MethodName) ({ cls := "java/lang/String", name := "charAt", desc := "(I)C" } : Jvm.MethodName)) ∈ gtbl := gt_of 833 (by decide +kernel) (by decide +kernel)
theorem tw741 : (Jvm.Cond.code ({ cls := "java/lang/String", name := "charAt", desc := "(I)C" } : Jvm.MethodName) prog_21_method_56_code (2 : Nat) (Option.some Jvm.ClassFile.FieldType.char)) ∈ gtbl := gt_of 834 (by decide +kernel) (by decide +kernel)
theorem tw742 : (Jvm.Cond.methodLink "java/lang/String" (495 : Nat) ({ cls := "java/lang/StringLatin1", name := "charAt", desc := "([BI)C" } : Jvm.MethodName)) ∈ gtbl := gt_of 835 (by decide +kernel) (by decide +kernel)
theorem tw743 : (Jvm.Cond.static ({ cls := "java/lang/StringLatin1", name := "charAt", desc := "([BI)C" } : Jvm.MethodName)) ∈ gtbl := gt_of 836 (by decide +kernel) (by decide +kernel)
theorem tw744 : (Jvm.Cond.code ({ cls := "java/lang/StringLatin1", name := "charAt", desc := "([BI)C" } : Jvm.MethodName) prog_23_method_2_code (2 : Nat) (Option.some Jvm.ClassFile.FieldType.char)) ∈ gtbl := gt_of 837 (by decide +kernel) (by decide +kernel)
theorem tw745 : (Jvm.Cond.methodLink "java/lang/StringLatin1" (9 : Nat) ({ cls := "java/lang/String", name := "checkIndex", desc := "(II)V" } : Jvm.MethodName)) ∈ gtbl := gt_of 838 (by decide +kernel) (by decide +kernel)
theorem tw749 : (Jvm.Cond.methodLink "LeafFormula$Scribe" (83 : Nat) ({ cls := "java/lang/StringBuilder", name := "append", desc := "(I)Ljava/lang/StringBuilder;" } : Jvm.MethodName)) ∈ gtbl := gt_of 842 (by decide +kernel) (by decide +kernel)
theorem tw750 : (Jvm.Cond.instanceMethod ({ cls := "java/lang/StringBuilder", name := "append", desc := "(I)Ljava/lang/StringBuilder;" } : Jvm.MethodName)) ∈ gtbl := gt_of 843 (by decide +kernel) (by decide +kernel)
theorem tw751 : (Jvm.Cond.selects "java/lang/StringBuilder" ({ cls := "java/lang/StringBuilder", name := "append", desc := "(I)Ljava/lang/StringBuilder;" } : Jvm.MethodName) ({ cls := "java/lang/StringBuilder", name := "append", desc := "(I)Ljava/lang/StringBuilder;" } : Jvm.MethodName)) ∈ gtbl := gt_of 844 (by decide +kernel) (by decide +kernel)
theorem tw752 : (Jvm.Cond.code ({ cls := "java/lang/StringBuilder", name := "append", desc := "(I)Ljava/lang/StringBuilder;" } : Jvm.MethodName) prog_22_method_15_code (2 : Nat) (Option.some (Jvm.ClassFile.FieldType.object "java/lang/StringBuilder"))) ∈ gtbl := gt_of 845 (by decide +kernel) (by decide +kernel)
theorem tw753 : (Jvm.Cond.methodLink "java/lang/StringBuilder" (53 : Nat) ({ cls := "java/lang/AbstractStringBuilder", name := "append", desc := "(I)Ljava/lang/AbstractStringBuilder;" } : Jvm.MethodName)) ∈ gtbl := gt_of 846 (by decide +kernel) (by decide +kernel)
theorem tw754 : (Jvm.Cond.instanceMethod ({ cls := "java/lang/AbstractStringBuilder", name := "append", desc := "(I)Ljava/lang/AbstractStringBuilder;" } : Jvm.MethodName)) ∈ gtbl := gt_of 847 (by decide +kernel) (by decide +kernel)
theorem tw755 : (Jvm.Cond.code ({ cls := "java/lang/AbstractStringBuilder", name := "append", desc := "(I)Ljava/lang/AbstractStringBuilder;" } : Jvm.MethodName) prog_15_method_32_code (4 : Nat) (Option.some (Jvm.ClassFile.FieldType.object "java/lang/AbstractStringBuilder"))) ∈ gtbl := gt_of 848 (by decide +kernel) (by decide +kernel)
theorem tw756 : (Jvm.Cond.methodLink "java/lang/AbstractStringBuilder" (245 : Nat) ({ cls := "java/lang/Integer", name := "stringSize", desc := "(I)I" } : Jvm.MethodName)) ∈ gtbl := gt_of 849 (by decide +kernel) (by decide +kernel)
theorem tw757 : (Jvm.Cond.static ({ cls := "java/lang/Integer", name := "stringSize", desc := "(I)I" } : Jvm.MethodName)) ∈ gtbl := gt_of 850 (by decide +kernel) (by decide +kernel)
theorem tw758 : (Jvm.Cond.code ({ cls := "java/lang/Integer", name := "stringSize", desc := "(I)I" } : Jvm.MethodName) prog_18_method_13_code (4 : Nat) (Option.some Jvm.ClassFile.FieldType.int)) ∈ gtbl := gt_of 851 (by decide +kernel) (by decide +kernel)
theorem tw759 : (Jvm.Cond.methodLink "java/lang/AbstractStringBuilder" (248 : Nat) ({ cls := "java/lang/Integer", name := "getChars", desc := "(II[B)I" } : Jvm.MethodName)) ∈ gtbl := gt_of 852 (by decide +kernel) (by decide +kernel)
theorem tw760 : (Jvm.Cond.static ({ cls := "java/lang/Integer", name := "getChars", desc := "(II[B)I" } : Jvm.MethodName)) ∈ gtbl := gt_of 853 (by decide +kernel) (by decide +kernel)
theorem tw761 : (Jvm.Cond.code ({ cls := "java/lang/Integer", name := "getChars", desc := "(II[B)I" } : Jvm.MethodName) prog_18_method_12_code (7 : Nat) (Option.some Jvm.ClassFile.FieldType.int)) ∈ gtbl := gt_of 854 (by decide +kernel) (by decide +kernel)
theorem tw762 : (Jvm.Cond.fieldLink "java/lang/Integer" (83 : Nat) "java/lang/Integer" "DigitOnes" "[B") ∈ gtbl := gt_of 855 (by decide +kernel) (by decide +kernel)
theorem tw764 : (Jvm.Cond.fieldLink "java/lang/Integer" (87 : Nat) "java/lang/Integer" "DigitTens" "[B") ∈ gtbl := gt_of 857 (by decide +kernel) (by decide +kernel)
theorem tw774 : (Jvm.Cond.methodLink "LeafFormula$Scribe" (86 : Nat) ({ cls := "java/lang/StringBuilder", name := "length", desc := "()I" } : Jvm.MethodName)) ∈ gtbl := gt_of 867 (by decide +kernel) (by decide +kernel)
theorem tw775 : (Jvm.Cond.instanceMethod ({ cls := "java/lang/StringBuilder", name := "length", desc := "()I" } : Jvm.MethodName)) ∈ gtbl := gt_of 868 (by decide +kernel) (by decide +kernel)
theorem tw776 : (Jvm.Cond.selects "java/lang/StringBuilder" ({ cls := "java/lang/StringBuilder", name := "length", desc := "()I" } : Jvm.MethodName) ({ cls := "java/lang/StringBuilder", name := "length", desc := "()I" } : Jvm.MethodName)) ∈ gtbl := gt_of 869 (by decide +kernel) (by decide +kernel)
theorem tw777 : (Jvm.Cond.code ({ cls := "java/lang/StringBuilder", name := "length", desc := "()I" } : Jvm.MethodName) prog_22_method_93_code (1 : Nat) (Option.some Jvm.ClassFile.FieldType.int)) ∈ gtbl := gt_of 870 (by decide +kernel) (by decide +kernel)
theorem tw778 : (Jvm.Cond.methodLink "java/lang/StringBuilder" (343 : Nat) ({ cls := "java/lang/AbstractStringBuilder", name := "length", desc := "()I" } : Jvm.MethodName)) ∈ gtbl := gt_of 871 (by decide +kernel) (by decide +kernel)
theorem tw779 : (Jvm.Cond.instanceMethod ({ cls := "java/lang/AbstractStringBuilder", name := "length", desc := "()I" } : Jvm.MethodName)) ∈ gtbl := gt_of 872 (by decide +kernel) (by decide +kernel)
theorem tw780 : (Jvm.Cond.code ({ cls := "java/lang/AbstractStringBuilder", name := "length", desc := "()I" } : Jvm.MethodName) prog_15_method_6_code (1 : Nat) (Option.some Jvm.ClassFile.FieldType.int)) ∈ gtbl := gt_of 873 (by decide +kernel) (by decide +kernel)
theorem tw781 : (Jvm.Cond.methodLink "LeafFormula$Scribe" (90 : Nat) ({ cls := "LeafFormula$Scribe", name := "writeChangesOf", desc := "(LLeafFormula$Plan;II)V" } : Jvm.MethodName)) ∈ gtbl := gt_of 874 (by decide +kernel) (by decide +kernel)
theorem tw783 : (Jvm.Cond.instanceMethod ({ cls := "LeafFormula$Scribe", name := "writeChangesOf", desc := "(LLeafFormula$Plan;II)V" } : Jvm.MethodName)) ∈ gtbl := gt_of 876 (by decide +kernel) (by decide +kernel)
theorem tw784 : (Jvm.Cond.code ({ cls := "LeafFormula$Scribe", name := "writeChangesOf", desc := "(LLeafFormula$Plan;II)V" } : Jvm.MethodName) prog_11_method_7_code (8 : Nat) (Option.none : Option Jvm.ClassFile.FieldType)) ∈ gtbl := gt_of 877 (by decide +kernel) (by decide +kernel)
theorem tw785 : (Jvm.Cond.methodLink "LeafFormula$Scribe" (93 : Nat) ({ cls := "LeafFormula$Plan", name := "slotOf", desc := "(II)I" } : Jvm.MethodName)) ∈ gtbl := gt_of 878 (by decide +kernel) (by decide +kernel)
theorem tw786 : (Jvm.Cond.methodLink "LeafFormula$Scribe" (97 : Nat) ({ cls := "LeafFormula$Plan", name := "fateOf", desc := "(I)I" } : Jvm.MethodName)) ∈ gtbl := gt_of 879 (by decide +kernel) (by decide +kernel)
theorem tw787 : (Jvm.Cond.instanceMethod ({ cls := "LeafFormula$Plan", name := "fateOf", desc := "(I)I" } : Jvm.MethodName)) ∈ gtbl := gt_of 880 (by decide +kernel) (by decide +kernel)
theorem tw788 : (Jvm.Cond.selects "LeafFormula$Plan" ({ cls := "LeafFormula$Plan", name := "fateOf", desc := "(I)I" } : Jvm.MethodName) ({ cls := "LeafFormula$Plan", name := "fateOf", desc := "(I)I" } : Jvm.MethodName)) ∈ gtbl := gt_of 881 (by decide +kernel) (by decide +kernel)
theorem tw789 : (Jvm.Cond.code ({ cls := "LeafFormula$Plan", name := "fateOf", desc := "(I)I" } : Jvm.MethodName) prog_8_method_12_code (2 : Nat) (Option.some Jvm.ClassFile.FieldType.int)) ∈ gtbl := gt_of 882 (by decide +kernel) (by decide +kernel)
theorem tw790 : (Jvm.Cond.methodLink "LeafFormula$Scribe" (100 : Nat) ({ cls := "LeafFormula$Plan", name := "insertedAt", desc := "(I)I" } : Jvm.MethodName)) ∈ gtbl := gt_of 883 (by decide +kernel) (by decide +kernel)
theorem tw808 : (Jvm.Cond.code ({ cls := "java/lang/AbstractStringBuilder", name := "getValue", desc := "()[B" } : Jvm.MethodName) prog_15_method_64_code (1 : Nat) (Option.some (Jvm.ClassFile.FieldType.array Jvm.ClassFile.FieldType.byte))) ∈ gtbl := gt_of 901 (by decide +kernel) (by decide +kernel)
theorem tw1765 : (Jvm.Cond.sameMethod "java/lang/AbstractStringBuilder" "java/lang/AbstractStringBuilder" "setLength" "(I)V") ∈ gtbl := gt_of 1858 (by decide +kernel) (by decide +kernel)
theorem tw1768 : (Jvm.Cond.sameMethod "java/lang/AbstractStringBuilder" "java/lang/AbstractStringBuilder" "append" "(C)Ljava/lang/AbstractStringBuilder;") ∈ gtbl := gt_of 1861 (by decide +kernel) (by decide +kernel)
theorem tw1770 : (Jvm.Cond.sameMethod "java/lang/AbstractStringBuilder" "java/lang/AbstractStringBuilder" "append" "(Ljava/lang/String;)Ljava/lang/AbstractStringBuilder;") ∈ gtbl := gt_of 1863 (by decide +kernel) (by decide +kernel)
theorem tw1774 : (Jvm.Cond.sameMethod "java/lang/AbstractStringBuilder" "java/lang/AbstractStringBuilder" "append" "(I)Ljava/lang/AbstractStringBuilder;") ∈ gtbl := gt_of 1867 (by decide +kernel) (by decide +kernel)
theorem tw1775 : (Jvm.Cond.sameMethod "java/lang/AbstractStringBuilder" "java/lang/AbstractStringBuilder" "length" "()I") ∈ gtbl := gt_of 1868 (by decide +kernel) (by decide +kernel)
theorem pw15 : Cond.selects "LeafFormula" ⟨"LeafFormula", "refusalOfDraft", "()I"⟩ ⟨"LeafFormula", "refusalOfDraft", "()I"⟩ ∈ gtbl := gt_of 15 (by decide +kernel) (by decide +kernel)
theorem pw18 : Cond.selects "LeafFormula$Scribe" ⟨"LeafFormula$Scribe", "writeSign", "(I)V"⟩ ⟨"LeafFormula$Scribe", "writeSign", "(I)V"⟩ ∈ gtbl := gt_of 18 (by decide +kernel) (by decide +kernel)
theorem pw19 : Cond.selects "LeafFormula$Scribe" ⟨"LeafFormula$Scribe", "writeChangesOf", "(LLeafFormula$Plan;II)V"⟩ ⟨"LeafFormula$Scribe", "writeChangesOf", "(LLeafFormula$Plan;II)V"⟩ ∈ gtbl := gt_of 19 (by decide +kernel) (by decide +kernel)
/-! X6_leavesInAll -/
theorem dX6_leavesInAll_0 : decode cX6_leavesInAll 0 = .ok (.iconst 0, 1) := by decide +kernel
theorem dX6_leavesInAll_1 : decode cX6_leavesInAll 1 = .ok (.istore_n 1, 1) := by decide +kernel
theorem dX6_leavesInAll_2 : decode cX6_leavesInAll 2 = .ok (.iconst 0, 1) := by decide +kernel
theorem dX6_leavesInAll_3 : decode cX6_leavesInAll 3 = .ok (.istore_n 2, 1) := by decide +kernel
theorem dX6_leavesInAll_4 : decode cX6_leavesInAll 4 = .ok (.iload_n 2, 1) := by decide +kernel
theorem dX6_leavesInAll_5 : decode cX6_leavesInAll 5 = .ok (.bipush 71, 2) := by decide +kernel
theorem dX6_leavesInAll_7 : decode cX6_leavesInAll 7 = .ok (.if_icmp .ge 17, 3) := by decide +kernel
theorem dX6_leavesInAll_10 : decode cX6_leavesInAll 10 = .ok (.iload_n 1, 1) := by decide +kernel
theorem dX6_leavesInAll_11 : decode cX6_leavesInAll 11 = .ok (.aload_n 0, 1) := by decide +kernel
theorem dX6_leavesInAll_12 : decode cX6_leavesInAll 12 = .ok (.iload_n 2, 1) := by decide +kernel
theorem dX6_leavesInAll_13 : decode cX6_leavesInAll 13 = .ok (.invokevirtual 51, 3) := by decide +kernel
theorem dX6_leavesInAll_16 : decode cX6_leavesInAll 16 = .ok (.iadd, 1) := by decide +kernel
theorem dX6_leavesInAll_17 : decode cX6_leavesInAll 17 = .ok (.istore_n 1, 1) := by decide +kernel
theorem dX6_leavesInAll_18 : decode cX6_leavesInAll 18 = .ok (.iinc 2 1, 3) := by decide +kernel
theorem dX6_leavesInAll_21 : decode cX6_leavesInAll 21 = .ok (.goto (-17), 3) := by decide +kernel
theorem dX6_leavesInAll_24 : decode cX6_leavesInAll 24 = .ok (.iconst 0, 1) := by decide +kernel
theorem dX6_leavesInAll_25 : decode cX6_leavesInAll 25 = .ok (.istore_n 2, 1) := by decide +kernel
theorem dX6_leavesInAll_26 : decode cX6_leavesInAll 26 = .ok (.iload_n 2, 1) := by decide +kernel
theorem dX6_leavesInAll_27 : decode cX6_leavesInAll 27 = .ok (.sipush 852, 3) := by decide +kernel
theorem dX6_leavesInAll_30 : decode cX6_leavesInAll 30 = .ok (.if_icmp .ge 17, 3) := by decide +kernel
theorem dX6_leavesInAll_33 : decode cX6_leavesInAll 33 = .ok (.iload_n 1, 1) := by decide +kernel
theorem dX6_leavesInAll_34 : decode cX6_leavesInAll 34 = .ok (.aload_n 0, 1) := by decide +kernel
theorem dX6_leavesInAll_35 : decode cX6_leavesInAll 35 = .ok (.iload_n 2, 1) := by decide +kernel
theorem dX6_leavesInAll_36 : decode cX6_leavesInAll 36 = .ok (.invokevirtual 58, 3) := by decide +kernel
theorem dX6_leavesInAll_39 : decode cX6_leavesInAll 39 = .ok (.iadd, 1) := by decide +kernel
theorem dX6_leavesInAll_40 : decode cX6_leavesInAll 40 = .ok (.istore_n 1, 1) := by decide +kernel
theorem dX6_leavesInAll_41 : decode cX6_leavesInAll 41 = .ok (.iinc 2 1, 3) := by decide +kernel
theorem dX6_leavesInAll_44 : decode cX6_leavesInAll 44 = .ok (.goto (-18), 3) := by decide +kernel
theorem dX6_leavesInAll_47 : decode cX6_leavesInAll 47 = .ok (.iload_n 1, 1) := by decide +kernel
theorem dX6_leavesInAll_48 : decode cX6_leavesInAll 48 = .ok (.ireturn, 1) := by decide +kernel
def X6_leavesInAll_26_st  (k26 : Nat → Int32 → Int32 → MM Int32) (this : Nat) (x1 : Int32) (x2 : Int32) : MM Int32 :=
  if (852 : Int32) ≤ x2 then (mr x1) else (mb (wc 7 (some this) fun t => X6_insertedAt t x2) fun v1 =>
  (k26 this (x1 + v1) (x2 + (1 : Int32))))
def X6_leavesInAll_26  : Nat → Nat → Int32 → Int32 → MM Int32
  | 0 => fun _ _ _ => mf
  | n + 1 => fun this x1 x2 => X6_leavesInAll_26_st  (X6_leavesInAll_26  n) this x1 x2
def X6_leavesInAll_24  (this : Nat) (x1 : Int32) : MM Int32 :=
  (X6_leavesInAll_26 LFU this x1 (0 : Int32))
def X6_leavesInAll_4_st  (k4 : Nat → Int32 → Int32 → MM Int32) (this : Nat) (x1 : Int32) (x2 : Int32) : MM Int32 :=
  if (71 : Int32) ≤ x2 then ((X6_leavesInAll_24 this x1)) else (mb (wc 7 (some this) fun t => X6_sizeOf t x2) fun v1 =>
  (k4 this (x1 + v1) (x2 + (1 : Int32))))
def X6_leavesInAll_4  : Nat → Nat → Int32 → Int32 → MM Int32
  | 0 => fun _ _ _ => mf
  | n + 1 => fun this x1 x2 => X6_leavesInAll_4_st  (X6_leavesInAll_4  n) this x1 x2
def X6_leavesInAll (this : Nat) : MM Int32 :=
  (X6_leavesInAll_4 LFU this (0 : Int32) (0 : Int32))
set_option maxRecDepth 100000 in
set_option maxHeartbeats 4000000 in
theorem s_X6_leavesInAll_26_st (G : GG)   (k26 : Nat → Int32 → Int32 → MM Int32) (hk26 : ∀ (this : Nat) (x1 : Int32) (x2 : Int32), Sn G yX6_leavesInAll cX6_leavesInAll 3 (some FieldType.int) 1 21 (fun v : Int32 => some (.int v)) (k26 this x1 x2) 26 [some (va_rf (some this)), some (.int x1), some (.int x2)] []) (this : Nat) (x1 : Int32) (x2 : Int32) : Sn G yX6_leavesInAll cX6_leavesInAll 3 (some FieldType.int) 1 21 (fun v : Int32 => some (.int v)) (X6_leavesInAll_26_st  k26 this x1 x2) 26 [some (va_rf (some this)), some (.int x1), some (.int x2)] [] := by
  unfold X6_leavesInAll_26_st
  refine sn_iload_n (v := x2) (pc' := 27) dX6_leavesInAll_26 rfl rfl rfl ?_
  refine sn_sipush (v := (852 : Int32)) (pc' := 30) dX6_leavesInAll_27 rfl (by decide) ?_
  refine sn_ic_ge (pt := 47) (pf := 33) dX6_leavesInAll_30 rfl rfl ?_ ?_
  · refine sn_iload_n (v := x1) (pc' := 48) dX6_leavesInAll_47 rfl rfl rfl ?_
    exact sn_iret dX6_leavesInAll_48 rfl rfl
  · refine sn_iload_n (v := x1) (pc' := 34) dX6_leavesInAll_33 rfl rfl rfl ?_
    refine sn_aload_n (v := (some this)) (pc' := 35) dX6_leavesInAll_34 rfl rfl rfl ?_
    refine sn_iload_n (v := x2) (pc' := 36) dX6_leavesInAll_35 rfl rfl rfl ?_
    refine sn_cV (r := (some this)) (st := [.int x1]) (As := [.int x2]) (st2 := (fun v => .int v :: [.int x1])) (pc' := 39) ci_7 (fun t => c_X6_insertedAt G t x2) cw_X6_insertedAt rfl rfl tw575 tw577 tw576 rfl rfl (cat_i cat_nil) rfl (fun _ => rfl) dX6_leavesInAll_36 rfl (fun v1 => ?_)
    refine sn_iadd (pc' := 40) dX6_leavesInAll_39 rfl ?_
    refine sn_istore_n (v := (x1 + v1)) (L' := [some (va_rf (some this)), some (.int (x1 + v1)), some (.int x2)]) (pc' := 41) dX6_leavesInAll_40 rfl rfl rfl rfl ?_
    refine sn_iinc (v := x2) (w := 1) (L' := [some (va_rf (some this)), some (.int (x1 + v1)), some (.int (x2 + (1 : Int32)))]) (pc' := 44) dX6_leavesInAll_41 rfl rfl rfl (by decide) rfl ?_
    refine sn_goto (pc' := 26) dX6_leavesInAll_44 rfl ?_
    exact sn_weak (le_s (le_s (le_s le_e))) (hk26 this (x1 + v1) (x2 + (1 : Int32)))
set_option maxRecDepth 100000 in
set_option maxHeartbeats 4000000 in
theorem s_X6_leavesInAll_26 (G : GG)   : ∀ (n : Nat) (this : Nat) (x1 : Int32) (x2 : Int32), Sn G yX6_leavesInAll cX6_leavesInAll 3 (some FieldType.int) 1 21 (fun v : Int32 => some (.int v)) (X6_leavesInAll_26  n this x1 x2) 26 [some (va_rf (some this)), some (.int x1), some (.int x2)] [] := by
  intro n
  induction n with
  | zero => intro this x1 x2; exact sn_mf
  | succ n ih => intro this x1 x2; exact s_X6_leavesInAll_26_st G   (X6_leavesInAll_26  n) ih this x1 x2
set_option maxRecDepth 100000 in
set_option maxHeartbeats 4000000 in
theorem s_X6_leavesInAll_24 (G : GG)   (this : Nat) (x1 : Int32) : Sn G yX6_leavesInAll cX6_leavesInAll 3 (some FieldType.int) 1 21 (fun v : Int32 => some (.int v)) (X6_leavesInAll_24  this x1) 24 [some (va_rf (some this)), some (.int x1), none] [] := by
  unfold X6_leavesInAll_24
  refine sn_iconst (v := (0 : Int32)) (pc' := 25) dX6_leavesInAll_24 rfl (by decide) ?_
  refine sn_istore_n (v := (0 : Int32)) (L' := [some (va_rf (some this)), some (.int x1), some (.int (0 : Int32))]) (pc' := 26) dX6_leavesInAll_25 rfl rfl rfl rfl ?_
  exact sn_weak (le_s (le_s (le_s le_e))) (s_X6_leavesInAll_26 G LFU this x1 (0 : Int32))
set_option maxRecDepth 100000 in
set_option maxHeartbeats 4000000 in
theorem s_X6_leavesInAll_4_st (G : GG)   (k4 : Nat → Int32 → Int32 → MM Int32) (hk4 : ∀ (this : Nat) (x1 : Int32) (x2 : Int32), Sn G yX6_leavesInAll cX6_leavesInAll 3 (some FieldType.int) 1 21 (fun v : Int32 => some (.int v)) (k4 this x1 x2) 4 [some (va_rf (some this)), some (.int x1), some (.int x2)] []) (this : Nat) (x1 : Int32) (x2 : Int32) : Sn G yX6_leavesInAll cX6_leavesInAll 3 (some FieldType.int) 1 21 (fun v : Int32 => some (.int v)) (X6_leavesInAll_4_st  k4 this x1 x2) 4 [some (va_rf (some this)), some (.int x1), some (.int x2)] [] := by
  unfold X6_leavesInAll_4_st
  refine sn_iload_n (v := x2) (pc' := 5) dX6_leavesInAll_4 rfl rfl rfl ?_
  refine sn_bipush (v := (71 : Int32)) (pc' := 7) dX6_leavesInAll_5 rfl (by decide) ?_
  refine sn_ic_ge (pt := 24) (pf := 10) dX6_leavesInAll_7 rfl rfl ?_ ?_
  · exact sn_weak (le_s (le_s (le_n le_e))) (s_X6_leavesInAll_24 G this x1)
  · refine sn_iload_n (v := x1) (pc' := 11) dX6_leavesInAll_10 rfl rfl rfl ?_
    refine sn_aload_n (v := (some this)) (pc' := 12) dX6_leavesInAll_11 rfl rfl rfl ?_
    refine sn_iload_n (v := x2) (pc' := 13) dX6_leavesInAll_12 rfl rfl rfl ?_
    refine sn_cV (r := (some this)) (st := [.int x1]) (As := [.int x2]) (st2 := (fun v => .int v :: [.int x1])) (pc' := 16) ci_7 (fun t => c_X6_sizeOf G t x2) cw_X6_sizeOf rfl rfl tw562 tw539 tw538 rfl rfl (cat_i cat_nil) rfl (fun _ => rfl) dX6_leavesInAll_13 rfl (fun v1 => ?_)
    refine sn_iadd (pc' := 17) dX6_leavesInAll_16 rfl ?_
    refine sn_istore_n (v := (x1 + v1)) (L' := [some (va_rf (some this)), some (.int (x1 + v1)), some (.int x2)]) (pc' := 18) dX6_leavesInAll_17 rfl rfl rfl rfl ?_
    refine sn_iinc (v := x2) (w := 1) (L' := [some (va_rf (some this)), some (.int (x1 + v1)), some (.int (x2 + (1 : Int32)))]) (pc' := 21) dX6_leavesInAll_18 rfl rfl rfl (by decide) rfl ?_
    refine sn_goto (pc' := 4) dX6_leavesInAll_21 rfl ?_
    exact sn_weak (le_s (le_s (le_s le_e))) (hk4 this (x1 + v1) (x2 + (1 : Int32)))
set_option maxRecDepth 100000 in
set_option maxHeartbeats 4000000 in
theorem s_X6_leavesInAll_4 (G : GG)   : ∀ (n : Nat) (this : Nat) (x1 : Int32) (x2 : Int32), Sn G yX6_leavesInAll cX6_leavesInAll 3 (some FieldType.int) 1 21 (fun v : Int32 => some (.int v)) (X6_leavesInAll_4  n this x1 x2) 4 [some (va_rf (some this)), some (.int x1), some (.int x2)] [] := by
  intro n
  induction n with
  | zero => intro this x1 x2; exact sn_mf
  | succ n ih => intro this x1 x2; exact s_X6_leavesInAll_4_st G   (X6_leavesInAll_4  n) ih this x1 x2
set_option maxRecDepth 100000 in
set_option maxHeartbeats 4000000 in
theorem s_X6_leavesInAll (G : GG) (this : Nat) : Sn G yX6_leavesInAll cX6_leavesInAll 3 (some FieldType.int) 1 21 (fun v : Int32 => some (.int v)) (X6_leavesInAll this) 0 [some (va_rf (some this)), none, none] [] := by
  unfold X6_leavesInAll
  refine sn_iconst (v := (0 : Int32)) (pc' := 1) dX6_leavesInAll_0 rfl (by decide) ?_
  refine sn_istore_n (v := (0 : Int32)) (L' := [some (va_rf (some this)), some (.int (0 : Int32)), none]) (pc' := 2) dX6_leavesInAll_1 rfl rfl rfl rfl ?_
  refine sn_iconst (v := (0 : Int32)) (pc' := 3) dX6_leavesInAll_2 rfl (by decide) ?_
  refine sn_istore_n (v := (0 : Int32)) (L' := [some (va_rf (some this)), some (.int (0 : Int32)), some (.int (0 : Int32))]) (pc' := 4) dX6_leavesInAll_3 rfl rfl rfl rfl ?_
  exact sn_weak (le_s (le_s (le_s le_e))) (s_X6_leavesInAll_4 G LFU this (0 : Int32) (0 : Int32))
theorem c_X6_leavesInAll (G : GG) (this : Nat) : Cal G yX6_leavesInAll cX6_leavesInAll 3 (some FieldType.int) 1 21 (fun v : Int32 => some (.int v)) (X6_leavesInAll this) [.ref this] :=
  Cal.of (by decide) (cat_t cat_nil) rfl (sn_weak (le_s (le_z (le_z le_e))) (s_X6_leavesInAll G this))
theorem cw_X6_leavesInAll : CW yX6_leavesInAll cX6_leavesInAll 3 (some FieldType.int) 0 := ⟨tw574, tw8, by decide, by decide +kernel⟩
/-! X11_refusalOfDraft -/
theorem dX11_refusalOfDraft_0 : decode cX11_refusalOfDraft 0 = .ok (.aload_n 0, 1) := by decide +kernel
theorem dX11_refusalOfDraft_1 : decode cX11_refusalOfDraft 1 = .ok (.getfield 88, 3) := by decide +kernel
theorem dX11_refusalOfDraft_4 : decode cX11_refusalOfDraft 4 = .ok (.ifCond .eq 5, 3) := by decide +kernel
theorem dX11_refusalOfDraft_7 : decode cX11_refusalOfDraft 7 = .ok (.iconst 4, 1) := by decide +kernel
theorem dX11_refusalOfDraft_8 : decode cX11_refusalOfDraft 8 = .ok (.ireturn, 1) := by decide +kernel
theorem dX11_refusalOfDraft_9 : decode cX11_refusalOfDraft 9 = .ok (.aload_n 0, 1) := by decide +kernel
theorem dX11_refusalOfDraft_10 : decode cX11_refusalOfDraft 10 = .ok (.getfield 28, 3) := by decide +kernel
theorem dX11_refusalOfDraft_13 : decode cX11_refusalOfDraft 13 = .ok (.invokevirtual 265, 3) := by decide +kernel
theorem dX11_refusalOfDraft_16 : decode cX11_refusalOfDraft 16 = .ok (.sipush 400, 3) := by decide +kernel
theorem dX11_refusalOfDraft_19 : decode cX11_refusalOfDraft 19 = .ok (.if_icmp .le 8, 3) := by decide +kernel
theorem dX11_refusalOfDraft_22 : decode cX11_refusalOfDraft 22 = .ok (.bipush 9, 2) := by decide +kernel
theorem dX11_refusalOfDraft_24 : decode cX11_refusalOfDraft 24 = .ok (.goto 4, 3) := by decide +kernel
theorem dX11_refusalOfDraft_27 : decode cX11_refusalOfDraft 27 = .ok (.iconst 0, 1) := by decide +kernel
theorem dX11_refusalOfDraft_28 : decode cX11_refusalOfDraft 28 = .ok (.ireturn, 1) := by decide +kernel
def X11_refusalOfDraft (this : Nat) : MM Int32 :=
  mb (gI 12 (some this) 10) fun v1 =>
  if v1 = 0 then (mb (gR 12 (some this) 2) fun v2 =>
  mb (wc 7 v2 fun t => X6_leavesInAll t ) fun v3 =>
  if v3 ≤ (400 : Int32) then (mr (0 : Int32)) else (mr (9 : Int32))) else (mr (4 : Int32))
set_option maxRecDepth 100000 in
set_option maxHeartbeats 4000000 in
theorem s_X11_refusalOfDraft (G : GG) (this : Nat) : Sn G yX11_refusalOfDraft cX11_refusalOfDraft 1 (some FieldType.int) 2 43 (fun v : Int32 => some (.int v)) (X11_refusalOfDraft this) 0 [some (va_rf (some this))] [] := by
  unfold X11_refusalOfDraft
  refine sn_aload_n (v := (some this)) (pc' := 1) dX11_refusalOfDraft_0 rfl rfl rfl ?_
  refine sn_gI (k := 10) (pc' := 4) ci_12 rfl (Or.inl tw283) dX11_refusalOfDraft_1 rfl (fun v1 => ?_)
  refine sn_if_eq (pt := 9) (pf := 7) dX11_refusalOfDraft_4 rfl rfl ?_ ?_
  · refine sn_aload_n (v := (some this)) (pc' := 10) dX11_refusalOfDraft_9 rfl rfl rfl ?_
    refine sn_gR (k := 2) (pc' := 13) ci_12 rfl (Or.inl tw275) dX11_refusalOfDraft_10 rfl (fun v2 => ?_)
    refine sn_cV (r := v2) (st := []) (As := []) (st2 := (fun v => .int v :: [])) (pc' := 16) ci_7 (fun t => c_X6_leavesInAll G t ) cw_X6_leavesInAll rfl rfl tw571 tw573 tw572 rfl rfl cat_nil rfl (fun _ => rfl) dX11_refusalOfDraft_13 rfl (fun v3 => ?_)
    refine sn_sipush (v := (400 : Int32)) (pc' := 19) dX11_refusalOfDraft_16 rfl (by decide) ?_
    refine sn_ic_le (pt := 27) (pf := 22) dX11_refusalOfDraft_19 rfl rfl ?_ ?_
    · refine sn_iconst (v := (0 : Int32)) (pc' := 28) dX11_refusalOfDraft_27 rfl (by decide) ?_
      exact sn_iret dX11_refusalOfDraft_28 rfl rfl
    · refine sn_bipush (v := (9 : Int32)) (pc' := 24) dX11_refusalOfDraft_22 rfl (by decide) ?_
      refine sn_goto (pc' := 28) dX11_refusalOfDraft_24 rfl ?_
      exact sn_iret dX11_refusalOfDraft_28 rfl rfl
  · refine sn_iconst (v := (4 : Int32)) (pc' := 8) dX11_refusalOfDraft_7 rfl (by decide) ?_
    exact sn_iret dX11_refusalOfDraft_8 rfl rfl
theorem c_X11_refusalOfDraft (G : GG) (this : Nat) : Cal G yX11_refusalOfDraft cX11_refusalOfDraft 1 (some FieldType.int) 2 43 (fun v : Int32 => some (.int v)) (X11_refusalOfDraft this) [.ref this] :=
  Cal.of (by decide) (cat_t cat_nil) rfl (sn_weak (le_s le_e) (s_X11_refusalOfDraft G this))
theorem cw_X11_refusalOfDraft : CW yX11_refusalOfDraft cX11_refusalOfDraft 1 (some FieldType.int) 0 := ⟨tw570, tw1, by decide, by decide +kernel⟩
/-! X11_draftFormula -/
theorem dX11_draftFormula_0 : decode cX11_draftFormula 0 = .ok (.aload_n 0, 1) := by decide +kernel
theorem dX11_draftFormula_1 : decode cX11_draftFormula 1 = .ok (.aload_n 0, 1) := by decide +kernel
theorem dX11_draftFormula_2 : decode cX11_draftFormula 2 = .ok (.getfield 21, 3) := by decide +kernel
theorem dX11_draftFormula_5 : decode cX11_draftFormula 5 = .ok (.aload_n 0, 1) := by decide +kernel
theorem dX11_draftFormula_6 : decode cX11_draftFormula 6 = .ok (.getfield 28, 3) := by decide +kernel
theorem dX11_draftFormula_9 : decode cX11_draftFormula 9 = .ok (.invokestatic 243, 3) := by decide +kernel
theorem dX11_draftFormula_12 : decode cX11_draftFormula 12 = .ok (.putfield 88, 3) := by decide +kernel
theorem dX11_draftFormula_15 : decode cX11_draftFormula 15 = .ok (.aload_n 0, 1) := by decide +kernel
theorem dX11_draftFormula_16 : decode cX11_draftFormula 16 = .ok (.invokevirtual 249, 3) := by decide +kernel
theorem dX11_draftFormula_19 : decode cX11_draftFormula 19 = .ok (.ireturn, 1) := by decide +kernel
def X11_draftFormula (this : Nat) : MM Int32 :=
  mb (gR 12 (some this) 1) fun v1 =>
  mb (gR 12 (some this) 2) fun v2 =>
  mb (X3_ofFormula v1 v2) fun v3 =>
  mb (pI 12 (some this) 10 v3) fun _ =>
  mb (wc 12 (some this) fun t => X11_refusalOfDraft t ) fun v4 =>
  mr v4
set_option maxRecDepth 100000 in
set_option maxHeartbeats 4000000 in
theorem s_X11_draftFormula (G : GG) (this : Nat) : Sn G yX11_draftFormula cX11_draftFormula 1 (some FieldType.int) 5 121 (fun v : Int32 => some (.int v)) (X11_draftFormula this) 0 [some (va_rf (some this))] [] := by
  unfold X11_draftFormula
  refine sn_aload_n (v := (some this)) (pc' := 1) dX11_draftFormula_0 rfl rfl rfl ?_
  refine sn_aload_n (v := (some this)) (pc' := 2) dX11_draftFormula_1 rfl rfl rfl ?_
  refine sn_gR (k := 1) (pc' := 5) ci_12 rfl (Or.inl tw274) dX11_draftFormula_2 rfl (fun v1 => ?_)
  refine sn_aload_n (v := (some this)) (pc' := 6) dX11_draftFormula_5 rfl rfl rfl ?_
  refine sn_gR (k := 2) (pc' := 9) ci_12 rfl (Or.inl tw275) dX11_draftFormula_6 rfl (fun v2 => ?_)
  refine sn_cS (st := [va_rf (some this)]) (As := [va_rf v1, va_rf v2]) (st2 := (fun v => .int v :: [va_rf (some this)])) (pc' := 12) (c_X3_ofFormula G v1 v2) cw_X3_ofFormula rfl rfl tw520 tw521 rfl rfl (cat_q cat_nil) rfl (fun _ => rfl) dX11_draftFormula_9 rfl (fun v3 => ?_)
  refine sn_pI (k := 10) (pc' := 15) ci_12 rfl (Or.inl tw283) (Or.inl rfl) rfl dX11_draftFormula_12 rfl (fun _ => ?_)
  refine sn_aload_n (v := (some this)) (pc' := 16) dX11_draftFormula_15 rfl rfl rfl ?_
  refine sn_cV (r := (some this)) (st := []) (As := []) (st2 := (fun v => .int v :: [])) (pc' := 19) ci_12 (fun t => c_X11_refusalOfDraft G t ) cw_X11_refusalOfDraft rfl rfl tw567 pw15 tw569 rfl rfl cat_nil rfl (fun _ => rfl) dX11_draftFormula_16 rfl (fun v4 => ?_)
  exact sn_iret dX11_draftFormula_19 rfl rfl
theorem c_X11_draftFormula (G : GG) (this : Nat) : Cal G yX11_draftFormula cX11_draftFormula 1 (some FieldType.int) 5 121 (fun v : Int32 => some (.int v)) (X11_draftFormula this) [.ref this] :=
  Cal.of (by decide) (cat_t cat_nil) rfl (sn_weak (le_s le_e) (s_X11_draftFormula G this))
theorem cw_X11_draftFormula : CW yX11_draftFormula cX11_draftFormula 1 (some FieldType.int) 0 := ⟨tw519, tw1, by decide, by decide +kernel⟩
/-! J8_newLength_cabcc -/
theorem dJ8_newLength_cabcc_0 : decode cJ8_newLength_cabcc 0 = .ok (.iload_n 0, 1) := by decide +kernel
theorem dJ8_newLength_cabcc_1 : decode cJ8_newLength_cabcc 1 = .ok (.iload_n 1, 1) := by decide +kernel
theorem dJ8_newLength_cabcc_2 : decode cJ8_newLength_cabcc 2 = .ok (.iload_n 2, 1) := by decide +kernel
theorem dJ8_newLength_cabcc_3 : decode cJ8_newLength_cabcc 3 = .ok (.invokestatic 194, 3) := by decide +kernel
theorem dJ8_newLength_cabcc_6 : decode cJ8_newLength_cabcc 6 = .ok (.iadd, 1) := by decide +kernel
theorem dJ8_newLength_cabcc_7 : decode cJ8_newLength_cabcc 7 = .ok (.istore_n 3, 1) := by decide +kernel
theorem dJ8_newLength_cabcc_8 : decode cJ8_newLength_cabcc 8 = .ok (.iconst 0, 1) := by decide +kernel
theorem dJ8_newLength_cabcc_9 : decode cJ8_newLength_cabcc 9 = .ok (.iload_n 3, 1) := by decide +kernel
theorem dJ8_newLength_cabcc_10 : decode cJ8_newLength_cabcc 10 = .ok (.if_icmp .ge 11, 3) := by decide +kernel
theorem dJ8_newLength_cabcc_13 : decode cJ8_newLength_cabcc 13 = .ok (.iload_n 3, 1) := by decide +kernel
theorem dJ8_newLength_cabcc_14 : decode cJ8_newLength_cabcc 14 = .ok (.ldc 200, 2) := by decide +kernel
theorem dJ8_newLength_cabcc_16 : decode cJ8_newLength_cabcc 16 = .ok (.if_icmp .gt 5, 3) := by decide +kernel
theorem dJ8_newLength_cabcc_19 : decode cJ8_newLength_cabcc 19 = .ok (.iload_n 3, 1) := by decide +kernel
theorem dJ8_newLength_cabcc_20 : decode cJ8_newLength_cabcc 20 = .ok (.ireturn, 1) := by decide +kernel
def J8_newLength_cabcc (a0 : Int32) (a1 : Int32) (a2 : Int32) : MM Int32 :=
  if (a0 + (if a1 < a2 then a2 else a1)) ≤ (0 : Int32) then (mf) else (if (2147483639 : Int32) < (a0 + (if a1 < a2 then a2 else a1)) then (mf) else (mr (a0 + (if a1 < a2 then a2 else a1))))
set_option maxRecDepth 100000 in
set_option maxHeartbeats 4000000 in
theorem s_J8_newLength_cabcc (G : GG) (a0 : Int32) (a1 : Int32) (a2 : Int32) : Sn G yJ8_newLength_cabcc cJ8_newLength_cabcc 4 (some FieldType.int) 1 14 (fun v : Int32 => some (.int v)) (J8_newLength_cabcc a0 a1 a2) 0 [some (.int a0), some (.int a1), some (.int a2), none] [] := by
  unfold J8_newLength_cabcc
  refine sn_iload_n (v := a0) (pc' := 1) dJ8_newLength_cabcc_0 rfl rfl rfl ?_
  refine sn_iload_n (v := a1) (pc' := 2) dJ8_newLength_cabcc_1 rfl rfl rfl ?_
  refine sn_iload_n (v := a2) (pc' := 3) dJ8_newLength_cabcc_2 rfl rfl rfl ?_
  refine sn_max (pc' := 6) rfl tw606 tw48 tw4 tw49 (cat_i cat_nil) rfl dJ8_newLength_cabcc_3 rfl ?_
  refine sn_iadd (pc' := 7) dJ8_newLength_cabcc_6 rfl ?_
  refine sn_istore_n (v := (a0 + (if a1 < a2 then a2 else a1))) (L' := [some (.int a0), some (.int a1), some (.int a2), some (.int (a0 + (if a1 < a2 then a2 else a1)))]) (pc' := 8) dJ8_newLength_cabcc_7 rfl rfl rfl rfl ?_
  refine sn_iconst (v := (0 : Int32)) (pc' := 9) dJ8_newLength_cabcc_8 rfl (by decide) ?_
  refine sn_iload_n (v := (a0 + (if a1 < a2 then a2 else a1))) (pc' := 10) dJ8_newLength_cabcc_9 rfl rfl rfl ?_
  refine sn_ic_ge (pt := 21) (pf := 13) dJ8_newLength_cabcc_10 rfl rfl ?_ ?_
  · exact sn_mf
  · refine sn_iload_n (v := (a0 + (if a1 < a2 then a2 else a1))) (pc' := 14) dJ8_newLength_cabcc_13 rfl rfl rfl ?_
    refine sn_ldc (v := (2147483639 : Int32)) (pc' := 16) dJ8_newLength_cabcc_14 rfl tw607 ?_
    refine sn_ic_gt (pt := 21) (pf := 19) dJ8_newLength_cabcc_16 rfl rfl ?_ ?_
    · exact sn_mf
    · refine sn_iload_n (v := (a0 + (if a1 < a2 then a2 else a1))) (pc' := 20) dJ8_newLength_cabcc_19 rfl rfl rfl ?_
      exact sn_iret dJ8_newLength_cabcc_20 rfl rfl
theorem c_J8_newLength_cabcc (G : GG) (a0 : Int32) (a1 : Int32) (a2 : Int32) : Cal G yJ8_newLength_cabcc cJ8_newLength_cabcc 4 (some FieldType.int) 1 14 (fun v : Int32 => some (.int v)) (J8_newLength_cabcc a0 a1 a2) [.int a0, .int a1, .int a2] :=
  Cal.of (by decide) (cat_i (cat_i (cat_i cat_nil))) rfl (sn_weak (le_s (le_s (le_s (le_z le_e)))) (s_J8_newLength_cabcc G a0 a1 a2))
theorem cw_J8_newLength_cabcc : CW yJ8_newLength_cabcc cJ8_newLength_cabcc 4 (some FieldType.int) 3 := ⟨tw605, tw22, by decide, by decide +kernel⟩
/-! J5_newCapacity_0f7a4 -/
theorem dJ5_newCapacity_0f7a4_0 : decode cJ5_newCapacity_0f7a4 0 = .ok (.aload_n 0, 1) := by decide +kernel
theorem dJ5_newCapacity_0f7a4_1 : decode cJ5_newCapacity_0f7a4 1 = .ok (.getfield 15, 3) := by decide +kernel
theorem dJ5_newCapacity_0f7a4_4 : decode cJ5_newCapacity_0f7a4 4 = .ok (.arraylength, 1) := by decide +kernel
theorem dJ5_newCapacity_0f7a4_5 : decode cJ5_newCapacity_0f7a4 5 = .ok (.istore_n 2, 1) := by decide +kernel
theorem dJ5_newCapacity_0f7a4_6 : decode cJ5_newCapacity_0f7a4 6 = .ok (.iload_n 1, 1) := by decide +kernel
theorem dJ5_newCapacity_0f7a4_7 : decode cJ5_newCapacity_0f7a4 7 = .ok (.aload_n 0, 1) := by decide +kernel
theorem dJ5_newCapacity_0f7a4_8 : decode cJ5_newCapacity_0f7a4 8 = .ok (.getfield 22, 3) := by decide +kernel
theorem dJ5_newCapacity_0f7a4_11 : decode cJ5_newCapacity_0f7a4 11 = .ok (.ishl, 1) := by decide +kernel
theorem dJ5_newCapacity_0f7a4_12 : decode cJ5_newCapacity_0f7a4 12 = .ok (.istore_n 3, 1) := by decide +kernel
theorem dJ5_newCapacity_0f7a4_13 : decode cJ5_newCapacity_0f7a4 13 = .ok (.iload_n 3, 1) := by decide +kernel
theorem dJ5_newCapacity_0f7a4_14 : decode cJ5_newCapacity_0f7a4 14 = .ok (.iload_n 2, 1) := by decide +kernel
theorem dJ5_newCapacity_0f7a4_15 : decode cJ5_newCapacity_0f7a4 15 = .ok (.isub, 1) := by decide +kernel
theorem dJ5_newCapacity_0f7a4_16 : decode cJ5_newCapacity_0f7a4 16 = .ok (.istore 4, 2) := by decide +kernel
theorem dJ5_newCapacity_0f7a4_18 : decode cJ5_newCapacity_0f7a4 18 = .ok (.iload_n 2, 1) := by decide +kernel
theorem dJ5_newCapacity_0f7a4_19 : decode cJ5_newCapacity_0f7a4 19 = .ok (.iload 4, 2) := by decide +kernel
theorem dJ5_newCapacity_0f7a4_21 : decode cJ5_newCapacity_0f7a4 21 = .ok (.iload_n 2, 1) := by decide +kernel
theorem dJ5_newCapacity_0f7a4_22 : decode cJ5_newCapacity_0f7a4 22 = .ok (.iconst 2, 1) := by decide +kernel
theorem dJ5_newCapacity_0f7a4_23 : decode cJ5_newCapacity_0f7a4 23 = .ok (.aload_n 0, 1) := by decide +kernel
theorem dJ5_newCapacity_0f7a4_24 : decode cJ5_newCapacity_0f7a4 24 = .ok (.getfield 22, 3) := by decide +kernel
theorem dJ5_newCapacity_0f7a4_27 : decode cJ5_newCapacity_0f7a4 27 = .ok (.ishl, 1) := by decide +kernel
theorem dJ5_newCapacity_0f7a4_28 : decode cJ5_newCapacity_0f7a4 28 = .ok (.iadd, 1) := by decide +kernel
theorem dJ5_newCapacity_0f7a4_29 : decode cJ5_newCapacity_0f7a4 29 = .ok (.invokestatic 114, 3) := by decide +kernel
theorem dJ5_newCapacity_0f7a4_32 : decode cJ5_newCapacity_0f7a4 32 = .ok (.istore 5, 2) := by decide +kernel
theorem dJ5_newCapacity_0f7a4_34 : decode cJ5_newCapacity_0f7a4 34 = .ok (.iload 5, 2) := by decide +kernel
theorem dJ5_newCapacity_0f7a4_36 : decode cJ5_newCapacity_0f7a4 36 = .ok (.ldc 39, 2) := by decide +kernel
theorem dJ5_newCapacity_0f7a4_38 : decode cJ5_newCapacity_0f7a4 38 = .ok (.if_icmp .ne 13, 3) := by decide +kernel
theorem dJ5_newCapacity_0f7a4_51 : decode cJ5_newCapacity_0f7a4 51 = .ok (.iload 5, 2) := by decide +kernel
theorem dJ5_newCapacity_0f7a4_53 : decode cJ5_newCapacity_0f7a4 53 = .ok (.aload_n 0, 1) := by decide +kernel
theorem dJ5_newCapacity_0f7a4_54 : decode cJ5_newCapacity_0f7a4 54 = .ok (.getfield 22, 3) := by decide +kernel
theorem dJ5_newCapacity_0f7a4_57 : decode cJ5_newCapacity_0f7a4 57 = .ok (.ishr, 1) := by decide +kernel
theorem dJ5_newCapacity_0f7a4_58 : decode cJ5_newCapacity_0f7a4 58 = .ok (.ireturn, 1) := by decide +kernel
def J5_newCapacity_0f7a4 (this : Nat) (a1 : Int32) : MM Int32 :=
  mb (gR 1 (some this) 0) fun v1 =>
  mb (aN v1) fun v2 =>
  mb (gI 1 (some this) 1) fun v3 =>
  mb (gI 1 (some this) 1) fun v4 =>
  mb (J8_newLength_cabcc v2 ((a1 <<< (v3 &&& 31)) - v2) (v2 + ((2 : Int32) <<< (v4 &&& 31)))) fun v5 =>
  if v5 = (2147483647 : Int32) then (mf) else (mb (gI 1 (some this) 1) fun v6 =>
  mr (v5 >>> (v6 &&& 31)))
set_option maxRecDepth 100000 in
set_option maxHeartbeats 4000000 in
theorem s_J5_newCapacity_0f7a4 (G : GG) (this : Nat) (a1 : Int32) : Sn G yJ5_newCapacity_0f7a4 cJ5_newCapacity_0f7a4 6 (some FieldType.int) 2 37 (fun v : Int32 => some (.int v)) (J5_newCapacity_0f7a4 this a1) 0 [some (va_rf (some this)), some (.int a1), none, none, none, none] [] := by
  unfold J5_newCapacity_0f7a4
  refine sn_aload_n (v := (some this)) (pc' := 1) dJ5_newCapacity_0f7a4_0 rfl rfl rfl ?_
  refine sn_gR (k := 0) (pc' := 4) ci_1 rfl (Or.inl tw251) dJ5_newCapacity_0f7a4_1 rfl (fun v1 => ?_)
  refine sn_aN (pc' := 5) dJ5_newCapacity_0f7a4_4 rfl (fun v2 => ?_)
  refine sn_istore_n (v := v2) (L' := [some (va_rf (some this)), some (.int a1), some (.int v2), none, none, none]) (pc' := 6) dJ5_newCapacity_0f7a4_5 rfl rfl rfl rfl ?_
  refine sn_iload_n (v := a1) (pc' := 7) dJ5_newCapacity_0f7a4_6 rfl rfl rfl ?_
  refine sn_aload_n (v := (some this)) (pc' := 8) dJ5_newCapacity_0f7a4_7 rfl rfl rfl ?_
  refine sn_gI (k := 1) (pc' := 11) ci_1 rfl (Or.inl tw252) dJ5_newCapacity_0f7a4_8 rfl (fun v3 => ?_)
  refine sn_ishl (pc' := 12) dJ5_newCapacity_0f7a4_11 rfl ?_
  refine sn_istore_n (v := (a1 <<< (v3 &&& 31))) (L' := [some (va_rf (some this)), some (.int a1), some (.int v2), some (.int (a1 <<< (v3 &&& 31))), none, none]) (pc' := 13) dJ5_newCapacity_0f7a4_12 rfl rfl rfl rfl ?_
  refine sn_iload_n (v := (a1 <<< (v3 &&& 31))) (pc' := 14) dJ5_newCapacity_0f7a4_13 rfl rfl rfl ?_
  refine sn_iload_n (v := v2) (pc' := 15) dJ5_newCapacity_0f7a4_14 rfl rfl rfl ?_
  refine sn_isub (pc' := 16) dJ5_newCapacity_0f7a4_15 rfl ?_
  refine sn_istore (v := ((a1 <<< (v3 &&& 31)) - v2)) (L' := [some (va_rf (some this)), some (.int a1), some (.int v2), some (.int (a1 <<< (v3 &&& 31))), some (.int ((a1 <<< (v3 &&& 31)) - v2)), none]) (pc' := 18) dJ5_newCapacity_0f7a4_16 rfl rfl rfl ?_
  refine sn_iload_n (v := v2) (pc' := 19) dJ5_newCapacity_0f7a4_18 rfl rfl rfl ?_
  refine sn_iload (v := ((a1 <<< (v3 &&& 31)) - v2)) (pc' := 21) dJ5_newCapacity_0f7a4_19 rfl rfl ?_
  refine sn_iload_n (v := v2) (pc' := 22) dJ5_newCapacity_0f7a4_21 rfl rfl rfl ?_
  refine sn_iconst (v := (2 : Int32)) (pc' := 23) dJ5_newCapacity_0f7a4_22 rfl (by decide) ?_
  refine sn_aload_n (v := (some this)) (pc' := 24) dJ5_newCapacity_0f7a4_23 rfl rfl rfl ?_
  refine sn_gI (k := 1) (pc' := 27) ci_1 rfl (Or.inl tw252) dJ5_newCapacity_0f7a4_24 rfl (fun v4 => ?_)
  refine sn_ishl (pc' := 28) dJ5_newCapacity_0f7a4_27 rfl ?_
  refine sn_iadd (pc' := 29) dJ5_newCapacity_0f7a4_28 rfl ?_
  refine sn_cS (st := []) (As := [.int v2, .int ((a1 <<< (v3 &&& 31)) - v2), .int (v2 + ((2 : Int32) <<< (v4 &&& 31)))]) (st2 := (fun v => .int v :: [])) (pc' := 32) (c_J8_newLength_cabcc G v2 ((a1 <<< (v3 &&& 31)) - v2) (v2 + ((2 : Int32) <<< (v4 &&& 31)))) cw_J8_newLength_cabcc rfl rfl tw603 tw604 rfl rfl cat_nil rfl (fun _ => rfl) dJ5_newCapacity_0f7a4_29 rfl (fun v5 => ?_)
  refine sn_istore (v := v5) (L' := [some (va_rf (some this)), some (.int a1), some (.int v2), some (.int (a1 <<< (v3 &&& 31))), some (.int ((a1 <<< (v3 &&& 31)) - v2)), some (.int v5)]) (pc' := 34) dJ5_newCapacity_0f7a4_32 rfl rfl rfl ?_
  refine sn_iload (v := v5) (pc' := 36) dJ5_newCapacity_0f7a4_34 rfl rfl ?_
  refine sn_ldc (v := (2147483647 : Int32)) (pc' := 38) dJ5_newCapacity_0f7a4_36 rfl tw611 ?_
  refine sn_ic_ne (pt := 51) (pf := 41) dJ5_newCapacity_0f7a4_38 rfl rfl ?_ ?_
  · exact sn_mf
  · refine sn_iload (v := v5) (pc' := 53) dJ5_newCapacity_0f7a4_51 rfl rfl ?_
    refine sn_aload_n (v := (some this)) (pc' := 54) dJ5_newCapacity_0f7a4_53 rfl rfl rfl ?_
    refine sn_gI (k := 1) (pc' := 57) ci_1 rfl (Or.inl tw252) dJ5_newCapacity_0f7a4_54 rfl (fun v6 => ?_)
    refine sn_ishr (pc' := 58) dJ5_newCapacity_0f7a4_57 rfl ?_
    exact sn_iret dJ5_newCapacity_0f7a4_58 rfl rfl
theorem c_J5_newCapacity_0f7a4 (G : GG) (this : Nat) (a1 : Int32) : Cal G yJ5_newCapacity_0f7a4 cJ5_newCapacity_0f7a4 6 (some FieldType.int) 2 37 (fun v : Int32 => some (.int v)) (J5_newCapacity_0f7a4 this a1) [.ref this, .int a1] :=
  Cal.of (by decide) (cat_t (cat_i cat_nil)) rfl (sn_weak (le_s (le_s (le_z (le_z (le_z (le_z le_e)))))) (s_J5_newCapacity_0f7a4 G this a1))
theorem cw_J5_newCapacity_0f7a4 : CW yJ5_newCapacity_0f7a4 cJ5_newCapacity_0f7a4 6 (some FieldType.int) 1 := ⟨tw602, tw11, by decide, by decide +kernel⟩
/-! J7_copyOf_9075b -/
theorem dJ7_copyOf_9075b_0 : decode cJ7_copyOf_9075b 0 = .ok (.iload_n 1, 1) := by decide +kernel
theorem dJ7_copyOf_9075b_1 : decode cJ7_copyOf_9075b 1 = .ok (.aload_n 0, 1) := by decide +kernel
theorem dJ7_copyOf_9075b_2 : decode cJ7_copyOf_9075b 2 = .ok (.arraylength, 1) := by decide +kernel
theorem dJ7_copyOf_9075b_3 : decode cJ7_copyOf_9075b 3 = .ok (.if_icmp .ne 11, 3) := by decide +kernel
theorem dJ7_copyOf_9075b_14 : decode cJ7_copyOf_9075b 14 = .ok (.iload_n 1, 1) := by decide +kernel
theorem dJ7_copyOf_9075b_15 : decode cJ7_copyOf_9075b 15 = .ok (.newarray .byte, 2) := by decide +kernel
theorem dJ7_copyOf_9075b_17 : decode cJ7_copyOf_9075b 17 = .ok (.astore_n 2, 1) := by decide +kernel
theorem dJ7_copyOf_9075b_18 : decode cJ7_copyOf_9075b 18 = .ok (.aload_n 0, 1) := by decide +kernel
theorem dJ7_copyOf_9075b_19 : decode cJ7_copyOf_9075b 19 = .ok (.iconst 0, 1) := by decide +kernel
theorem dJ7_copyOf_9075b_20 : decode cJ7_copyOf_9075b 20 = .ok (.aload_n 2, 1) := by decide +kernel
theorem dJ7_copyOf_9075b_21 : decode cJ7_copyOf_9075b 21 = .ok (.iconst 0, 1) := by decide +kernel
theorem dJ7_copyOf_9075b_22 : decode cJ7_copyOf_9075b 22 = .ok (.aload_n 0, 1) := by decide +kernel
theorem dJ7_copyOf_9075b_23 : decode cJ7_copyOf_9075b 23 = .ok (.arraylength, 1) := by decide +kernel
theorem dJ7_copyOf_9075b_24 : decode cJ7_copyOf_9075b 24 = .ok (.iload_n 1, 1) := by decide +kernel
theorem dJ7_copyOf_9075b_25 : decode cJ7_copyOf_9075b 25 = .ok (.invokestatic 304, 3) := by decide +kernel
theorem dJ7_copyOf_9075b_28 : decode cJ7_copyOf_9075b 28 = .ok (.invokestatic 150, 3) := by decide +kernel
theorem dJ7_copyOf_9075b_31 : decode cJ7_copyOf_9075b 31 = .ok (.aload_n 2, 1) := by decide +kernel
theorem dJ7_copyOf_9075b_32 : decode cJ7_copyOf_9075b 32 = .ok (.areturn, 1) := by decide +kernel
def J7_copyOf_9075b (a0 : Option Nat) (a1 : Int32) : MM (Option Nat) :=
  mb (aN a0) fun v1 =>
  if a1 = v1 then (mf) else (mb (nA 1 a1) fun v2 =>
  mb (aN a0) fun v3 =>
  mb (cpy a0 (0 : Int32) v2 (0 : Int32) (if a1 < v3 then a1 else v3)) fun _ =>
  mr v2)
set_option maxRecDepth 100000 in
set_option maxHeartbeats 4000000 in
theorem s_J7_copyOf_9075b (G : GG) (a0 : Option Nat) (a1 : Int32) : Sn G yJ7_copyOf_9075b cJ7_copyOf_9075b 3 (some (FieldType.array FieldType.byte)) 1 18 (fun v : Option Nat => some (va_rf v)) (J7_copyOf_9075b a0 a1) 0 [some (va_rf a0), some (.int a1), none] [] := by
  unfold J7_copyOf_9075b
  refine sn_iload_n (v := a1) (pc' := 1) dJ7_copyOf_9075b_0 rfl rfl rfl ?_
  refine sn_aload_n (v := a0) (pc' := 2) dJ7_copyOf_9075b_1 rfl rfl rfl ?_
  refine sn_aN (pc' := 3) dJ7_copyOf_9075b_2 rfl (fun v1 => ?_)
  refine sn_ic_ne (pt := 14) (pf := 6) dJ7_copyOf_9075b_3 rfl rfl ?_ ?_
  · exact sn_mf
  · refine sn_iload_n (v := a1) (pc' := 15) dJ7_copyOf_9075b_14 rfl rfl rfl ?_
    refine sn_nA (t := 1) (pc' := 17) rfl rfl tw63 dJ7_copyOf_9075b_15 rfl (fun v2 => ?_)
    refine sn_astore_n (v := v2) (L' := [some (va_rf a0), some (.int a1), some (va_rf v2)]) (pc' := 18) dJ7_copyOf_9075b_17 rfl rfl rfl rfl ?_
    refine sn_aload_n (v := a0) (pc' := 19) dJ7_copyOf_9075b_18 rfl rfl rfl ?_
    refine sn_iconst (v := (0 : Int32)) (pc' := 20) dJ7_copyOf_9075b_19 rfl (by decide) ?_
    refine sn_aload_n (v := v2) (pc' := 21) dJ7_copyOf_9075b_20 rfl rfl rfl ?_
    refine sn_iconst (v := (0 : Int32)) (pc' := 22) dJ7_copyOf_9075b_21 rfl (by decide) ?_
    refine sn_aload_n (v := a0) (pc' := 23) dJ7_copyOf_9075b_22 rfl rfl rfl ?_
    refine sn_aN (pc' := 24) dJ7_copyOf_9075b_23 rfl (fun v3 => ?_)
    refine sn_iload_n (v := a1) (pc' := 25) dJ7_copyOf_9075b_24 rfl rfl rfl ?_
    refine sn_min (pc' := 28) rfl tw622 tw423 tw4 tw424 (cat_i (cat_q (cat_i (cat_q cat_nil)))) rfl dJ7_copyOf_9075b_25 rfl ?_
    refine sn_cpy (st := []) (pc' := 31) tw623 tw625 tw624 tw23 rfl cat_nil (by decide) dJ7_copyOf_9075b_28 rfl (fun _ => ?_)
    refine sn_aload_n (v := v2) (pc' := 32) dJ7_copyOf_9075b_31 rfl rfl rfl ?_
    exact sn_aret dJ7_copyOf_9075b_32 rfl (Or.inr ⟨_, rfl⟩)
theorem c_J7_copyOf_9075b (G : GG) (a0 : Option Nat) (a1 : Int32) : Cal G yJ7_copyOf_9075b cJ7_copyOf_9075b 3 (some (FieldType.array FieldType.byte)) 1 18 (fun v : Option Nat => some (va_rf v)) (J7_copyOf_9075b a0 a1) [va_rf a0, .int a1] :=
  Cal.of (by decide) (cat_q (cat_i cat_nil)) rfl (sn_weak (le_s (le_s (le_z le_e))) (s_J7_copyOf_9075b G a0 a1))
theorem cw_J7_copyOf_9075b : CW yJ7_copyOf_9075b cJ7_copyOf_9075b 3 (some (FieldType.array FieldType.byte)) 2 := ⟨tw614, tw20, by decide, by decide +kernel⟩
/-! J5_ensureCapacityInternal_d00df -/
theorem dJ5_ensureCapacityInternal_d00df_0 : decode cJ5_ensureCapacityInternal_d00df 0 = .ok (.aload_n 0, 1) := by decide +kernel
theorem dJ5_ensureCapacityInternal_d00df_1 : decode cJ5_ensureCapacityInternal_d00df 1 = .ok (.getfield 15, 3) := by decide +kernel
theorem dJ5_ensureCapacityInternal_d00df_4 : decode cJ5_ensureCapacityInternal_d00df 4 = .ok (.arraylength, 1) := by decide +kernel
theorem dJ5_ensureCapacityInternal_d00df_5 : decode cJ5_ensureCapacityInternal_d00df 5 = .ok (.aload_n 0, 1) := by decide +kernel
theorem dJ5_ensureCapacityInternal_d00df_6 : decode cJ5_ensureCapacityInternal_d00df 6 = .ok (.getfield 22, 3) := by decide +kernel
theorem dJ5_ensureCapacityInternal_d00df_9 : decode cJ5_ensureCapacityInternal_d00df 9 = .ok (.ishr, 1) := by decide +kernel
theorem dJ5_ensureCapacityInternal_d00df_10 : decode cJ5_ensureCapacityInternal_d00df 10 = .ok (.istore_n 2, 1) := by decide +kernel
theorem dJ5_ensureCapacityInternal_d00df_11 : decode cJ5_ensureCapacityInternal_d00df 11 = .ok (.iload_n 1, 1) := by decide +kernel
theorem dJ5_ensureCapacityInternal_d00df_12 : decode cJ5_ensureCapacityInternal_d00df 12 = .ok (.iload_n 2, 1) := by decide +kernel
theorem dJ5_ensureCapacityInternal_d00df_13 : decode cJ5_ensureCapacityInternal_d00df 13 = .ok (.isub, 1) := by decide +kernel
theorem dJ5_ensureCapacityInternal_d00df_14 : decode cJ5_ensureCapacityInternal_d00df 14 = .ok (.ifCond .le 24, 3) := by decide +kernel
theorem dJ5_ensureCapacityInternal_d00df_17 : decode cJ5_ensureCapacityInternal_d00df 17 = .ok (.aload_n 0, 1) := by decide +kernel
theorem dJ5_ensureCapacityInternal_d00df_18 : decode cJ5_ensureCapacityInternal_d00df 18 = .ok (.aload_n 0, 1) := by decide +kernel
theorem dJ5_ensureCapacityInternal_d00df_19 : decode cJ5_ensureCapacityInternal_d00df 19 = .ok (.getfield 15, 3) := by decide +kernel
theorem dJ5_ensureCapacityInternal_d00df_22 : decode cJ5_ensureCapacityInternal_d00df 22 = .ok (.aload_n 0, 1) := by decide +kernel
theorem dJ5_ensureCapacityInternal_d00df_23 : decode cJ5_ensureCapacityInternal_d00df 23 = .ok (.iload_n 1, 1) := by decide +kernel
theorem dJ5_ensureCapacityInternal_d00df_24 : decode cJ5_ensureCapacityInternal_d00df 24 = .ok (.invokevirtual 104, 3) := by decide +kernel
theorem dJ5_ensureCapacityInternal_d00df_27 : decode cJ5_ensureCapacityInternal_d00df 27 = .ok (.aload_n 0, 1) := by decide +kernel
theorem dJ5_ensureCapacityInternal_d00df_28 : decode cJ5_ensureCapacityInternal_d00df 28 = .ok (.getfield 22, 3) := by decide +kernel
theorem dJ5_ensureCapacityInternal_d00df_31 : decode cJ5_ensureCapacityInternal_d00df 31 = .ok (.ishl, 1) := by decide +kernel
theorem dJ5_ensureCapacityInternal_d00df_32 : decode cJ5_ensureCapacityInternal_d00df 32 = .ok (.invokestatic 108, 3) := by decide +kernel
theorem dJ5_ensureCapacityInternal_d00df_35 : decode cJ5_ensureCapacityInternal_d00df 35 = .ok (.putfield 15, 3) := by decide +kernel
theorem dJ5_ensureCapacityInternal_d00df_38 : decode cJ5_ensureCapacityInternal_d00df 38 = .ok (.return_, 1) := by decide +kernel
def J5_ensureCapacityInternal_d00df (this : Nat) (a1 : Int32) : MM Unit :=
  mb (gR 1 (some this) 0) fun v1 =>
  mb (aN v1) fun v2 =>
  mb (gI 1 (some this) 1) fun v3 =>
  if (a1 - (v2 >>> (v3 &&& 31))) ≤ 0 then (mr ()) else (mb (gR 1 (some this) 0) fun v4 =>
  mb (wc 1 (some this) fun t => J5_newCapacity_0f7a4 t a1) fun v5 =>
  mb (gI 1 (some this) 1) fun v6 =>
  mb (J7_copyOf_9075b v4 (v5 <<< (v6 &&& 31))) fun v7 =>
  mb (pR 1 (some this) 0 v7) fun _ =>
  mr ())
set_option maxRecDepth 100000 in
set_option maxHeartbeats 4000000 in
theorem s_J5_ensureCapacityInternal_d00df (G : GG) (this : Nat) (a1 : Int32) : Sn G yJ5_ensureCapacityInternal_d00df cJ5_ensureCapacityInternal_d00df 3 none 3 62 (fun _ : Unit => none) (J5_ensureCapacityInternal_d00df this a1) 0 [some (va_rf (some this)), some (.int a1), none] [] := by
  unfold J5_ensureCapacityInternal_d00df
  refine sn_aload_n (v := (some this)) (pc' := 1) dJ5_ensureCapacityInternal_d00df_0 rfl rfl rfl ?_
  refine sn_gR (k := 0) (pc' := 4) ci_1 rfl (Or.inl tw251) dJ5_ensureCapacityInternal_d00df_1 rfl (fun v1 => ?_)
  refine sn_aN (pc' := 5) dJ5_ensureCapacityInternal_d00df_4 rfl (fun v2 => ?_)
  refine sn_aload_n (v := (some this)) (pc' := 6) dJ5_ensureCapacityInternal_d00df_5 rfl rfl rfl ?_
  refine sn_gI (k := 1) (pc' := 9) ci_1 rfl (Or.inl tw252) dJ5_ensureCapacityInternal_d00df_6 rfl (fun v3 => ?_)
  refine sn_ishr (pc' := 10) dJ5_ensureCapacityInternal_d00df_9 rfl ?_
  refine sn_istore_n (v := (v2 >>> (v3 &&& 31))) (L' := [some (va_rf (some this)), some (.int a1), some (.int (v2 >>> (v3 &&& 31)))]) (pc' := 11) dJ5_ensureCapacityInternal_d00df_10 rfl rfl rfl rfl ?_
  refine sn_iload_n (v := a1) (pc' := 12) dJ5_ensureCapacityInternal_d00df_11 rfl rfl rfl ?_
  refine sn_iload_n (v := (v2 >>> (v3 &&& 31))) (pc' := 13) dJ5_ensureCapacityInternal_d00df_12 rfl rfl rfl ?_
  refine sn_isub (pc' := 14) dJ5_ensureCapacityInternal_d00df_13 rfl ?_
  refine sn_if_le (pt := 38) (pf := 17) dJ5_ensureCapacityInternal_d00df_14 rfl rfl ?_ ?_
  · exact sn_vret dJ5_ensureCapacityInternal_d00df_38 rfl
  · refine sn_aload_n (v := (some this)) (pc' := 18) dJ5_ensureCapacityInternal_d00df_17 rfl rfl rfl ?_
    refine sn_aload_n (v := (some this)) (pc' := 19) dJ5_ensureCapacityInternal_d00df_18 rfl rfl rfl ?_
    refine sn_gR (k := 0) (pc' := 22) ci_1 rfl (Or.inl tw251) dJ5_ensureCapacityInternal_d00df_19 rfl (fun v4 => ?_)
    refine sn_aload_n (v := (some this)) (pc' := 23) dJ5_ensureCapacityInternal_d00df_22 rfl rfl rfl ?_
    refine sn_iload_n (v := a1) (pc' := 24) dJ5_ensureCapacityInternal_d00df_23 rfl rfl rfl ?_
    refine sn_cV (r := (some this)) (st := [va_rf v4, va_rf (some this)]) (As := [.int a1]) (st2 := (fun v => .int v :: [va_rf v4, va_rf (some this)])) (pc' := 27) ci_1 (fun t => c_J5_newCapacity_0f7a4 G t a1) cw_J5_newCapacity_0f7a4 rfl rfl tw599 (gt_as 1 rfl (by decide +kernel)) tw601 rfl rfl (cat_q (cat_q cat_nil)) rfl (fun _ => rfl) dJ5_ensureCapacityInternal_d00df_24 rfl (fun v5 => ?_)
    refine sn_aload_n (v := (some this)) (pc' := 28) dJ5_ensureCapacityInternal_d00df_27 rfl rfl rfl ?_
    refine sn_gI (k := 1) (pc' := 31) ci_1 rfl (Or.inl tw252) dJ5_ensureCapacityInternal_d00df_28 rfl (fun v6 => ?_)
    refine sn_ishl (pc' := 32) dJ5_ensureCapacityInternal_d00df_31 rfl ?_
    refine sn_cS (st := [va_rf (some this)]) (As := [va_rf v4, .int (v5 <<< (v6 &&& 31))]) (st2 := (fun v => va_rf v :: [va_rf (some this)])) (pc' := 35) (c_J7_copyOf_9075b G v4 (v5 <<< (v6 &&& 31))) cw_J7_copyOf_9075b rfl rfl tw612 tw613 rfl rfl (cat_q cat_nil) rfl (fun _ => rfl) dJ5_ensureCapacityInternal_d00df_32 rfl (fun v7 => ?_)
    refine sn_pR (k := 0) (pc' := 38) ci_1 rfl (Or.inl tw251) (Or.inl rfl) (Or.inr ⟨_, rfl⟩) dJ5_ensureCapacityInternal_d00df_35 rfl (fun _ => ?_)
    exact sn_vret dJ5_ensureCapacityInternal_d00df_38 rfl
theorem c_J5_ensureCapacityInternal_d00df (G : GG) (this : Nat) (a1 : Int32) : Cal G yJ5_ensureCapacityInternal_d00df cJ5_ensureCapacityInternal_d00df 3 none 3 62 (fun _ : Unit => none) (J5_ensureCapacityInternal_d00df this a1) [.ref this, .int a1] :=
  Cal.of (by decide) (cat_t (cat_i cat_nil)) rfl (sn_weak (le_s (le_s (le_z le_e))) (s_J5_ensureCapacityInternal_d00df G this a1))
theorem cw_J5_ensureCapacityInternal_d00df : CW yJ5_ensureCapacityInternal_d00df cJ5_ensureCapacityInternal_d00df 3 none 1 := ⟨tw598, tw11, by decide, by decide +kernel⟩
/-! J5_setLength_d00df -/
theorem dJ5_setLength_d00df_0 : decode cJ5_setLength_d00df 0 = .ok (.iload_n 1, 1) := by decide +kernel
theorem dJ5_setLength_d00df_1 : decode cJ5_setLength_d00df 1 = .ok (.ifCond .ge 12, 3) := by decide +kernel
theorem dJ5_setLength_d00df_13 : decode cJ5_setLength_d00df 13 = .ok (.aload_n 0, 1) := by decide +kernel
theorem dJ5_setLength_d00df_14 : decode cJ5_setLength_d00df 14 = .ok (.iload_n 1, 1) := by decide +kernel
theorem dJ5_setLength_d00df_15 : decode cJ5_setLength_d00df 15 = .ok (.invokevirtual 100, 3) := by decide +kernel
theorem dJ5_setLength_d00df_18 : decode cJ5_setLength_d00df 18 = .ok (.aload_n 0, 1) := by decide +kernel
theorem dJ5_setLength_d00df_19 : decode cJ5_setLength_d00df 19 = .ok (.getfield 79, 3) := by decide +kernel
theorem dJ5_setLength_d00df_22 : decode cJ5_setLength_d00df 22 = .ok (.iload_n 1, 1) := by decide +kernel
theorem dJ5_setLength_d00df_23 : decode cJ5_setLength_d00df 23 = .ok (.if_icmp .ge 40, 3) := by decide +kernel
theorem dJ5_setLength_d00df_63 : decode cJ5_setLength_d00df 63 = .ok (.aload_n 0, 1) := by decide +kernel
theorem dJ5_setLength_d00df_64 : decode cJ5_setLength_d00df 64 = .ok (.getfield 79, 3) := by decide +kernel
theorem dJ5_setLength_d00df_67 : decode cJ5_setLength_d00df 67 = .ok (.iload_n 1, 1) := by decide +kernel
theorem dJ5_setLength_d00df_68 : decode cJ5_setLength_d00df 68 = .ok (.if_icmp .le 8, 3) := by decide +kernel
theorem dJ5_setLength_d00df_71 : decode cJ5_setLength_d00df 71 = .ok (.aload_n 0, 1) := by decide +kernel
theorem dJ5_setLength_d00df_72 : decode cJ5_setLength_d00df 72 = .ok (.iconst 1, 1) := by decide +kernel
theorem dJ5_setLength_d00df_73 : decode cJ5_setLength_d00df 73 = .ok (.putfield 73, 3) := by decide +kernel
theorem dJ5_setLength_d00df_76 : decode cJ5_setLength_d00df 76 = .ok (.aload_n 0, 1) := by decide +kernel
theorem dJ5_setLength_d00df_77 : decode cJ5_setLength_d00df 77 = .ok (.iload_n 1, 1) := by decide +kernel
theorem dJ5_setLength_d00df_78 : decode cJ5_setLength_d00df 78 = .ok (.putfield 79, 3) := by decide +kernel
theorem dJ5_setLength_d00df_81 : decode cJ5_setLength_d00df 81 = .ok (.return_, 1) := by decide +kernel
def J5_setLength_d00df (this : Nat) (a1 : Int32) : MM Unit :=
  if 0 ≤ a1 then (mb (wc 1 (some this) fun t => J5_ensureCapacityInternal_d00df t a1) fun _ =>
  mb (gI 1 (some this) 3) fun v1 =>
  if a1 ≤ v1 then (mb (gI 1 (some this) 3) fun v2 =>
  if v2 ≤ a1 then (mb (pI 1 (some this) 3 a1) fun _ =>
  mr ()) else (mb (pZ 1 (some this) 2 (1 : Int32)) fun _ =>
  mb (pI 1 (some this) 3 a1) fun _ =>
  mr ())) else (mf)) else (mf)
set_option maxRecDepth 100000 in
set_option maxHeartbeats 4000000 in
theorem s_J5_setLength_d00df (G : GG) (this : Nat) (a1 : Int32) : Sn G yJ5_setLength_d00df cJ5_setLength_d00df 2 none 4 84 (fun _ : Unit => none) (J5_setLength_d00df this a1) 0 [some (va_rf (some this)), some (.int a1)] [] := by
  unfold J5_setLength_d00df
  refine sn_iload_n (v := a1) (pc' := 1) dJ5_setLength_d00df_0 rfl rfl rfl ?_
  refine sn_if_ge (pt := 13) (pf := 4) dJ5_setLength_d00df_1 rfl rfl ?_ ?_
  · refine sn_aload_n (v := (some this)) (pc' := 14) dJ5_setLength_d00df_13 rfl rfl rfl ?_
    refine sn_iload_n (v := a1) (pc' := 15) dJ5_setLength_d00df_14 rfl rfl rfl ?_
    refine sn_cV (r := (some this)) (st := []) (As := [.int a1]) (st2 := (fun _ => [])) (pc' := 18) ci_1 (fun t => c_J5_ensureCapacityInternal_d00df G t a1) cw_J5_ensureCapacityInternal_d00df rfl rfl tw595 (gt_as 0 rfl (by decide +kernel)) tw597 rfl rfl cat_nil rfl (fun _ => rfl) dJ5_setLength_d00df_15 rfl (fun _ => ?_)
    refine sn_aload_n (v := (some this)) (pc' := 19) dJ5_setLength_d00df_18 rfl rfl rfl ?_
    refine sn_gI (k := 3) (pc' := 22) ci_1 rfl (Or.inl tw255) dJ5_setLength_d00df_19 rfl (fun v1 => ?_)
    refine sn_iload_n (v := a1) (pc' := 23) dJ5_setLength_d00df_22 rfl rfl rfl ?_
    refine sn_ic_ge (pt := 63) (pf := 26) dJ5_setLength_d00df_23 rfl rfl ?_ ?_
    · refine sn_aload_n (v := (some this)) (pc' := 64) dJ5_setLength_d00df_63 rfl rfl rfl ?_
      refine sn_gI (k := 3) (pc' := 67) ci_1 rfl (Or.inl tw255) dJ5_setLength_d00df_64 rfl (fun v2 => ?_)
      refine sn_iload_n (v := a1) (pc' := 68) dJ5_setLength_d00df_67 rfl rfl rfl ?_
      refine sn_ic_le (pt := 76) (pf := 71) dJ5_setLength_d00df_68 rfl rfl ?_ ?_
      · refine sn_aload_n (v := (some this)) (pc' := 77) dJ5_setLength_d00df_76 rfl rfl rfl ?_
        refine sn_iload_n (v := a1) (pc' := 78) dJ5_setLength_d00df_77 rfl rfl rfl ?_
        refine sn_pI (k := 3) (pc' := 81) ci_1 rfl (Or.inl tw255) (Or.inl rfl) rfl dJ5_setLength_d00df_78 rfl (fun _ => ?_)
        exact sn_vret dJ5_setLength_d00df_81 rfl
      · refine sn_aload_n (v := (some this)) (pc' := 72) dJ5_setLength_d00df_71 rfl rfl rfl ?_
        refine sn_iconst (v := (1 : Int32)) (pc' := 73) dJ5_setLength_d00df_72 rfl (by decide) ?_
        refine sn_pZ (k := 2) (pc' := 76) ci_1 rfl (Or.inl tw253) (Or.inl rfl) rfl dJ5_setLength_d00df_73 rfl (fun _ => ?_)
        refine sn_aload_n (v := (some this)) (pc' := 77) dJ5_setLength_d00df_76 rfl rfl rfl ?_
        refine sn_iload_n (v := a1) (pc' := 78) dJ5_setLength_d00df_77 rfl rfl rfl ?_
        refine sn_pI (k := 3) (pc' := 81) ci_1 rfl (Or.inl tw255) (Or.inl rfl) rfl dJ5_setLength_d00df_78 rfl (fun _ => ?_)
        exact sn_vret dJ5_setLength_d00df_81 rfl
    · exact sn_mf
  · exact sn_mf
theorem c_J5_setLength_d00df (G : GG) (this : Nat) (a1 : Int32) : Cal G yJ5_setLength_d00df cJ5_setLength_d00df 2 none 4 84 (fun _ : Unit => none) (J5_setLength_d00df this a1) [.ref this, .int a1] :=
  Cal.of (by decide) (cat_t (cat_i cat_nil)) rfl (sn_weak (le_s (le_s le_e)) (s_J5_setLength_d00df G this a1))
theorem cw_J5_setLength_d00df : CW yJ5_setLength_d00df cJ5_setLength_d00df 2 none 1 := ⟨tw594, tw11, by decide, by decide +kernel⟩
/-! J4_setLength_d00df -/
theorem dJ4_setLength_d00df_0 : decode cJ4_setLength_d00df 0 = .ok (.aload_n 0, 1) := by decide +kernel
theorem dJ4_setLength_d00df_1 : decode cJ4_setLength_d00df 1 = .ok (.iload_n 1, 1) := by decide +kernel
theorem dJ4_setLength_d00df_2 : decode cJ4_setLength_d00df 2 = .ok (.invokespecial 333, 3) := by decide +kernel
theorem dJ4_setLength_d00df_5 : decode cJ4_setLength_d00df 5 = .ok (.return_, 1) := by decide +kernel
def J4_setLength_d00df (this : Nat) (a1 : Int32) : MM Unit :=
  mb (wc 1 (some this) fun t => J5_setLength_d00df t a1) fun _ =>
  mr ()
set_option maxRecDepth 100000 in
set_option maxHeartbeats 4000000 in
theorem s_J4_setLength_d00df (G : GG) (this : Nat) (a1 : Int32) : Sn G yJ4_setLength_d00df cJ4_setLength_d00df 2 none 5 105 (fun _ : Unit => none) (J4_setLength_d00df this a1) 0 [some (va_rf (some this)), some (.int a1)] [] := by
  unfold J4_setLength_d00df
  refine sn_aload_n (v := (some this)) (pc' := 1) dJ4_setLength_d00df_0 rfl rfl rfl ?_
  refine sn_iload_n (v := a1) (pc' := 2) dJ4_setLength_d00df_1 rfl rfl rfl ?_
  refine sn_cU (r := (some this)) (st := []) (As := [.int a1]) (st2 := (fun _ => [])) (pc' := 5) ci_1 (fun t => c_J5_setLength_d00df G t a1) cw_J5_setLength_d00df rfl rfl tw592 tw1765 tw264 tw593 (by decide) rfl rfl cat_nil rfl (fun _ => rfl) dJ4_setLength_d00df_2 rfl (fun _ => ?_)
  exact sn_vret dJ4_setLength_d00df_5 rfl
theorem c_J4_setLength_d00df (G : GG) (this : Nat) (a1 : Int32) : Cal G yJ4_setLength_d00df cJ4_setLength_d00df 2 none 5 105 (fun _ : Unit => none) (J4_setLength_d00df this a1) [.ref this, .int a1] :=
  Cal.of (by decide) (cat_t (cat_i cat_nil)) rfl (sn_weak (le_s (le_s le_e)) (s_J4_setLength_d00df G this a1))
theorem cw_J4_setLength_d00df : CW yJ4_setLength_d00df cJ4_setLength_d00df 2 none 1 := ⟨tw591, tw12, by decide, by decide +kernel⟩
/-! X6_signOf -/
theorem dX6_signOf_0 : decode cX6_signOf 0 = .ok (.iload_n 1, 1) := by decide +kernel
theorem dX6_signOf_1 : decode cX6_signOf 1 = .ok (.ifCond .lt 20, 3) := by decide +kernel
theorem dX6_signOf_4 : decode cX6_signOf 4 = .ok (.iload_n 1, 1) := by decide +kernel
theorem dX6_signOf_5 : decode cX6_signOf 5 = .ok (.aload_n 0, 1) := by decide +kernel
theorem dX6_signOf_6 : decode cX6_signOf 6 = .ok (.getfield 38, 3) := by decide +kernel
theorem dX6_signOf_9 : decode cX6_signOf 9 = .ok (.if_icmp .ge 12, 3) := by decide +kernel
theorem dX6_signOf_12 : decode cX6_signOf 12 = .ok (.iload_n 1, 1) := by decide +kernel
theorem dX6_signOf_13 : decode cX6_signOf 13 = .ok (.aload_n 0, 1) := by decide +kernel
theorem dX6_signOf_14 : decode cX6_signOf 14 = .ok (.getfield 9, 3) := by decide +kernel
theorem dX6_signOf_17 : decode cX6_signOf 17 = .ok (.arraylength, 1) := by decide +kernel
theorem dX6_signOf_18 : decode cX6_signOf 18 = .ok (.if_icmp .lt 7, 3) := by decide +kernel
theorem dX6_signOf_21 : decode cX6_signOf 21 = .ok (.iconst (-1), 1) := by decide +kernel
theorem dX6_signOf_22 : decode cX6_signOf 22 = .ok (.goto 9, 3) := by decide +kernel
theorem dX6_signOf_25 : decode cX6_signOf 25 = .ok (.aload_n 0, 1) := by decide +kernel
theorem dX6_signOf_26 : decode cX6_signOf 26 = .ok (.getfield 9, 3) := by decide +kernel
theorem dX6_signOf_29 : decode cX6_signOf 29 = .ok (.iload_n 1, 1) := by decide +kernel
theorem dX6_signOf_30 : decode cX6_signOf 30 = .ok (.iaload, 1) := by decide +kernel
theorem dX6_signOf_31 : decode cX6_signOf 31 = .ok (.ireturn, 1) := by decide +kernel
def X6_signOf (this : Nat) (a1 : Int32) : MM Int32 :=
  if a1 < 0 then (mr (-1 : Int32)) else (mb (gI 7 (some this) 4) fun v1 =>
  if v1 ≤ a1 then (mr (-1 : Int32)) else (mb (gR 7 (some this) 0) fun v2 =>
  mb (aN v2) fun v3 =>
  if a1 < v3 then (mb (gR 7 (some this) 0) fun v4 =>
  mb (aI v4 a1) fun v5 =>
  mr v5) else (mr (-1 : Int32))))
set_option maxRecDepth 100000 in
set_option maxHeartbeats 4000000 in
theorem s_X6_signOf (G : GG) (this : Nat) (a1 : Int32) : Sn G yX6_signOf cX6_signOf 2 (some FieldType.int) 0 0 (fun v : Int32 => some (.int v)) (X6_signOf this a1) 0 [some (va_rf (some this)), some (.int a1)] [] := by
  unfold X6_signOf
  refine sn_iload_n (v := a1) (pc' := 1) dX6_signOf_0 rfl rfl rfl ?_
  refine sn_if_lt (pt := 21) (pf := 4) dX6_signOf_1 rfl rfl ?_ ?_
  · refine sn_iconst (v := (-1 : Int32)) (pc' := 22) dX6_signOf_21 rfl (by decide) ?_
    refine sn_goto (pc' := 31) dX6_signOf_22 rfl ?_
    exact sn_iret dX6_signOf_31 rfl rfl
  · refine sn_iload_n (v := a1) (pc' := 5) dX6_signOf_4 rfl rfl rfl ?_
    refine sn_aload_n (v := (some this)) (pc' := 6) dX6_signOf_5 rfl rfl rfl ?_
    refine sn_gI (k := 4) (pc' := 9) ci_7 rfl (Or.inl tw191) dX6_signOf_6 rfl (fun v1 => ?_)
    refine sn_ic_ge (pt := 21) (pf := 12) dX6_signOf_9 rfl rfl ?_ ?_
    · refine sn_iconst (v := (-1 : Int32)) (pc' := 22) dX6_signOf_21 rfl (by decide) ?_
      refine sn_goto (pc' := 31) dX6_signOf_22 rfl ?_
      exact sn_iret dX6_signOf_31 rfl rfl
    · refine sn_iload_n (v := a1) (pc' := 13) dX6_signOf_12 rfl rfl rfl ?_
      refine sn_aload_n (v := (some this)) (pc' := 14) dX6_signOf_13 rfl rfl rfl ?_
      refine sn_gR (k := 0) (pc' := 17) ci_7 rfl (Or.inl tw186) dX6_signOf_14 rfl (fun v2 => ?_)
      refine sn_aN (pc' := 18) dX6_signOf_17 rfl (fun v3 => ?_)
      refine sn_ic_lt (pt := 25) (pf := 21) dX6_signOf_18 rfl rfl ?_ ?_
      · refine sn_aload_n (v := (some this)) (pc' := 26) dX6_signOf_25 rfl rfl rfl ?_
        refine sn_gR (k := 0) (pc' := 29) ci_7 rfl (Or.inl tw186) dX6_signOf_26 rfl (fun v4 => ?_)
        refine sn_iload_n (v := a1) (pc' := 30) dX6_signOf_29 rfl rfl rfl ?_
        refine sn_aI (pc' := 31) dX6_signOf_30 rfl (fun v5 => ?_)
        exact sn_iret dX6_signOf_31 rfl rfl
      · refine sn_iconst (v := (-1 : Int32)) (pc' := 22) dX6_signOf_21 rfl (by decide) ?_
        refine sn_goto (pc' := 31) dX6_signOf_22 rfl ?_
        exact sn_iret dX6_signOf_31 rfl rfl
theorem c_X6_signOf (G : GG) (this : Nat) (a1 : Int32) : Cal G yX6_signOf cX6_signOf 2 (some FieldType.int) 0 0 (fun v : Int32 => some (.int v)) (X6_signOf this a1) [.ref this, .int a1] :=
  Cal.of (by decide) (cat_t (cat_i cat_nil)) rfl (sn_weak (le_s (le_s le_e)) (s_X6_signOf G this a1))
theorem cw_X6_signOf : CW yX6_signOf cX6_signOf 2 (some FieldType.int) 1 := ⟨tw650, tw8, by decide, by decide +kernel⟩
/-! X9_goesOn -/
theorem dX9_goesOn_0 : decode cX9_goesOn 0 = .ok (.aload_n 0, 1) := by decide +kernel
theorem dX9_goesOn_1 : decode cX9_goesOn 1 = .ok (.iload_n 1, 1) := by decide +kernel
theorem dX9_goesOn_2 : decode cX9_goesOn 2 = .ok (.invokevirtual 69, 3) := by decide +kernel
theorem dX9_goesOn_5 : decode cX9_goesOn 5 = .ok (.istore_n 2, 1) := by decide +kernel
theorem dX9_goesOn_6 : decode cX9_goesOn 6 = .ok (.aload_n 0, 1) := by decide +kernel
theorem dX9_goesOn_7 : decode cX9_goesOn 7 = .ok (.iload_n 1, 1) := by decide +kernel
theorem dX9_goesOn_8 : decode cX9_goesOn 8 = .ok (.iconst 1, 1) := by decide +kernel
theorem dX9_goesOn_9 : decode cX9_goesOn 9 = .ok (.iadd, 1) := by decide +kernel
theorem dX9_goesOn_10 : decode cX9_goesOn 10 = .ok (.invokevirtual 69, 3) := by decide +kernel
theorem dX9_goesOn_13 : decode cX9_goesOn 13 = .ok (.istore_n 3, 1) := by decide +kernel
theorem dX9_goesOn_14 : decode cX9_goesOn 14 = .ok (.iload_n 2, 1) := by decide +kernel
theorem dX9_goesOn_15 : decode cX9_goesOn 15 = .ok (.ifCond .le 33, 3) := by decide +kernel
theorem dX9_goesOn_18 : decode cX9_goesOn 18 = .ok (.iload_n 3, 1) := by decide +kernel
theorem dX9_goesOn_19 : decode cX9_goesOn 19 = .ok (.bipush 70, 2) := by decide +kernel
theorem dX9_goesOn_21 : decode cX9_goesOn 21 = .ok (.if_icmp .ge 27, 3) := by decide +kernel
theorem dX9_goesOn_24 : decode cX9_goesOn 24 = .ok (.iload_n 3, 1) := by decide +kernel
theorem dX9_goesOn_25 : decode cX9_goesOn 25 = .ok (.iload_n 2, 1) := by decide +kernel
theorem dX9_goesOn_26 : decode cX9_goesOn 26 = .ok (.iconst 1, 1) := by decide +kernel
theorem dX9_goesOn_27 : decode cX9_goesOn 27 = .ok (.iadd, 1) := by decide +kernel
theorem dX9_goesOn_28 : decode cX9_goesOn 28 = .ok (.if_icmp .ne 20, 3) := by decide +kernel
theorem dX9_goesOn_31 : decode cX9_goesOn 31 = .ok (.aload_n 0, 1) := by decide +kernel
theorem dX9_goesOn_32 : decode cX9_goesOn 32 = .ok (.iload_n 2, 1) := by decide +kernel
theorem dX9_goesOn_33 : decode cX9_goesOn 33 = .ok (.invokevirtual 73, 3) := by decide +kernel
theorem dX9_goesOn_36 : decode cX9_goesOn 36 = .ok (.aload_n 0, 1) := by decide +kernel
theorem dX9_goesOn_37 : decode cX9_goesOn 37 = .ok (.iload_n 3, 1) := by decide +kernel
theorem dX9_goesOn_38 : decode cX9_goesOn 38 = .ok (.invokevirtual 73, 3) := by decide +kernel
theorem dX9_goesOn_41 : decode cX9_goesOn 41 = .ok (.if_icmp .ne 7, 3) := by decide +kernel
theorem dX9_goesOn_44 : decode cX9_goesOn 44 = .ok (.iconst 1, 1) := by decide +kernel
theorem dX9_goesOn_45 : decode cX9_goesOn 45 = .ok (.goto 4, 3) := by decide +kernel
theorem dX9_goesOn_48 : decode cX9_goesOn 48 = .ok (.iconst 0, 1) := by decide +kernel
theorem dX9_goesOn_49 : decode cX9_goesOn 49 = .ok (.ireturn, 1) := by decide +kernel
def X9_goesOn (a0 : Option Nat) (a1 : Int32) : MM Int32 :=
  mb (wc 7 a0 fun t => X6_signOf t a1) fun v1 =>
  mb (wc 7 a0 fun t => X6_signOf t (a1 + (1 : Int32))) fun v2 =>
  if v1 ≤ 0 then (mr (0 : Int32)) else (if (70 : Int32) ≤ v2 then (mr (0 : Int32)) else (if v2 = (v1 + (1 : Int32)) then (mb (wc 7 a0 fun t => X6_sizeOf t v1) fun v3 =>
  mb (wc 7 a0 fun t => X6_sizeOf t v2) fun v4 =>
  if v3 = v4 then (mr (1 : Int32)) else (mr (0 : Int32))) else (mr (0 : Int32))))
set_option maxRecDepth 100000 in
set_option maxHeartbeats 4000000 in
theorem s_X9_goesOn (G : GG) (a0 : Option Nat) (a1 : Int32) : Sn G yX9_goesOn cX9_goesOn 4 (some FieldType.boolean) 1 21 (fun v : Int32 => some (.int v)) (X9_goesOn a0 a1) 0 [some (va_rf a0), some (.int a1), none, none] [] := by
  unfold X9_goesOn
  refine sn_aload_n (v := a0) (pc' := 1) dX9_goesOn_0 rfl rfl rfl ?_
  refine sn_iload_n (v := a1) (pc' := 2) dX9_goesOn_1 rfl rfl rfl ?_
  refine sn_cV (r := a0) (st := []) (As := [.int a1]) (st2 := (fun v => .int v :: [])) (pc' := 5) ci_7 (fun t => c_X6_signOf G t a1) cw_X6_signOf rfl rfl tw647 tw649 tw648 rfl rfl cat_nil rfl (fun _ => rfl) dX9_goesOn_2 rfl (fun v1 => ?_)
  refine sn_istore_n (v := v1) (L' := [some (va_rf a0), some (.int a1), some (.int v1), none]) (pc' := 6) dX9_goesOn_5 rfl rfl rfl rfl ?_
  refine sn_aload_n (v := a0) (pc' := 7) dX9_goesOn_6 rfl rfl rfl ?_
  refine sn_iload_n (v := a1) (pc' := 8) dX9_goesOn_7 rfl rfl rfl ?_
  refine sn_iconst (v := (1 : Int32)) (pc' := 9) dX9_goesOn_8 rfl (by decide) ?_
  refine sn_iadd (pc' := 10) dX9_goesOn_9 rfl ?_
  refine sn_cV (r := a0) (st := []) (As := [.int (a1 + (1 : Int32))]) (st2 := (fun v => .int v :: [])) (pc' := 13) ci_7 (fun t => c_X6_signOf G t (a1 + (1 : Int32))) cw_X6_signOf rfl rfl tw647 tw649 tw648 rfl rfl cat_nil rfl (fun _ => rfl) dX9_goesOn_10 rfl (fun v2 => ?_)
  refine sn_istore_n (v := v2) (L' := [some (va_rf a0), some (.int a1), some (.int v1), some (.int v2)]) (pc' := 14) dX9_goesOn_13 rfl rfl rfl rfl ?_
  refine sn_iload_n (v := v1) (pc' := 15) dX9_goesOn_14 rfl rfl rfl ?_
  refine sn_if_le (pt := 48) (pf := 18) dX9_goesOn_15 rfl rfl ?_ ?_
  · refine sn_iconst (v := (0 : Int32)) (pc' := 49) dX9_goesOn_48 rfl (by decide) ?_
    exact sn_iret dX9_goesOn_49 rfl (by decide)
  · refine sn_iload_n (v := v2) (pc' := 19) dX9_goesOn_18 rfl rfl rfl ?_
    refine sn_bipush (v := (70 : Int32)) (pc' := 21) dX9_goesOn_19 rfl (by decide) ?_
    refine sn_ic_ge (pt := 48) (pf := 24) dX9_goesOn_21 rfl rfl ?_ ?_
    · refine sn_iconst (v := (0 : Int32)) (pc' := 49) dX9_goesOn_48 rfl (by decide) ?_
      exact sn_iret dX9_goesOn_49 rfl (by decide)
    · refine sn_iload_n (v := v2) (pc' := 25) dX9_goesOn_24 rfl rfl rfl ?_
      refine sn_iload_n (v := v1) (pc' := 26) dX9_goesOn_25 rfl rfl rfl ?_
      refine sn_iconst (v := (1 : Int32)) (pc' := 27) dX9_goesOn_26 rfl (by decide) ?_
      refine sn_iadd (pc' := 28) dX9_goesOn_27 rfl ?_
      refine sn_ic_ne (pt := 48) (pf := 31) dX9_goesOn_28 rfl rfl ?_ ?_
      · refine sn_aload_n (v := a0) (pc' := 32) dX9_goesOn_31 rfl rfl rfl ?_
        refine sn_iload_n (v := v1) (pc' := 33) dX9_goesOn_32 rfl rfl rfl ?_
        refine sn_cV (r := a0) (st := []) (As := [.int v1]) (st2 := (fun v => .int v :: [])) (pc' := 36) ci_7 (fun t => c_X6_sizeOf G t v1) cw_X6_sizeOf rfl rfl tw651 tw539 tw538 rfl rfl cat_nil rfl (fun _ => rfl) dX9_goesOn_33 rfl (fun v3 => ?_)
        refine sn_aload_n (v := a0) (pc' := 37) dX9_goesOn_36 rfl rfl rfl ?_
        refine sn_iload_n (v := v2) (pc' := 38) dX9_goesOn_37 rfl rfl rfl ?_
        refine sn_cV (r := a0) (st := [.int v3]) (As := [.int v2]) (st2 := (fun v => .int v :: [.int v3])) (pc' := 41) ci_7 (fun t => c_X6_sizeOf G t v2) cw_X6_sizeOf rfl rfl tw651 tw539 tw538 rfl rfl (cat_i cat_nil) rfl (fun _ => rfl) dX9_goesOn_38 rfl (fun v4 => ?_)
        refine sn_ic_ne (pt := 48) (pf := 44) dX9_goesOn_41 rfl rfl ?_ ?_
        · refine sn_iconst (v := (1 : Int32)) (pc' := 45) dX9_goesOn_44 rfl (by decide) ?_
          refine sn_goto (pc' := 49) dX9_goesOn_45 rfl ?_
          exact sn_iret dX9_goesOn_49 rfl (by decide)
        · refine sn_iconst (v := (0 : Int32)) (pc' := 49) dX9_goesOn_48 rfl (by decide) ?_
          exact sn_iret dX9_goesOn_49 rfl (by decide)
      · refine sn_iconst (v := (0 : Int32)) (pc' := 49) dX9_goesOn_48 rfl (by decide) ?_
        exact sn_iret dX9_goesOn_49 rfl (by decide)
theorem c_X9_goesOn (G : GG) (a0 : Option Nat) (a1 : Int32) : Cal G yX9_goesOn cX9_goesOn 4 (some FieldType.boolean) 1 21 (fun v : Int32 => some (.int v)) (X9_goesOn a0 a1) [va_rf a0, .int a1] :=
  Cal.of (by decide) (cat_q (cat_i cat_nil)) rfl (sn_weak (le_s (le_s (le_z (le_z le_e)))) (s_X9_goesOn G a0 a1))
theorem cw_X9_goesOn : CW yX9_goesOn cX9_goesOn 4 (some FieldType.boolean) 2 := ⟨tw646, tw10, by decide, by decide +kernel⟩
/-! J5_isLatin1_aae02 -/
theorem dJ5_isLatin1_aae02_0 : decode cJ5_isLatin1_aae02 0 = .ok (.getstatic 18, 3) := by decide +kernel
theorem dJ5_isLatin1_aae02_3 : decode cJ5_isLatin1_aae02 3 = .ok (.ifCond .eq 14, 3) := by decide +kernel
theorem dJ5_isLatin1_aae02_6 : decode cJ5_isLatin1_aae02 6 = .ok (.aload_n 0, 1) := by decide +kernel
theorem dJ5_isLatin1_aae02_7 : decode cJ5_isLatin1_aae02 7 = .ok (.getfield 22, 3) := by decide +kernel
theorem dJ5_isLatin1_aae02_10 : decode cJ5_isLatin1_aae02 10 = .ok (.ifCond .ne 7, 3) := by decide +kernel
theorem dJ5_isLatin1_aae02_13 : decode cJ5_isLatin1_aae02 13 = .ok (.iconst 1, 1) := by decide +kernel
theorem dJ5_isLatin1_aae02_14 : decode cJ5_isLatin1_aae02 14 = .ok (.goto 4, 3) := by decide +kernel
theorem dJ5_isLatin1_aae02_17 : decode cJ5_isLatin1_aae02 17 = .ok (.iconst 0, 1) := by decide +kernel
theorem dJ5_isLatin1_aae02_18 : decode cJ5_isLatin1_aae02 18 = .ok (.ireturn, 1) := by decide +kernel
def J5_isLatin1_aae02 (this : Nat) : MM Int32 :=
  if (1 : Int32) = 0 then (mr (0 : Int32)) else (mb (gI 1 (some this) 1) fun v1 =>
  if v1 = 0 then (mr (1 : Int32)) else (mr (0 : Int32)))
set_option maxRecDepth 100000 in
set_option maxHeartbeats 4000000 in
theorem s_J5_isLatin1_aae02 (G : GG) (this : Nat) : Sn G yJ5_isLatin1_aae02 cJ5_isLatin1_aae02 1 (some FieldType.boolean) 0 0 (fun v : Int32 => some (.int v)) (J5_isLatin1_aae02 this) 0 [some (va_rf (some this))] [] := by
  unfold J5_isLatin1_aae02
  refine sn_gsI (C := "java/lang/String") (nm := "COMPACT_STRINGS") (d := "Z") (v := (1 : Int32)) (pc' := 3) (by decide +kernel) tw242 dJ5_isLatin1_aae02_0 rfl ?_
  refine sn_if_eq (pt := 17) (pf := 6) dJ5_isLatin1_aae02_3 rfl rfl ?_ ?_
  · refine sn_iconst (v := (0 : Int32)) (pc' := 18) dJ5_isLatin1_aae02_17 rfl (by decide) ?_
    exact sn_iret dJ5_isLatin1_aae02_18 rfl (by decide)
  · refine sn_aload_n (v := (some this)) (pc' := 7) dJ5_isLatin1_aae02_6 rfl rfl rfl ?_
    refine sn_gI (k := 1) (pc' := 10) ci_1 rfl (Or.inl tw252) dJ5_isLatin1_aae02_7 rfl (fun v1 => ?_)
    refine sn_if_ne (pt := 17) (pf := 13) dJ5_isLatin1_aae02_10 rfl rfl ?_ ?_
    · refine sn_iconst (v := (1 : Int32)) (pc' := 14) dJ5_isLatin1_aae02_13 rfl (by decide) ?_
      refine sn_goto (pc' := 18) dJ5_isLatin1_aae02_14 rfl ?_
      exact sn_iret dJ5_isLatin1_aae02_18 rfl (by decide)
    · refine sn_iconst (v := (0 : Int32)) (pc' := 18) dJ5_isLatin1_aae02_17 rfl (by decide) ?_
      exact sn_iret dJ5_isLatin1_aae02_18 rfl (by decide)
theorem c_J5_isLatin1_aae02 (G : GG) (this : Nat) : Cal G yJ5_isLatin1_aae02 cJ5_isLatin1_aae02 1 (some FieldType.boolean) 0 0 (fun v : Int32 => some (.int v)) (J5_isLatin1_aae02 this) [.ref this] :=
  Cal.of (by decide) (cat_t cat_nil) rfl (sn_weak (le_s le_e) (s_J5_isLatin1_aae02 G this))
theorem cw_J5_isLatin1_aae02 : CW yJ5_isLatin1_aae02 cJ5_isLatin1_aae02 1 (some FieldType.boolean) 0 := ⟨tw630, tw11, by decide, by decide +kernel⟩
/-! J1_canEncode_fc78d -/
theorem dJ1_canEncode_fc78d_0 : decode cJ1_canEncode_fc78d 0 = .ok (.iload_n 0, 1) := by decide +kernel
theorem dJ1_canEncode_fc78d_1 : decode cJ1_canEncode_fc78d 1 = .ok (.sipush 255, 3) := by decide +kernel
theorem dJ1_canEncode_fc78d_4 : decode cJ1_canEncode_fc78d 4 = .ok (.if_icmp .gt 7, 3) := by decide +kernel
theorem dJ1_canEncode_fc78d_7 : decode cJ1_canEncode_fc78d 7 = .ok (.iconst 1, 1) := by decide +kernel
theorem dJ1_canEncode_fc78d_8 : decode cJ1_canEncode_fc78d 8 = .ok (.goto 4, 3) := by decide +kernel
theorem dJ1_canEncode_fc78d_11 : decode cJ1_canEncode_fc78d 11 = .ok (.iconst 0, 1) := by decide +kernel
theorem dJ1_canEncode_fc78d_12 : decode cJ1_canEncode_fc78d 12 = .ok (.ireturn, 1) := by decide +kernel
def J1_canEncode_fc78d (a0 : Int32) : MM Int32 :=
  if (255 : Int32) < a0 then (mr (0 : Int32)) else (mr (1 : Int32))
set_option maxRecDepth 100000 in
set_option maxHeartbeats 4000000 in
theorem s_J1_canEncode_fc78d (G : GG) (a0 : Int32) : Sn G yJ1_canEncode_fc78d cJ1_canEncode_fc78d 1 (some FieldType.boolean) 0 0 (fun v : Int32 => some (.int v)) (J1_canEncode_fc78d a0) 0 [some (.int a0)] [] := by
  unfold J1_canEncode_fc78d
  refine sn_iload_n (v := a0) (pc' := 1) dJ1_canEncode_fc78d_0 rfl rfl rfl ?_
  refine sn_sipush (v := (255 : Int32)) (pc' := 4) dJ1_canEncode_fc78d_1 rfl (by decide) ?_
  refine sn_ic_gt (pt := 11) (pf := 7) dJ1_canEncode_fc78d_4 rfl rfl ?_ ?_
  · refine sn_iconst (v := (0 : Int32)) (pc' := 12) dJ1_canEncode_fc78d_11 rfl (by decide) ?_
    exact sn_iret dJ1_canEncode_fc78d_12 rfl (by decide)
  · refine sn_iconst (v := (1 : Int32)) (pc' := 8) dJ1_canEncode_fc78d_7 rfl (by decide) ?_
    refine sn_goto (pc' := 12) dJ1_canEncode_fc78d_8 rfl ?_
    exact sn_iret dJ1_canEncode_fc78d_12 rfl (by decide)
theorem c_J1_canEncode_fc78d (G : GG) (a0 : Int32) : Cal G yJ1_canEncode_fc78d cJ1_canEncode_fc78d 1 (some FieldType.boolean) 0 0 (fun v : Int32 => some (.int v)) (J1_canEncode_fc78d a0) [.int a0] :=
  Cal.of (by decide) (cat_i cat_nil) rfl (sn_weak (le_s le_e) (s_J1_canEncode_fc78d G a0))
theorem cw_J1_canEncode_fc78d : CW yJ1_canEncode_fc78d cJ1_canEncode_fc78d 1 (some FieldType.boolean) 1 := ⟨tw665, tw16, by decide, by decide +kernel⟩
/-! J5_append_3fe6f -/
theorem dJ5_append_3fe6f_0 : decode cJ5_append_3fe6f 0 = .ok (.aload_n 0, 1) := by decide +kernel
theorem dJ5_append_3fe6f_1 : decode cJ5_append_3fe6f 1 = .ok (.aload_n 0, 1) := by decide +kernel
theorem dJ5_append_3fe6f_2 : decode cJ5_append_3fe6f 2 = .ok (.getfield 79, 3) := by decide +kernel
theorem dJ5_append_3fe6f_5 : decode cJ5_append_3fe6f 5 = .ok (.iconst 1, 1) := by decide +kernel
theorem dJ5_append_3fe6f_6 : decode cJ5_append_3fe6f 6 = .ok (.iadd, 1) := by decide +kernel
theorem dJ5_append_3fe6f_7 : decode cJ5_append_3fe6f 7 = .ok (.invokevirtual 100, 3) := by decide +kernel
theorem dJ5_append_3fe6f_10 : decode cJ5_append_3fe6f 10 = .ok (.aload_n 0, 1) := by decide +kernel
theorem dJ5_append_3fe6f_11 : decode cJ5_append_3fe6f 11 = .ok (.invokevirtual 83, 3) := by decide +kernel
theorem dJ5_append_3fe6f_14 : decode cJ5_append_3fe6f 14 = .ok (.ifCond .eq 31, 3) := by decide +kernel
theorem dJ5_append_3fe6f_17 : decode cJ5_append_3fe6f 17 = .ok (.iload_n 1, 1) := by decide +kernel
theorem dJ5_append_3fe6f_18 : decode cJ5_append_3fe6f 18 = .ok (.invokestatic 191, 3) := by decide +kernel
theorem dJ5_append_3fe6f_21 : decode cJ5_append_3fe6f 21 = .ok (.ifCond .eq 24, 3) := by decide +kernel
theorem dJ5_append_3fe6f_24 : decode cJ5_append_3fe6f 24 = .ok (.aload_n 0, 1) := by decide +kernel
theorem dJ5_append_3fe6f_25 : decode cJ5_append_3fe6f 25 = .ok (.getfield 15, 3) := by decide +kernel
theorem dJ5_append_3fe6f_28 : decode cJ5_append_3fe6f 28 = .ok (.aload_n 0, 1) := by decide +kernel
theorem dJ5_append_3fe6f_29 : decode cJ5_append_3fe6f 29 = .ok (.dup, 1) := by decide +kernel
theorem dJ5_append_3fe6f_30 : decode cJ5_append_3fe6f 30 = .ok (.getfield 79, 3) := by decide +kernel
theorem dJ5_append_3fe6f_33 : decode cJ5_append_3fe6f 33 = .ok (.dup_x1, 1) := by decide +kernel
theorem dJ5_append_3fe6f_34 : decode cJ5_append_3fe6f 34 = .ok (.iconst 1, 1) := by decide +kernel
theorem dJ5_append_3fe6f_35 : decode cJ5_append_3fe6f 35 = .ok (.iadd, 1) := by decide +kernel
theorem dJ5_append_3fe6f_36 : decode cJ5_append_3fe6f 36 = .ok (.putfield 79, 3) := by decide +kernel
theorem dJ5_append_3fe6f_39 : decode cJ5_append_3fe6f 39 = .ok (.iload_n 1, 1) := by decide +kernel
theorem dJ5_append_3fe6f_40 : decode cJ5_append_3fe6f 40 = .ok (.i2b, 1) := by decide +kernel
theorem dJ5_append_3fe6f_41 : decode cJ5_append_3fe6f 41 = .ok (.bastore, 1) := by decide +kernel
theorem dJ5_append_3fe6f_42 : decode cJ5_append_3fe6f 42 = .ok (.goto 33, 3) := by decide +kernel
theorem dJ5_append_3fe6f_75 : decode cJ5_append_3fe6f 75 = .ok (.aload_n 0, 1) := by decide +kernel
theorem dJ5_append_3fe6f_76 : decode cJ5_append_3fe6f 76 = .ok (.areturn, 1) := by decide +kernel
def J5_append_3fe6f (this : Nat) (a1 : Int32) : MM (Option Nat) :=
  mb (gI 1 (some this) 3) fun v1 =>
  mb (wc 1 (some this) fun t => J5_ensureCapacityInternal_d00df t (v1 + (1 : Int32))) fun _ =>
  mb (wc 1 (some this) fun t => J5_isLatin1_aae02 t ) fun v2 =>
  if v2 = 0 then (mf) else (mb (J1_canEncode_fc78d a1) fun v3 =>
  if v3 = 0 then (mf) else (mb (gR 1 (some this) 0) fun v4 =>
  mb (gI 1 (some this) 3) fun v5 =>
  mb (pI 1 (some this) 3 (v5 + (1 : Int32))) fun _ =>
  mb (sB v4 v5 ((a1).toInt8.toInt32)) fun _ =>
  mr (some this)))
set_option maxRecDepth 100000 in
set_option maxHeartbeats 4000000 in
theorem s_J5_append_3fe6f (G : GG) (this : Nat) (a1 : Int32) : Sn G yJ5_append_3fe6f cJ5_append_3fe6f 2 (some (FieldType.object "java/lang/AbstractStringBuilder")) 4 84 (fun v : Option Nat => some (va_rf v)) (J5_append_3fe6f this a1) 0 [some (va_rf (some this)), some (.int a1)] [] := by
  unfold J5_append_3fe6f
  refine sn_aload_n (v := (some this)) (pc' := 1) dJ5_append_3fe6f_0 rfl rfl rfl ?_
  refine sn_aload_n (v := (some this)) (pc' := 2) dJ5_append_3fe6f_1 rfl rfl rfl ?_
  refine sn_gI (k := 3) (pc' := 5) ci_1 rfl (Or.inl tw255) dJ5_append_3fe6f_2 rfl (fun v1 => ?_)
  refine sn_iconst (v := (1 : Int32)) (pc' := 6) dJ5_append_3fe6f_5 rfl (by decide) ?_
  refine sn_iadd (pc' := 7) dJ5_append_3fe6f_6 rfl ?_
  refine sn_cV (r := (some this)) (st := []) (As := [.int (v1 + (1 : Int32))]) (st2 := (fun _ => [])) (pc' := 10) ci_1 (fun t => c_J5_ensureCapacityInternal_d00df G t (v1 + (1 : Int32))) cw_J5_ensureCapacityInternal_d00df rfl rfl tw595 (gt_as 0 rfl (by decide +kernel)) tw597 rfl rfl cat_nil rfl (fun _ => rfl) dJ5_append_3fe6f_7 rfl (fun _ => ?_)
  refine sn_aload_n (v := (some this)) (pc' := 11) dJ5_append_3fe6f_10 rfl rfl rfl ?_
  refine sn_cV (r := (some this)) (st := []) (As := []) (st2 := (fun v => .int v :: [])) (pc' := 14) ci_1 (fun t => c_J5_isLatin1_aae02 G t ) cw_J5_isLatin1_aae02 rfl rfl tw626 tw629 tw627 rfl rfl cat_nil rfl (fun _ => rfl) dJ5_append_3fe6f_11 rfl (fun v2 => ?_)
  refine sn_if_eq (pt := 45) (pf := 17) dJ5_append_3fe6f_14 rfl rfl ?_ ?_
  · exact sn_mf
  · refine sn_iload_n (v := a1) (pc' := 18) dJ5_append_3fe6f_17 rfl rfl rfl ?_
    refine sn_cS (st := []) (As := [.int a1]) (st2 := (fun v => .int v :: [])) (pc' := 21) (c_J1_canEncode_fc78d G a1) cw_J1_canEncode_fc78d rfl rfl tw663 tw664 rfl rfl cat_nil rfl (fun _ => rfl) dJ5_append_3fe6f_18 rfl (fun v3 => ?_)
    refine sn_if_eq (pt := 45) (pf := 24) dJ5_append_3fe6f_21 rfl rfl ?_ ?_
    · exact sn_mf
    · refine sn_aload_n (v := (some this)) (pc' := 25) dJ5_append_3fe6f_24 rfl rfl rfl ?_
      refine sn_gR (k := 0) (pc' := 28) ci_1 rfl (Or.inl tw251) dJ5_append_3fe6f_25 rfl (fun v4 => ?_)
      refine sn_aload_n (v := (some this)) (pc' := 29) dJ5_append_3fe6f_28 rfl rfl rfl ?_
      refine sn_dup (pc' := 30) dJ5_append_3fe6f_29 rfl (cat_rf _) ?_
      refine sn_gI (k := 3) (pc' := 33) ci_1 rfl (Or.inl tw255) dJ5_append_3fe6f_30 rfl (fun v5 => ?_)
      refine sn_dup_x1 (pc' := 34) dJ5_append_3fe6f_33 rfl rfl (cat_rf _) ?_
      refine sn_iconst (v := (1 : Int32)) (pc' := 35) dJ5_append_3fe6f_34 rfl (by decide) ?_
      refine sn_iadd (pc' := 36) dJ5_append_3fe6f_35 rfl ?_
      refine sn_pI (k := 3) (pc' := 39) ci_1 rfl (Or.inl tw255) (Or.inl rfl) rfl dJ5_append_3fe6f_36 rfl (fun _ => ?_)
      refine sn_iload_n (v := a1) (pc' := 40) dJ5_append_3fe6f_39 rfl rfl rfl ?_
      refine sn_i2b (pc' := 41) dJ5_append_3fe6f_40 rfl ?_
      refine sn_sB (pc' := 42) dJ5_append_3fe6f_41 rfl (fun _ => ?_)
      refine sn_goto (pc' := 75) dJ5_append_3fe6f_42 rfl ?_
      refine sn_aload_n (v := (some this)) (pc' := 76) dJ5_append_3fe6f_75 rfl rfl rfl ?_
      exact sn_aret dJ5_append_3fe6f_76 rfl (Or.inl ⟨_, rfl⟩)
theorem c_J5_append_3fe6f (G : GG) (this : Nat) (a1 : Int32) : Cal G yJ5_append_3fe6f cJ5_append_3fe6f 2 (some (FieldType.object "java/lang/AbstractStringBuilder")) 4 84 (fun v : Option Nat => some (va_rf v)) (J5_append_3fe6f this a1) [.ref this, .int a1] :=
  Cal.of (by decide) (cat_t (cat_i cat_nil)) rfl (sn_weak (le_s (le_s le_e)) (s_J5_append_3fe6f G this a1))
theorem cw_J5_append_3fe6f : CW yJ5_append_3fe6f cJ5_append_3fe6f 2 (some (FieldType.object "java/lang/AbstractStringBuilder")) 1 := ⟨tw662, tw11, by decide, by decide +kernel⟩
/-! J4_append_cf468 -/
theorem dJ4_append_cf468_0 : decode cJ4_append_cf468 0 = .ok (.aload_n 0, 1) := by decide +kernel
theorem dJ4_append_cf468_1 : decode cJ4_append_cf468 1 = .ok (.iload_n 1, 1) := by decide +kernel
theorem dJ4_append_cf468_2 : decode cJ4_append_cf468 2 = .ok (.invokespecial 50, 3) := by decide +kernel
theorem dJ4_append_cf468_5 : decode cJ4_append_cf468 5 = .ok (.pop, 1) := by decide +kernel
theorem dJ4_append_cf468_6 : decode cJ4_append_cf468 6 = .ok (.aload_n 0, 1) := by decide +kernel
theorem dJ4_append_cf468_7 : decode cJ4_append_cf468 7 = .ok (.areturn, 1) := by decide +kernel
def J4_append_cf468 (this : Nat) (a1 : Int32) : MM (Option Nat) :=
  mb (wc 1 (some this) fun t => J5_append_3fe6f t a1) fun v1 =>
  mr (some this)
set_option maxRecDepth 100000 in
set_option maxHeartbeats 4000000 in
theorem s_J4_append_cf468 (G : GG) (this : Nat) (a1 : Int32) : Sn G yJ4_append_cf468 cJ4_append_cf468 2 (some (FieldType.object "java/lang/StringBuilder")) 5 105 (fun v : Option Nat => some (va_rf v)) (J4_append_cf468 this a1) 0 [some (va_rf (some this)), some (.int a1)] [] := by
  unfold J4_append_cf468
  refine sn_aload_n (v := (some this)) (pc' := 1) dJ4_append_cf468_0 rfl rfl rfl ?_
  refine sn_iload_n (v := a1) (pc' := 2) dJ4_append_cf468_1 rfl rfl rfl ?_
  refine sn_cU (r := (some this)) (st := []) (As := [.int a1]) (st2 := (fun v => va_rf v :: [])) (pc' := 5) ci_1 (fun t => c_J5_append_3fe6f G t a1) cw_J5_append_3fe6f rfl rfl tw660 tw1768 tw264 tw661 (by decide) rfl rfl cat_nil rfl (fun _ => rfl) dJ4_append_cf468_2 rfl (fun v1 => ?_)
  refine sn_pop (pc' := 6) dJ4_append_cf468_5 rfl (cat_rf _) ?_
  refine sn_aload_n (v := (some this)) (pc' := 7) dJ4_append_cf468_6 rfl rfl rfl ?_
  exact sn_aret dJ4_append_cf468_7 rfl (Or.inl ⟨_, rfl⟩)
theorem c_J4_append_cf468 (G : GG) (this : Nat) (a1 : Int32) : Cal G yJ4_append_cf468 cJ4_append_cf468 2 (some (FieldType.object "java/lang/StringBuilder")) 5 105 (fun v : Option Nat => some (va_rf v)) (J4_append_cf468 this a1) [.ref this, .int a1] :=
  Cal.of (by decide) (cat_t (cat_i cat_nil)) rfl (sn_weak (le_s (le_s le_e)) (s_J4_append_cf468 G this a1))
theorem cw_J4_append_cf468 : CW yJ4_append_cf468 cJ4_append_cf468 2 (some (FieldType.object "java/lang/StringBuilder")) 1 := ⟨tw659, tw12, by decide, by decide +kernel⟩
/-! J5_inflateIfNeededFor_a7421 -/
theorem dJ5_inflateIfNeededFor_a7421_0 : decode cJ5_inflateIfNeededFor_a7421 0 = .ok (.getstatic 18, 3) := by decide +kernel
theorem dJ5_inflateIfNeededFor_a7421_3 : decode cJ5_inflateIfNeededFor_a7421 3 = .ok (.ifCond .eq 18, 3) := by decide +kernel
theorem dJ5_inflateIfNeededFor_a7421_6 : decode cJ5_inflateIfNeededFor_a7421 6 = .ok (.aload_n 0, 1) := by decide +kernel
theorem dJ5_inflateIfNeededFor_a7421_7 : decode cJ5_inflateIfNeededFor_a7421 7 = .ok (.getfield 22, 3) := by decide +kernel
theorem dJ5_inflateIfNeededFor_a7421_10 : decode cJ5_inflateIfNeededFor_a7421 10 = .ok (.aload_n 1, 1) := by decide +kernel
theorem dJ5_inflateIfNeededFor_a7421_11 : decode cJ5_inflateIfNeededFor_a7421 11 = .ok (.invokevirtual 40, 3) := by decide +kernel
theorem dJ5_inflateIfNeededFor_a7421_14 : decode cJ5_inflateIfNeededFor_a7421 14 = .ok (.if_icmp .eq 7, 3) := by decide +kernel
theorem dJ5_inflateIfNeededFor_a7421_21 : decode cJ5_inflateIfNeededFor_a7421 21 = .ok (.return_, 1) := by decide +kernel
def J5_inflateIfNeededFor_a7421 (this : Nat) (a1 : Option Nat) : MM Unit :=
  if (1 : Int32) = 0 then (mr ()) else (mb (gI 1 (some this) 1) fun v1 =>
  mb (wc 0 a1 fun t => J0_coder_7d493 t ) fun v2 =>
  if v1 = v2 then (mr ()) else (mf))
set_option maxRecDepth 100000 in
set_option maxHeartbeats 4000000 in
theorem s_J5_inflateIfNeededFor_a7421 (G : GG) (this : Nat) (a1 : Option Nat) : Sn G yJ5_inflateIfNeededFor_a7421 cJ5_inflateIfNeededFor_a7421 2 none 1 20 (fun _ : Unit => none) (J5_inflateIfNeededFor_a7421 this a1) 0 [some (va_rf (some this)), some (va_rf a1)] [] := by
  unfold J5_inflateIfNeededFor_a7421
  refine sn_gsI (C := "java/lang/String") (nm := "COMPACT_STRINGS") (d := "Z") (v := (1 : Int32)) (pc' := 3) (by decide +kernel) tw242 dJ5_inflateIfNeededFor_a7421_0 rfl ?_
  refine sn_if_eq (pt := 21) (pf := 6) dJ5_inflateIfNeededFor_a7421_3 rfl rfl ?_ ?_
  · exact sn_vret dJ5_inflateIfNeededFor_a7421_21 rfl
  · refine sn_aload_n (v := (some this)) (pc' := 7) dJ5_inflateIfNeededFor_a7421_6 rfl rfl rfl ?_
    refine sn_gI (k := 1) (pc' := 10) ci_1 rfl (Or.inl tw252) dJ5_inflateIfNeededFor_a7421_7 rfl (fun v1 => ?_)
    refine sn_aload_n (v := a1) (pc' := 11) dJ5_inflateIfNeededFor_a7421_10 rfl rfl rfl ?_
    refine sn_cV (r := a1) (st := [.int v1]) (As := []) (st2 := (fun v => .int v :: [.int v1])) (pc' := 14) ci_0 (fun t => c_J0_coder_7d493 G t ) cw_J0_coder_7d493 rfl rfl tw728 tw413 tw412 rfl rfl (cat_i cat_nil) rfl (fun _ => rfl) dJ5_inflateIfNeededFor_a7421_11 rfl (fun v2 => ?_)
    refine sn_ic_eq (pt := 21) (pf := 17) dJ5_inflateIfNeededFor_a7421_14 rfl rfl ?_ ?_
    · exact sn_vret dJ5_inflateIfNeededFor_a7421_21 rfl
    · exact sn_mf
theorem c_J5_inflateIfNeededFor_a7421 (G : GG) (this : Nat) (a1 : Option Nat) : Cal G yJ5_inflateIfNeededFor_a7421 cJ5_inflateIfNeededFor_a7421 2 none 1 20 (fun _ : Unit => none) (J5_inflateIfNeededFor_a7421 this a1) [.ref this, va_rf a1] :=
  Cal.of (by decide) (cat_t (cat_q cat_nil)) rfl (sn_weak (le_s (le_s le_e)) (s_J5_inflateIfNeededFor_a7421 G this a1))
theorem cw_J5_inflateIfNeededFor_a7421 : CW yJ5_inflateIfNeededFor_a7421 cJ5_inflateIfNeededFor_a7421 2 none 1 := ⟨tw727, tw11, by decide, by decide +kernel⟩
/-! J0_getBytes_840e7 -/
theorem dJ0_getBytes_840e7_0 : decode cJ0_getBytes_840e7 0 = .ok (.aload_n 0, 1) := by decide +kernel
theorem dJ0_getBytes_840e7_1 : decode cJ0_getBytes_840e7 1 = .ok (.invokevirtual 335, 3) := by decide +kernel
theorem dJ0_getBytes_840e7_4 : decode cJ0_getBytes_840e7 4 = .ok (.iload_n 3, 1) := by decide +kernel
theorem dJ0_getBytes_840e7_5 : decode cJ0_getBytes_840e7 5 = .ok (.if_icmp .ne 23, 3) := by decide +kernel
theorem dJ0_getBytes_840e7_8 : decode cJ0_getBytes_840e7 8 = .ok (.aload_n 0, 1) := by decide +kernel
theorem dJ0_getBytes_840e7_9 : decode cJ0_getBytes_840e7 9 = .ok (.getfield 9, 3) := by decide +kernel
theorem dJ0_getBytes_840e7_12 : decode cJ0_getBytes_840e7 12 = .ok (.iconst 0, 1) := by decide +kernel
theorem dJ0_getBytes_840e7_13 : decode cJ0_getBytes_840e7 13 = .ok (.aload_n 1, 1) := by decide +kernel
theorem dJ0_getBytes_840e7_14 : decode cJ0_getBytes_840e7 14 = .ok (.iload_n 2, 1) := by decide +kernel
theorem dJ0_getBytes_840e7_15 : decode cJ0_getBytes_840e7 15 = .ok (.iload_n 3, 1) := by decide +kernel
theorem dJ0_getBytes_840e7_16 : decode cJ0_getBytes_840e7 16 = .ok (.ishl, 1) := by decide +kernel
theorem dJ0_getBytes_840e7_17 : decode cJ0_getBytes_840e7 17 = .ok (.aload_n 0, 1) := by decide +kernel
theorem dJ0_getBytes_840e7_18 : decode cJ0_getBytes_840e7 18 = .ok (.getfield 9, 3) := by decide +kernel
theorem dJ0_getBytes_840e7_21 : decode cJ0_getBytes_840e7 21 = .ok (.arraylength, 1) := by decide +kernel
theorem dJ0_getBytes_840e7_22 : decode cJ0_getBytes_840e7 22 = .ok (.invokestatic 212, 3) := by decide +kernel
theorem dJ0_getBytes_840e7_25 : decode cJ0_getBytes_840e7 25 = .ok (.goto 18, 3) := by decide +kernel
theorem dJ0_getBytes_840e7_43 : decode cJ0_getBytes_840e7 43 = .ok (.return_, 1) := by decide +kernel
def J0_getBytes_840e7 (this : Nat) (a1 : Option Nat) (a2 : Int32) (a3 : Int32) : MM Unit :=
  mb (wc 0 (some this) fun t => J0_coder_7d493 t ) fun v1 =>
  if v1 = a3 then (mb (gR 0 (some this) 0) fun v2 =>
  mb (gR 0 (some this) 0) fun v3 =>
  mb (aN v3) fun v4 =>
  mb (cpy v2 (0 : Int32) a1 (a2 <<< (a3 &&& 31)) v4) fun _ =>
  mr ()) else (mf)
set_option maxRecDepth 100000 in
set_option maxHeartbeats 4000000 in
theorem s_J0_getBytes_840e7 (G : GG) (this : Nat) (a1 : Option Nat) (a2 : Int32) (a3 : Int32) : Sn G yJ0_getBytes_840e7 cJ0_getBytes_840e7 4 none 1 20 (fun _ : Unit => none) (J0_getBytes_840e7 this a1 a2 a3) 0 [some (va_rf (some this)), some (va_rf a1), some (.int a2), some (.int a3)] [] := by
  unfold J0_getBytes_840e7
  refine sn_aload_n (v := (some this)) (pc' := 1) dJ0_getBytes_840e7_0 rfl rfl rfl ?_
  refine sn_cV (r := (some this)) (st := []) (As := []) (st2 := (fun v => .int v :: [])) (pc' := 4) ci_0 (fun t => c_J0_coder_7d493 G t ) cw_J0_coder_7d493 rfl rfl tw411 tw413 tw412 rfl rfl cat_nil rfl (fun _ => rfl) dJ0_getBytes_840e7_1 rfl (fun v1 => ?_)
  refine sn_iload_n (v := a3) (pc' := 5) dJ0_getBytes_840e7_4 rfl rfl rfl ?_
  refine sn_ic_ne (pt := 28) (pf := 8) dJ0_getBytes_840e7_5 rfl rfl ?_ ?_
  · refine sn_aload_n (v := (some this)) (pc' := 9) dJ0_getBytes_840e7_8 rfl rfl rfl ?_
    refine sn_gR (k := 0) (pc' := 12) ci_0 rfl (Or.inl tw830) dJ0_getBytes_840e7_9 rfl (fun v2 => ?_)
    refine sn_iconst (v := (0 : Int32)) (pc' := 13) dJ0_getBytes_840e7_12 rfl (by decide) ?_
    refine sn_aload_n (v := a1) (pc' := 14) dJ0_getBytes_840e7_13 rfl rfl rfl ?_
    refine sn_iload_n (v := a2) (pc' := 15) dJ0_getBytes_840e7_14 rfl rfl rfl ?_
    refine sn_iload_n (v := a3) (pc' := 16) dJ0_getBytes_840e7_15 rfl rfl rfl ?_
    refine sn_ishl (pc' := 17) dJ0_getBytes_840e7_16 rfl ?_
    refine sn_aload_n (v := (some this)) (pc' := 18) dJ0_getBytes_840e7_17 rfl rfl rfl ?_
    refine sn_gR (k := 0) (pc' := 21) ci_0 rfl (Or.inl tw830) dJ0_getBytes_840e7_18 rfl (fun v3 => ?_)
    refine sn_aN (pc' := 22) dJ0_getBytes_840e7_21 rfl (fun v4 => ?_)
    refine sn_cpy (st := []) (pc' := 25) tw733 tw625 tw624 tw23 rfl cat_nil (by decide) dJ0_getBytes_840e7_22 rfl (fun _ => ?_)
    refine sn_goto (pc' := 43) dJ0_getBytes_840e7_25 rfl ?_
    exact sn_vret dJ0_getBytes_840e7_43 rfl
  · exact sn_mf
theorem c_J0_getBytes_840e7 (G : GG) (this : Nat) (a1 : Option Nat) (a2 : Int32) (a3 : Int32) : Cal G yJ0_getBytes_840e7 cJ0_getBytes_840e7 4 none 1 20 (fun _ : Unit => none) (J0_getBytes_840e7 this a1 a2 a3) [.ref this, va_rf a1, .int a2, .int a3] :=
  Cal.of (by decide) (cat_t (cat_q (cat_i (cat_i cat_nil)))) rfl (sn_weak (le_s (le_s (le_s (le_s le_e)))) (s_J0_getBytes_840e7 G this a1 a2 a3))
theorem cw_J0_getBytes_840e7 : CW yJ0_getBytes_840e7 cJ0_getBytes_840e7 4 none 3 := ⟨tw732, tw13, by decide, by decide +kernel⟩
/-! J5_putStringAt_47b60 -/
theorem dJ5_putStringAt_47b60_0 : decode cJ5_putStringAt_47b60 0 = .ok (.aload_n 0, 1) := by decide +kernel
theorem dJ5_putStringAt_47b60_1 : decode cJ5_putStringAt_47b60 1 = .ok (.aload_n 2, 1) := by decide +kernel
theorem dJ5_putStringAt_47b60_2 : decode cJ5_putStringAt_47b60 2 = .ok (.invokevirtual 397, 3) := by decide +kernel
theorem dJ5_putStringAt_47b60_5 : decode cJ5_putStringAt_47b60 5 = .ok (.aload_n 2, 1) := by decide +kernel
theorem dJ5_putStringAt_47b60_6 : decode cJ5_putStringAt_47b60 6 = .ok (.aload_n 0, 1) := by decide +kernel
theorem dJ5_putStringAt_47b60_7 : decode cJ5_putStringAt_47b60 7 = .ok (.getfield 15, 3) := by decide +kernel
theorem dJ5_putStringAt_47b60_10 : decode cJ5_putStringAt_47b60 10 = .ok (.iload_n 1, 1) := by decide +kernel
theorem dJ5_putStringAt_47b60_11 : decode cJ5_putStringAt_47b60 11 = .ok (.aload_n 0, 1) := by decide +kernel
theorem dJ5_putStringAt_47b60_12 : decode cJ5_putStringAt_47b60 12 = .ok (.getfield 22, 3) := by decide +kernel
theorem dJ5_putStringAt_47b60_15 : decode cJ5_putStringAt_47b60 15 = .ok (.invokevirtual 399, 3) := by decide +kernel
theorem dJ5_putStringAt_47b60_18 : decode cJ5_putStringAt_47b60 18 = .ok (.return_, 1) := by decide +kernel
def J5_putStringAt_47b60 (this : Nat) (a1 : Int32) (a2 : Option Nat) : MM Unit :=
  mb (wc 1 (some this) fun t => J5_inflateIfNeededFor_a7421 t a2) fun _ =>
  mb (gR 1 (some this) 0) fun v1 =>
  mb (gI 1 (some this) 1) fun v2 =>
  mb (wc 0 a2 fun t => J0_getBytes_840e7 t v1 a1 v2) fun _ =>
  mr ()
set_option maxRecDepth 100000 in
set_option maxHeartbeats 4000000 in
theorem s_J5_putStringAt_47b60 (G : GG) (this : Nat) (a1 : Int32) (a2 : Option Nat) : Sn G yJ5_putStringAt_47b60 cJ5_putStringAt_47b60 3 none 2 43 (fun _ : Unit => none) (J5_putStringAt_47b60 this a1 a2) 0 [some (va_rf (some this)), some (.int a1), some (va_rf a2)] [] := by
  unfold J5_putStringAt_47b60
  refine sn_aload_n (v := (some this)) (pc' := 1) dJ5_putStringAt_47b60_0 rfl rfl rfl ?_
  refine sn_aload_n (v := a2) (pc' := 2) dJ5_putStringAt_47b60_1 rfl rfl rfl ?_
  refine sn_cV (r := (some this)) (st := []) (As := [va_rf a2]) (st2 := (fun _ => [])) (pc' := 5) ci_1 (fun t => c_J5_inflateIfNeededFor_a7421 G t a2) cw_J5_inflateIfNeededFor_a7421 rfl rfl tw724 (gt_as 3 rfl (by decide +kernel)) tw726 rfl rfl cat_nil rfl (fun _ => rfl) dJ5_putStringAt_47b60_2 rfl (fun _ => ?_)
  refine sn_aload_n (v := a2) (pc' := 6) dJ5_putStringAt_47b60_5 rfl rfl rfl ?_
  refine sn_aload_n (v := (some this)) (pc' := 7) dJ5_putStringAt_47b60_6 rfl rfl rfl ?_
  refine sn_gR (k := 0) (pc' := 10) ci_1 rfl (Or.inl tw251) dJ5_putStringAt_47b60_7 rfl (fun v1 => ?_)
  refine sn_iload_n (v := a1) (pc' := 11) dJ5_putStringAt_47b60_10 rfl rfl rfl ?_
  refine sn_aload_n (v := (some this)) (pc' := 12) dJ5_putStringAt_47b60_11 rfl rfl rfl ?_
  refine sn_gI (k := 1) (pc' := 15) ci_1 rfl (Or.inl tw252) dJ5_putStringAt_47b60_12 rfl (fun v2 => ?_)
  refine sn_cV (r := a2) (st := []) (As := [va_rf v1, .int a1, .int v2]) (st2 := (fun _ => [])) (pc' := 18) ci_0 (fun t => c_J0_getBytes_840e7 G t v1 a1 v2) cw_J0_getBytes_840e7 rfl rfl tw729 tw731 tw730 rfl rfl cat_nil rfl (fun _ => rfl) dJ5_putStringAt_47b60_15 rfl (fun _ => ?_)
  exact sn_vret dJ5_putStringAt_47b60_18 rfl
theorem c_J5_putStringAt_47b60 (G : GG) (this : Nat) (a1 : Int32) (a2 : Option Nat) : Cal G yJ5_putStringAt_47b60 cJ5_putStringAt_47b60 3 none 2 43 (fun _ : Unit => none) (J5_putStringAt_47b60 this a1 a2) [.ref this, .int a1, va_rf a2] :=
  Cal.of (by decide) (cat_t (cat_i (cat_q cat_nil))) rfl (sn_weak (le_s (le_s (le_s le_e))) (s_J5_putStringAt_47b60 G this a1 a2))
theorem cw_J5_putStringAt_47b60 : CW yJ5_putStringAt_47b60 cJ5_putStringAt_47b60 3 none 2 := ⟨tw723, tw11, by decide, by decide +kernel⟩
/-! J5_append_cf1ce -/
theorem dJ5_append_cf1ce_0 : decode cJ5_append_cf1ce 0 = .ok (.aload_n 1, 1) := by decide +kernel
theorem dJ5_append_cf1ce_1 : decode cJ5_append_cf1ce 1 = .ok (.ifnonnull 8, 3) := by decide +kernel
theorem dJ5_append_cf1ce_9 : decode cJ5_append_cf1ce 9 = .ok (.aload_n 1, 1) := by decide +kernel
theorem dJ5_append_cf1ce_10 : decode cJ5_append_cf1ce 10 = .ok (.invokevirtual 32, 3) := by decide +kernel
theorem dJ5_append_cf1ce_13 : decode cJ5_append_cf1ce 13 = .ok (.istore_n 2, 1) := by decide +kernel
theorem dJ5_append_cf1ce_14 : decode cJ5_append_cf1ce 14 = .ok (.aload_n 0, 1) := by decide +kernel
theorem dJ5_append_cf1ce_15 : decode cJ5_append_cf1ce 15 = .ok (.aload_n 0, 1) := by decide +kernel
theorem dJ5_append_cf1ce_16 : decode cJ5_append_cf1ce 16 = .ok (.getfield 79, 3) := by decide +kernel
theorem dJ5_append_cf1ce_19 : decode cJ5_append_cf1ce 19 = .ok (.iload_n 2, 1) := by decide +kernel
theorem dJ5_append_cf1ce_20 : decode cJ5_append_cf1ce 20 = .ok (.iadd, 1) := by decide +kernel
theorem dJ5_append_cf1ce_21 : decode cJ5_append_cf1ce 21 = .ok (.invokevirtual 100, 3) := by decide +kernel
theorem dJ5_append_cf1ce_24 : decode cJ5_append_cf1ce 24 = .ok (.aload_n 0, 1) := by decide +kernel
theorem dJ5_append_cf1ce_25 : decode cJ5_append_cf1ce 25 = .ok (.aload_n 0, 1) := by decide +kernel
theorem dJ5_append_cf1ce_26 : decode cJ5_append_cf1ce 26 = .ok (.getfield 79, 3) := by decide +kernel
theorem dJ5_append_cf1ce_29 : decode cJ5_append_cf1ce 29 = .ok (.aload_n 1, 1) := by decide +kernel
theorem dJ5_append_cf1ce_30 : decode cJ5_append_cf1ce 30 = .ok (.invokevirtual 208, 3) := by decide +kernel
theorem dJ5_append_cf1ce_33 : decode cJ5_append_cf1ce 33 = .ok (.aload_n 0, 1) := by decide +kernel
theorem dJ5_append_cf1ce_34 : decode cJ5_append_cf1ce 34 = .ok (.dup, 1) := by decide +kernel
theorem dJ5_append_cf1ce_35 : decode cJ5_append_cf1ce 35 = .ok (.getfield 79, 3) := by decide +kernel
theorem dJ5_append_cf1ce_38 : decode cJ5_append_cf1ce 38 = .ok (.iload_n 2, 1) := by decide +kernel
theorem dJ5_append_cf1ce_39 : decode cJ5_append_cf1ce 39 = .ok (.iadd, 1) := by decide +kernel
theorem dJ5_append_cf1ce_40 : decode cJ5_append_cf1ce 40 = .ok (.putfield 79, 3) := by decide +kernel
theorem dJ5_append_cf1ce_43 : decode cJ5_append_cf1ce 43 = .ok (.aload_n 0, 1) := by decide +kernel
theorem dJ5_append_cf1ce_44 : decode cJ5_append_cf1ce 44 = .ok (.areturn, 1) := by decide +kernel
def J5_append_cf1ce (this : Nat) (a1 : Option Nat) : MM (Option Nat) :=
  if a1 = none then (mf) else (mb (wc 0 a1 fun t => J0_length_8abf5 t ) fun v1 =>
  mb (gI 1 (some this) 3) fun v2 =>
  mb (wc 1 (some this) fun t => J5_ensureCapacityInternal_d00df t (v2 + v1)) fun _ =>
  mb (gI 1 (some this) 3) fun v3 =>
  mb (wc 1 (some this) fun t => J5_putStringAt_47b60 t v3 a1) fun _ =>
  mb (gI 1 (some this) 3) fun v4 =>
  mb (pI 1 (some this) 3 (v4 + v1)) fun _ =>
  mr (some this))
set_option maxRecDepth 100000 in
set_option maxHeartbeats 4000000 in
theorem s_J5_append_cf1ce (G : GG) (this : Nat) (a1 : Option Nat) : Sn G yJ5_append_cf1ce cJ5_append_cf1ce 3 (some (FieldType.object "java/lang/AbstractStringBuilder")) 4 84 (fun v : Option Nat => some (va_rf v)) (J5_append_cf1ce this a1) 0 [some (va_rf (some this)), some (va_rf a1), none] [] := by
  unfold J5_append_cf1ce
  refine sn_aload_n (v := a1) (pc' := 1) dJ5_append_cf1ce_0 rfl rfl rfl ?_
  refine sn_ifnonnull (pt := 9) (pf := 4) dJ5_append_cf1ce_1 rfl rfl ?_ ?_
  · exact sn_mf
  · refine sn_aload_n (v := a1) (pc' := 10) dJ5_append_cf1ce_9 rfl rfl rfl ?_
    refine sn_cV (r := a1) (st := []) (As := []) (st2 := (fun v => .int v :: [])) (pc' := 13) ci_0 (fun t => c_J0_length_8abf5 G t ) cw_J0_length_8abf5 rfl rfl tw719 tw409 tw408 rfl rfl cat_nil rfl (fun _ => rfl) dJ5_append_cf1ce_10 rfl (fun v1 => ?_)
    refine sn_istore_n (v := v1) (L' := [some (va_rf (some this)), some (va_rf a1), some (.int v1)]) (pc' := 14) dJ5_append_cf1ce_13 rfl rfl rfl rfl ?_
    refine sn_aload_n (v := (some this)) (pc' := 15) dJ5_append_cf1ce_14 rfl rfl rfl ?_
    refine sn_aload_n (v := (some this)) (pc' := 16) dJ5_append_cf1ce_15 rfl rfl rfl ?_
    refine sn_gI (k := 3) (pc' := 19) ci_1 rfl (Or.inl tw255) dJ5_append_cf1ce_16 rfl (fun v2 => ?_)
    refine sn_iload_n (v := v1) (pc' := 20) dJ5_append_cf1ce_19 rfl rfl rfl ?_
    refine sn_iadd (pc' := 21) dJ5_append_cf1ce_20 rfl ?_
    refine sn_cV (r := (some this)) (st := []) (As := [.int (v2 + v1)]) (st2 := (fun _ => [])) (pc' := 24) ci_1 (fun t => c_J5_ensureCapacityInternal_d00df G t (v2 + v1)) cw_J5_ensureCapacityInternal_d00df rfl rfl tw595 (gt_as 0 rfl (by decide +kernel)) tw597 rfl rfl cat_nil rfl (fun _ => rfl) dJ5_append_cf1ce_21 rfl (fun _ => ?_)
    refine sn_aload_n (v := (some this)) (pc' := 25) dJ5_append_cf1ce_24 rfl rfl rfl ?_
    refine sn_aload_n (v := (some this)) (pc' := 26) dJ5_append_cf1ce_25 rfl rfl rfl ?_
    refine sn_gI (k := 3) (pc' := 29) ci_1 rfl (Or.inl tw255) dJ5_append_cf1ce_26 rfl (fun v3 => ?_)
    refine sn_aload_n (v := a1) (pc' := 30) dJ5_append_cf1ce_29 rfl rfl rfl ?_
    refine sn_cV (r := (some this)) (st := []) (As := [.int v3, va_rf a1]) (st2 := (fun _ => [])) (pc' := 33) ci_1 (fun t => c_J5_putStringAt_47b60 G t v3 a1) cw_J5_putStringAt_47b60 rfl rfl tw720 (gt_as 2 rfl (by decide +kernel)) tw722 rfl rfl cat_nil rfl (fun _ => rfl) dJ5_append_cf1ce_30 rfl (fun _ => ?_)
    refine sn_aload_n (v := (some this)) (pc' := 34) dJ5_append_cf1ce_33 rfl rfl rfl ?_
    refine sn_dup (pc' := 35) dJ5_append_cf1ce_34 rfl (cat_rf _) ?_
    refine sn_gI (k := 3) (pc' := 38) ci_1 rfl (Or.inl tw255) dJ5_append_cf1ce_35 rfl (fun v4 => ?_)
    refine sn_iload_n (v := v1) (pc' := 39) dJ5_append_cf1ce_38 rfl rfl rfl ?_
    refine sn_iadd (pc' := 40) dJ5_append_cf1ce_39 rfl ?_
    refine sn_pI (k := 3) (pc' := 43) ci_1 rfl (Or.inl tw255) (Or.inl rfl) rfl dJ5_append_cf1ce_40 rfl (fun _ => ?_)
    refine sn_aload_n (v := (some this)) (pc' := 44) dJ5_append_cf1ce_43 rfl rfl rfl ?_
    exact sn_aret dJ5_append_cf1ce_44 rfl (Or.inl ⟨_, rfl⟩)
theorem c_J5_append_cf1ce (G : GG) (this : Nat) (a1 : Option Nat) : Cal G yJ5_append_cf1ce cJ5_append_cf1ce 3 (some (FieldType.object "java/lang/AbstractStringBuilder")) 4 84 (fun v : Option Nat => some (va_rf v)) (J5_append_cf1ce this a1) [.ref this, va_rf a1] :=
  Cal.of (by decide) (cat_t (cat_q cat_nil)) rfl (sn_weak (le_s (le_s (le_z le_e))) (s_J5_append_cf1ce G this a1))
theorem cw_J5_append_cf1ce : CW yJ5_append_cf1ce cJ5_append_cf1ce 3 (some (FieldType.object "java/lang/AbstractStringBuilder")) 1 := ⟨tw711, tw11, by decide, by decide +kernel⟩
/-! J4_append_15ec4 -/
theorem dJ4_append_15ec4_0 : decode cJ4_append_15ec4 0 = .ok (.aload_n 0, 1) := by decide +kernel
theorem dJ4_append_15ec4_1 : decode cJ4_append_15ec4 1 = .ok (.aload_n 1, 1) := by decide +kernel
theorem dJ4_append_15ec4_2 : decode cJ4_append_15ec4 2 = .ok (.invokespecial 29, 3) := by decide +kernel
theorem dJ4_append_15ec4_5 : decode cJ4_append_15ec4 5 = .ok (.pop, 1) := by decide +kernel
theorem dJ4_append_15ec4_6 : decode cJ4_append_15ec4 6 = .ok (.aload_n 0, 1) := by decide +kernel
theorem dJ4_append_15ec4_7 : decode cJ4_append_15ec4 7 = .ok (.areturn, 1) := by decide +kernel
def J4_append_15ec4 (this : Nat) (a1 : Option Nat) : MM (Option Nat) :=
  mb (wc 1 (some this) fun t => J5_append_cf1ce t a1) fun v1 =>
  mr (some this)
set_option maxRecDepth 100000 in
set_option maxHeartbeats 4000000 in
theorem s_J4_append_15ec4 (G : GG) (this : Nat) (a1 : Option Nat) : Sn G yJ4_append_15ec4 cJ4_append_15ec4 2 (some (FieldType.object "java/lang/StringBuilder")) 5 106 (fun v : Option Nat => some (va_rf v)) (J4_append_15ec4 this a1) 0 [some (va_rf (some this)), some (va_rf a1)] [] := by
  unfold J4_append_15ec4
  refine sn_aload_n (v := (some this)) (pc' := 1) dJ4_append_15ec4_0 rfl rfl rfl ?_
  refine sn_aload_n (v := a1) (pc' := 2) dJ4_append_15ec4_1 rfl rfl rfl ?_
  refine sn_cU (r := (some this)) (st := []) (As := [va_rf a1]) (st2 := (fun v => va_rf v :: [])) (pc' := 5) ci_1 (fun t => c_J5_append_cf1ce G t a1) cw_J5_append_cf1ce rfl rfl tw709 tw1770 tw264 tw710 (by decide) rfl rfl cat_nil rfl (fun _ => rfl) dJ4_append_15ec4_2 rfl (fun v1 => ?_)
  refine sn_pop (pc' := 6) dJ4_append_15ec4_5 rfl (cat_rf _) ?_
  refine sn_aload_n (v := (some this)) (pc' := 7) dJ4_append_15ec4_6 rfl rfl rfl ?_
  exact sn_aret dJ4_append_15ec4_7 rfl (Or.inl ⟨_, rfl⟩)
theorem c_J4_append_15ec4 (G : GG) (this : Nat) (a1 : Option Nat) : Cal G yJ4_append_15ec4 cJ4_append_15ec4 2 (some (FieldType.object "java/lang/StringBuilder")) 5 106 (fun v : Option Nat => some (va_rf v)) (J4_append_15ec4 this a1) [.ref this, va_rf a1] :=
  Cal.of (by decide) (cat_t (cat_q cat_nil)) rfl (sn_weak (le_s (le_s le_e)) (s_J4_append_15ec4 G this a1))
theorem cw_J4_append_15ec4 : CW yJ4_append_15ec4 cJ4_append_15ec4 2 (some (FieldType.object "java/lang/StringBuilder")) 1 := ⟨tw708, tw12, by decide, by decide +kernel⟩
/-! J3_checkIndex_8e157 -/
theorem dJ3_checkIndex_8e157_0 : decode cJ3_checkIndex_8e157 0 = .ok (.iload_n 0, 1) := by decide +kernel
theorem dJ3_checkIndex_8e157_1 : decode cJ3_checkIndex_8e157 1 = .ok (.ifCond .lt 8, 3) := by decide +kernel
theorem dJ3_checkIndex_8e157_4 : decode cJ3_checkIndex_8e157 4 = .ok (.iload_n 0, 1) := by decide +kernel
theorem dJ3_checkIndex_8e157_5 : decode cJ3_checkIndex_8e157 5 = .ok (.iload_n 1, 1) := by decide +kernel
theorem dJ3_checkIndex_8e157_6 : decode cJ3_checkIndex_8e157 6 = .ok (.if_icmp .lt 10, 3) := by decide +kernel
theorem dJ3_checkIndex_8e157_16 : decode cJ3_checkIndex_8e157 16 = .ok (.iload_n 0, 1) := by decide +kernel
theorem dJ3_checkIndex_8e157_17 : decode cJ3_checkIndex_8e157 17 = .ok (.ireturn, 1) := by decide +kernel
def J3_checkIndex_8e157 (a0 : Int32) (a1 : Int32) (a2 : Option Nat) : MM Int32 :=
  if a0 < 0 then (mf) else (if a0 < a1 then (mr a0) else (mf))
set_option maxRecDepth 100000 in
set_option maxHeartbeats 4000000 in
theorem s_J3_checkIndex_8e157 (G : GG) (a0 : Int32) (a1 : Int32) (a2 : Option Nat) : Sn G yJ3_checkIndex_8e157 cJ3_checkIndex_8e157 3 (some FieldType.int) 0 0 (fun v : Int32 => some (.int v)) (J3_checkIndex_8e157 a0 a1 a2) 0 [some (.int a0), some (.int a1), some (va_rf a2)] [] := by
  unfold J3_checkIndex_8e157
  refine sn_iload_n (v := a0) (pc' := 1) dJ3_checkIndex_8e157_0 rfl rfl rfl ?_
  refine sn_if_lt (pt := 9) (pf := 4) dJ3_checkIndex_8e157_1 rfl rfl ?_ ?_
  · exact sn_mf
  · refine sn_iload_n (v := a0) (pc' := 5) dJ3_checkIndex_8e157_4 rfl rfl rfl ?_
    refine sn_iload_n (v := a1) (pc' := 6) dJ3_checkIndex_8e157_5 rfl rfl rfl ?_
    refine sn_ic_lt (pt := 16) (pf := 9) dJ3_checkIndex_8e157_6 rfl rfl ?_ ?_
    · refine sn_iload_n (v := a0) (pc' := 17) dJ3_checkIndex_8e157_16 rfl rfl rfl ?_
      exact sn_iret dJ3_checkIndex_8e157_17 rfl rfl
    · exact sn_mf
theorem c_J3_checkIndex_8e157 (G : GG) (a0 : Int32) (a1 : Int32) (a2 : Option Nat) : Cal G yJ3_checkIndex_8e157 cJ3_checkIndex_8e157 3 (some FieldType.int) 0 0 (fun v : Int32 => some (.int v)) (J3_checkIndex_8e157 a0 a1 a2) [.int a0, .int a1, va_rf a2] :=
  Cal.of (by decide) (cat_i (cat_i (cat_q cat_nil))) rfl (sn_weak (le_s (le_s (le_s le_e))) (s_J3_checkIndex_8e157 G a0 a1 a2))
theorem cw_J3_checkIndex_8e157 : CW yJ3_checkIndex_8e157 cJ3_checkIndex_8e157 3 (some FieldType.int) 3 := ⟨tw699, tw17, by decide, by decide +kernel⟩
/-! J0_checkIndex_df160 -/
theorem dJ0_checkIndex_df160_0 : decode cJ0_checkIndex_df160 0 = .ok (.iload_n 0, 1) := by decide +kernel
theorem dJ0_checkIndex_df160_1 : decode cJ0_checkIndex_df160 1 = .ok (.iload_n 1, 1) := by decide +kernel
theorem dJ0_checkIndex_df160_2 : decode cJ0_checkIndex_df160 2 = .ok (.getstatic 1053, 3) := by decide +kernel
theorem dJ0_checkIndex_df160_5 : decode cJ0_checkIndex_df160 5 = .ok (.invokestatic 1059, 3) := by decide +kernel
theorem dJ0_checkIndex_df160_8 : decode cJ0_checkIndex_df160 8 = .ok (.pop, 1) := by decide +kernel
theorem dJ0_checkIndex_df160_9 : decode cJ0_checkIndex_df160 9 = .ok (.return_, 1) := by decide +kernel
def J0_checkIndex_df160 (a0 : Int32) (a1 : Int32) : MM Unit :=
  mb (kR 22) fun v1 =>
  mb (J3_checkIndex_8e157 a0 a1 v1) fun v2 =>
  mr ()
set_option maxRecDepth 100000 in
set_option maxHeartbeats 4000000 in
theorem s_J0_checkIndex_df160 (G : GG) (a0 : Int32) (a1 : Int32) : Sn G yJ0_checkIndex_df160 cJ0_checkIndex_df160 2 none 1 22 (fun _ : Unit => none) (J0_checkIndex_df160 a0 a1) 0 [some (.int a0), some (.int a1)] [] := by
  unfold J0_checkIndex_df160
  refine sn_iload_n (v := a0) (pc' := 1) dJ0_checkIndex_df160_0 rfl rfl rfl ?_
  refine sn_iload_n (v := a1) (pc' := 2) dJ0_checkIndex_df160_1 rfl rfl rfl ?_
  refine sn_gsR (i := 22) (C := "jdk/internal/util/Preconditions") (nm := "SIOOBE_FORMATTER") (d := "Ljava/util/function/BiFunction;") (pc' := 5) (by decide +kernel) tw446 dJ0_checkIndex_df160_2 rfl (fun v1 => ?_)
  refine sn_cS (st := []) (As := [.int a0, .int a1, va_rf v1]) (st2 := (fun v => .int v :: [])) (pc' := 8) (c_J3_checkIndex_8e157 G a0 a1 v1) cw_J3_checkIndex_8e157 rfl rfl tw697 tw698 rfl rfl cat_nil rfl (fun _ => rfl) dJ0_checkIndex_df160_5 rfl (fun v2 => ?_)
  refine sn_pop (pc' := 9) dJ0_checkIndex_df160_8 rfl rfl ?_
  exact sn_vret dJ0_checkIndex_df160_9 rfl
theorem c_J0_checkIndex_df160 (G : GG) (a0 : Int32) (a1 : Int32) : Cal G yJ0_checkIndex_df160 cJ0_checkIndex_df160 2 none 1 22 (fun _ : Unit => none) (J0_checkIndex_df160 a0 a1) [.int a0, .int a1] :=
  Cal.of (by decide) (cat_i (cat_i cat_nil)) rfl (sn_weak (le_s (le_s le_e)) (s_J0_checkIndex_df160 G a0 a1))
theorem cw_J0_checkIndex_df160 : CW yJ0_checkIndex_df160 cJ0_checkIndex_df160 2 none 2 := ⟨tw696, tw13, by decide, by decide +kernel⟩
/-! J1_charAt_3b067 -/
theorem dJ1_charAt_3b067_0 : decode cJ1_charAt_3b067 0 = .ok (.iload_n 1, 1) := by decide +kernel
theorem dJ1_charAt_3b067_1 : decode cJ1_charAt_3b067 1 = .ok (.aload_n 0, 1) := by decide +kernel
theorem dJ1_charAt_3b067_2 : decode cJ1_charAt_3b067 2 = .ok (.arraylength, 1) := by decide +kernel
theorem dJ1_charAt_3b067_3 : decode cJ1_charAt_3b067 3 = .ok (.invokestatic 9, 3) := by decide +kernel
theorem dJ1_charAt_3b067_6 : decode cJ1_charAt_3b067 6 = .ok (.aload_n 0, 1) := by decide +kernel
theorem dJ1_charAt_3b067_7 : decode cJ1_charAt_3b067 7 = .ok (.iload_n 1, 1) := by decide +kernel
theorem dJ1_charAt_3b067_8 : decode cJ1_charAt_3b067 8 = .ok (.baload, 1) := by decide +kernel
theorem dJ1_charAt_3b067_9 : decode cJ1_charAt_3b067 9 = .ok (.sipush 255, 3) := by decide +kernel
theorem dJ1_charAt_3b067_12 : decode cJ1_charAt_3b067 12 = .ok (.iand, 1) := by decide +kernel
theorem dJ1_charAt_3b067_13 : decode cJ1_charAt_3b067 13 = .ok (.i2c, 1) := by decide +kernel
theorem dJ1_charAt_3b067_14 : decode cJ1_charAt_3b067 14 = .ok (.ireturn, 1) := by decide +kernel
def J1_charAt_3b067 (a0 : Option Nat) (a1 : Int32) : MM Int32 :=
  mb (aN a0) fun v1 =>
  mb (J0_checkIndex_df160 a1 v1) fun _ =>
  mb (aB a0 a1) fun v2 =>
  mb (ckI .char ((((v2 &&& (255 : Int32))).toUInt32 % 65536).toInt32)) fun v3 =>
  mr v3
set_option maxRecDepth 100000 in
set_option maxHeartbeats 4000000 in
theorem s_J1_charAt_3b067 (G : GG) (a0 : Option Nat) (a1 : Int32) : Sn G yJ1_charAt_3b067 cJ1_charAt_3b067 2 (some FieldType.char) 2 43 (fun v : Int32 => some (.int v)) (J1_charAt_3b067 a0 a1) 0 [some (va_rf a0), some (.int a1)] [] := by
  unfold J1_charAt_3b067
  refine sn_iload_n (v := a1) (pc' := 1) dJ1_charAt_3b067_0 rfl rfl rfl ?_
  refine sn_aload_n (v := a0) (pc' := 2) dJ1_charAt_3b067_1 rfl rfl rfl ?_
  refine sn_aN (pc' := 3) dJ1_charAt_3b067_2 rfl (fun v1 => ?_)
  refine sn_cS (st := []) (As := [.int a1, .int v1]) (st2 := (fun _ => [])) (pc' := 6) (c_J0_checkIndex_df160 G a1 v1) cw_J0_checkIndex_df160 rfl rfl tw745 tw695 rfl rfl cat_nil rfl (fun _ => rfl) dJ1_charAt_3b067_3 rfl (fun _ => ?_)
  refine sn_aload_n (v := a0) (pc' := 7) dJ1_charAt_3b067_6 rfl rfl rfl ?_
  refine sn_iload_n (v := a1) (pc' := 8) dJ1_charAt_3b067_7 rfl rfl rfl ?_
  refine sn_aB (pc' := 9) dJ1_charAt_3b067_8 rfl (fun v2 => ?_)
  refine sn_sipush (v := (255 : Int32)) (pc' := 12) dJ1_charAt_3b067_9 rfl (by decide) ?_
  refine sn_iand (pc' := 13) dJ1_charAt_3b067_12 rfl ?_
  refine sn_i2c (pc' := 14) dJ1_charAt_3b067_13 rfl ?_
  refine sn_ck (fun v3 hz => ?_)
  exact sn_iret dJ1_charAt_3b067_14 rfl hz
theorem c_J1_charAt_3b067 (G : GG) (a0 : Option Nat) (a1 : Int32) : Cal G yJ1_charAt_3b067 cJ1_charAt_3b067 2 (some FieldType.char) 2 43 (fun v : Int32 => some (.int v)) (J1_charAt_3b067 a0 a1) [va_rf a0, .int a1] :=
  Cal.of (by decide) (cat_q (cat_i cat_nil)) rfl (sn_weak (le_s (le_s le_e)) (s_J1_charAt_3b067 G a0 a1))
theorem cw_J1_charAt_3b067 : CW yJ1_charAt_3b067 cJ1_charAt_3b067 2 (some FieldType.char) 2 := ⟨tw744, tw16, by decide, by decide +kernel⟩
/-! J0_charAt_5068e -/
theorem dJ0_charAt_5068e_0 : decode cJ0_charAt_5068e 0 = .ok (.aload_n 0, 1) := by decide +kernel
theorem dJ0_charAt_5068e_1 : decode cJ0_charAt_5068e 1 = .ok (.invokevirtual 492, 3) := by decide +kernel
theorem dJ0_charAt_5068e_4 : decode cJ0_charAt_5068e 4 = .ok (.ifCond .eq 12, 3) := by decide +kernel
theorem dJ0_charAt_5068e_7 : decode cJ0_charAt_5068e 7 = .ok (.aload_n 0, 1) := by decide +kernel
theorem dJ0_charAt_5068e_8 : decode cJ0_charAt_5068e 8 = .ok (.getfield 9, 3) := by decide +kernel
theorem dJ0_charAt_5068e_11 : decode cJ0_charAt_5068e 11 = .ok (.iload_n 1, 1) := by decide +kernel
theorem dJ0_charAt_5068e_12 : decode cJ0_charAt_5068e 12 = .ok (.invokestatic 495, 3) := by decide +kernel
theorem dJ0_charAt_5068e_15 : decode cJ0_charAt_5068e 15 = .ok (.ireturn, 1) := by decide +kernel
def J0_charAt_5068e (this : Nat) (a1 : Int32) : MM Int32 :=
  mb (wc 0 (some this) fun t => J0_isLatin1_aae02 t ) fun v1 =>
  if v1 = 0 then (mf) else (mb (gR 0 (some this) 0) fun v2 =>
  mb (J1_charAt_3b067 v2 a1) fun v3 =>
  mb (ckI .char v3) fun v4 =>
  mr v4)
set_option maxRecDepth 100000 in
set_option maxHeartbeats 4000000 in
theorem s_J0_charAt_5068e (G : GG) (this : Nat) (a1 : Int32) : Sn G yJ0_charAt_5068e cJ0_charAt_5068e 2 (some FieldType.char) 3 64 (fun v : Int32 => some (.int v)) (J0_charAt_5068e this a1) 0 [some (va_rf (some this)), some (.int a1)] [] := by
  unfold J0_charAt_5068e
  refine sn_aload_n (v := (some this)) (pc' := 1) dJ0_charAt_5068e_0 rfl rfl rfl ?_
  refine sn_cV (r := (some this)) (st := []) (As := []) (st2 := (fun v => .int v :: [])) (pc' := 4) ci_0 (fun t => c_J0_isLatin1_aae02 G t ) cw_J0_isLatin1_aae02 rfl rfl tw402 tw404 tw403 rfl rfl cat_nil rfl (fun _ => rfl) dJ0_charAt_5068e_1 rfl (fun v1 => ?_)
  refine sn_if_eq (pt := 16) (pf := 7) dJ0_charAt_5068e_4 rfl rfl ?_ ?_
  · exact sn_mf
  · refine sn_aload_n (v := (some this)) (pc' := 8) dJ0_charAt_5068e_7 rfl rfl rfl ?_
    refine sn_gR (k := 0) (pc' := 11) ci_0 rfl (Or.inl tw830) dJ0_charAt_5068e_8 rfl (fun v2 => ?_)
    refine sn_iload_n (v := a1) (pc' := 12) dJ0_charAt_5068e_11 rfl rfl rfl ?_
    refine sn_cS (st := []) (As := [va_rf v2, .int a1]) (st2 := (fun v => .int v :: [])) (pc' := 15) (c_J1_charAt_3b067 G v2 a1) cw_J1_charAt_3b067 rfl rfl tw742 tw743 rfl rfl cat_nil rfl (fun _ => rfl) dJ0_charAt_5068e_12 rfl (fun v3 => ?_)
    refine sn_ck (fun v4 hz => ?_)
    exact sn_iret dJ0_charAt_5068e_15 rfl hz
theorem c_J0_charAt_5068e (G : GG) (this : Nat) (a1 : Int32) : Cal G yJ0_charAt_5068e cJ0_charAt_5068e 2 (some FieldType.char) 3 64 (fun v : Int32 => some (.int v)) (J0_charAt_5068e this a1) [.ref this, .int a1] :=
  Cal.of (by decide) (cat_t (cat_i cat_nil)) rfl (sn_weak (le_s (le_s le_e)) (s_J0_charAt_5068e G this a1))
theorem cw_J0_charAt_5068e : CW yJ0_charAt_5068e cJ0_charAt_5068e 2 (some FieldType.char) 1 := ⟨tw741, tw13, by decide, by decide +kernel⟩
/-! X9_writeSign -/
theorem dX9_writeSign_0 : decode cX9_writeSign 0 = .ok (.iload_n 1, 1) := by decide +kernel
theorem dX9_writeSign_1 : decode cX9_writeSign 1 = .ok (.ifCond .gt 16, 3) := by decide +kernel
theorem dX9_writeSign_4 : decode cX9_writeSign 4 = .ok (.aload_n 0, 1) := by decide +kernel
theorem dX9_writeSign_5 : decode cX9_writeSign 5 = .ok (.getfield 12, 3) := by decide +kernel
theorem dX9_writeSign_8 : decode cX9_writeSign 8 = .ok (.ldc 140, 2) := by decide +kernel
theorem dX9_writeSign_10 : decode cX9_writeSign 10 = .ok (.invokevirtual 116, 3) := by decide +kernel
theorem dX9_writeSign_13 : decode cX9_writeSign 13 = .ok (.pop, 1) := by decide +kernel
theorem dX9_writeSign_14 : decode cX9_writeSign 14 = .ok (.goto 73, 3) := by decide +kernel
theorem dX9_writeSign_17 : decode cX9_writeSign 17 = .ok (.iload_n 1, 1) := by decide +kernel
theorem dX9_writeSign_18 : decode cX9_writeSign 18 = .ok (.bipush 70, 2) := by decide +kernel
theorem dX9_writeSign_20 : decode cX9_writeSign 20 = .ok (.if_icmp .lt 16, 3) := by decide +kernel
theorem dX9_writeSign_23 : decode cX9_writeSign 23 = .ok (.aload_n 0, 1) := by decide +kernel
theorem dX9_writeSign_24 : decode cX9_writeSign 24 = .ok (.getfield 12, 3) := by decide +kernel
theorem dX9_writeSign_27 : decode cX9_writeSign 27 = .ok (.ldc 142, 2) := by decide +kernel
theorem dX9_writeSign_29 : decode cX9_writeSign 29 = .ok (.invokevirtual 116, 3) := by decide +kernel
theorem dX9_writeSign_32 : decode cX9_writeSign 32 = .ok (.pop, 1) := by decide +kernel
theorem dX9_writeSign_33 : decode cX9_writeSign 33 = .ok (.goto 54, 3) := by decide +kernel
theorem dX9_writeSign_36 : decode cX9_writeSign 36 = .ok (.iload_n 1, 1) := by decide +kernel
theorem dX9_writeSign_37 : decode cX9_writeSign 37 = .ok (.iconst 1, 1) := by decide +kernel
theorem dX9_writeSign_38 : decode cX9_writeSign 38 = .ok (.isub, 1) := by decide +kernel
theorem dX9_writeSign_39 : decode cX9_writeSign 39 = .ok (.ldc 144, 2) := by decide +kernel
theorem dX9_writeSign_41 : decode cX9_writeSign 41 = .ok (.invokevirtual 146, 3) := by decide +kernel
theorem dX9_writeSign_44 : decode cX9_writeSign 44 = .ok (.irem, 1) := by decide +kernel
theorem dX9_writeSign_45 : decode cX9_writeSign 45 = .ok (.istore_n 2, 1) := by decide +kernel
theorem dX9_writeSign_46 : decode cX9_writeSign 46 = .ok (.iload_n 1, 1) := by decide +kernel
theorem dX9_writeSign_47 : decode cX9_writeSign 47 = .ok (.iconst 1, 1) := by decide +kernel
theorem dX9_writeSign_48 : decode cX9_writeSign 48 = .ok (.isub, 1) := by decide +kernel
theorem dX9_writeSign_49 : decode cX9_writeSign 49 = .ok (.ldc 144, 2) := by decide +kernel
theorem dX9_writeSign_51 : decode cX9_writeSign 51 = .ok (.invokevirtual 146, 3) := by decide +kernel
theorem dX9_writeSign_54 : decode cX9_writeSign 54 = .ok (.idiv, 1) := by decide +kernel
theorem dX9_writeSign_55 : decode cX9_writeSign 55 = .ok (.iconst 1, 1) := by decide +kernel
theorem dX9_writeSign_56 : decode cX9_writeSign 56 = .ok (.iadd, 1) := by decide +kernel
theorem dX9_writeSign_57 : decode cX9_writeSign 57 = .ok (.istore_n 3, 1) := by decide +kernel
theorem dX9_writeSign_58 : decode cX9_writeSign 58 = .ok (.iconst 0, 1) := by decide +kernel
theorem dX9_writeSign_59 : decode cX9_writeSign 59 = .ok (.istore 4, 2) := by decide +kernel
theorem dX9_writeSign_61 : decode cX9_writeSign 61 = .ok (.iload 4, 2) := by decide +kernel
theorem dX9_writeSign_63 : decode cX9_writeSign 63 = .ok (.iload_n 3, 1) := by decide +kernel
theorem dX9_writeSign_64 : decode cX9_writeSign 64 = .ok (.if_icmp .ge 23, 3) := by decide +kernel
theorem dX9_writeSign_67 : decode cX9_writeSign 67 = .ok (.aload_n 0, 1) := by decide +kernel
theorem dX9_writeSign_68 : decode cX9_writeSign 68 = .ok (.getfield 12, 3) := by decide +kernel
theorem dX9_writeSign_71 : decode cX9_writeSign 71 = .ok (.ldc 144, 2) := by decide +kernel
theorem dX9_writeSign_73 : decode cX9_writeSign 73 = .ok (.iload_n 2, 1) := by decide +kernel
theorem dX9_writeSign_74 : decode cX9_writeSign 74 = .ok (.invokevirtual 149, 3) := by decide +kernel
theorem dX9_writeSign_77 : decode cX9_writeSign 77 = .ok (.invokevirtual 76, 3) := by decide +kernel
theorem dX9_writeSign_80 : decode cX9_writeSign 80 = .ok (.pop, 1) := by decide +kernel
theorem dX9_writeSign_81 : decode cX9_writeSign 81 = .ok (.iinc 4 1, 3) := by decide +kernel
theorem dX9_writeSign_84 : decode cX9_writeSign 84 = .ok (.goto (-23), 3) := by decide +kernel
theorem dX9_writeSign_87 : decode cX9_writeSign 87 = .ok (.return_, 1) := by decide +kernel
def X9_writeSign_61_st  (k61 : Nat → Int32 → Int32 → Int32 → MM Unit) (this : Nat) (x2 : Int32) (x3 : Int32) (x4 : Int32) : MM Unit :=
  if x3 ≤ x4 then (mr ()) else (mb (gR 10 (some this) 0) fun v1 =>
  mb (kR 3) fun v2 =>
  mb (wc 0 v2 fun t => J0_charAt_5068e t x2) fun v3 =>
  mb (wc 1 v1 fun t => J4_append_cf468 t v3) fun v4 =>
  (k61 this x2 x3 (x4 + (1 : Int32))))
def X9_writeSign_61  : Nat → Nat → Int32 → Int32 → Int32 → MM Unit
  | 0 => fun _ _ _ _ => mf
  | n + 1 => fun this x2 x3 x4 => X9_writeSign_61_st  (X9_writeSign_61  n) this x2 x3 x4
def X9_writeSign (this : Nat) (a1 : Int32) : MM Unit :=
  if 0 < a1 then (if a1 < (70 : Int32) then (mb (kR 3) fun v1 =>
  mb (wc 0 v1 fun t => J0_length_8abf5 t ) fun v2 =>
  mb (rI (a1 - (1 : Int32)) v2) fun v3 =>
  mb (kR 3) fun v4 =>
  mb (wc 0 v4 fun t => J0_length_8abf5 t ) fun v5 =>
  mb (dI (a1 - (1 : Int32)) v5) fun v6 =>
  (X9_writeSign_61 LFU this v3 (v6 + (1 : Int32)) (0 : Int32))) else (mb (gR 10 (some this) 0) fun v7 =>
  mb (kR 2) fun v8 =>
  mb (wc 1 v7 fun t => J4_append_15ec4 t v8) fun v9 =>
  mr ())) else (mb (gR 10 (some this) 0) fun v10 =>
  mb (kR 1) fun v11 =>
  mb (wc 1 v10 fun t => J4_append_15ec4 t v11) fun v12 =>
  mr ())
set_option maxRecDepth 100000 in
set_option maxHeartbeats 4000000 in
theorem s_X9_writeSign_61_st (G : GG)   (k61 : Nat → Int32 → Int32 → Int32 → MM Unit) (hk61 : ∀ (this : Nat) (x2 : Int32) (x3 : Int32) (x4 : Int32), Sn G yX9_writeSign cX9_writeSign 5 none 6 127 (fun _ : Unit => none) (k61 this x2 x3 x4) 61 [some (va_rf (some this)), none, some (.int x2), some (.int x3), some (.int x4)] []) (this : Nat) (x2 : Int32) (x3 : Int32) (x4 : Int32) : Sn G yX9_writeSign cX9_writeSign 5 none 6 127 (fun _ : Unit => none) (X9_writeSign_61_st  k61 this x2 x3 x4) 61 [some (va_rf (some this)), none, some (.int x2), some (.int x3), some (.int x4)] [] := by
  unfold X9_writeSign_61_st
  refine sn_iload (v := x4) (pc' := 63) dX9_writeSign_61 rfl rfl ?_
  refine sn_iload_n (v := x3) (pc' := 64) dX9_writeSign_63 rfl rfl rfl ?_
  refine sn_ic_ge (pt := 87) (pf := 67) dX9_writeSign_64 rfl rfl ?_ ?_
  · exact sn_vret dX9_writeSign_87 rfl
  · refine sn_aload_n (v := (some this)) (pc' := 68) dX9_writeSign_67 rfl rfl rfl ?_
    refine sn_gR (k := 0) (pc' := 71) ci_10 rfl (Or.inl tw265) dX9_writeSign_68 rfl (fun v1 => ?_)
    refine sn_kS (i := 3) (pc' := 73) (tx := "abcdefghiklmnopqrstvxyz") (by decide +kernel) dX9_writeSign_71 rfl (fun v2 => ?_)
    refine sn_iload_n (v := x2) (pc' := 74) dX9_writeSign_73 rfl rfl rfl ?_
    refine sn_cV (r := v2) (st := [va_rf v1]) (As := [.int x2]) (st2 := (fun v => .int v :: [va_rf v1])) (pc' := 77) ci_0 (fun t => c_J0_charAt_5068e G t x2) cw_J0_charAt_5068e rfl rfl tw738 tw740 tw739 rfl rfl (cat_q cat_nil) rfl (fun _ => rfl) dX9_writeSign_74 rfl (fun v3 => ?_)
    refine sn_cV (r := v1) (st := []) (As := [.int v3]) (st2 := (fun v => va_rf v :: [])) (pc' := 80) ci_1 (fun t => c_J4_append_cf468 G t v3) cw_J4_append_cf468 rfl rfl tw656 tw658 tw657 rfl rfl cat_nil rfl (fun _ => rfl) dX9_writeSign_77 rfl (fun v4 => ?_)
    refine sn_pop (pc' := 81) dX9_writeSign_80 rfl (cat_rf _) ?_
    refine sn_iinc (v := x4) (w := 1) (L' := [some (va_rf (some this)), none, some (.int x2), some (.int x3), some (.int (x4 + (1 : Int32)))]) (pc' := 84) dX9_writeSign_81 rfl rfl rfl (by decide) rfl ?_
    refine sn_goto (pc' := 61) dX9_writeSign_84 rfl ?_
    exact sn_weak (le_s (le_n (le_s (le_s (le_s le_e))))) (hk61 this x2 x3 (x4 + (1 : Int32)))
set_option maxRecDepth 100000 in
set_option maxHeartbeats 4000000 in
theorem s_X9_writeSign_61 (G : GG)   : ∀ (n : Nat) (this : Nat) (x2 : Int32) (x3 : Int32) (x4 : Int32), Sn G yX9_writeSign cX9_writeSign 5 none 6 127 (fun _ : Unit => none) (X9_writeSign_61  n this x2 x3 x4) 61 [some (va_rf (some this)), none, some (.int x2), some (.int x3), some (.int x4)] [] := by
  intro n
  induction n with
  | zero => intro this x2 x3 x4; exact sn_mf
  | succ n ih => intro this x2 x3 x4; exact s_X9_writeSign_61_st G   (X9_writeSign_61  n) ih this x2 x3 x4
set_option maxRecDepth 100000 in
set_option maxHeartbeats 4000000 in
theorem s_X9_writeSign (G : GG) (this : Nat) (a1 : Int32) : Sn G yX9_writeSign cX9_writeSign 5 none 6 127 (fun _ : Unit => none) (X9_writeSign this a1) 0 [some (va_rf (some this)), some (.int a1), none, none, none] [] := by
  unfold X9_writeSign
  refine sn_iload_n (v := a1) (pc' := 1) dX9_writeSign_0 rfl rfl rfl ?_
  refine sn_if_gt (pt := 17) (pf := 4) dX9_writeSign_1 rfl rfl ?_ ?_
  · refine sn_iload_n (v := a1) (pc' := 18) dX9_writeSign_17 rfl rfl rfl ?_
    refine sn_bipush (v := (70 : Int32)) (pc' := 20) dX9_writeSign_18 rfl (by decide) ?_
    refine sn_ic_lt (pt := 36) (pf := 23) dX9_writeSign_20 rfl rfl ?_ ?_
    · refine sn_iload_n (v := a1) (pc' := 37) dX9_writeSign_36 rfl rfl rfl ?_
      refine sn_iconst (v := (1 : Int32)) (pc' := 38) dX9_writeSign_37 rfl (by decide) ?_
      refine sn_isub (pc' := 39) dX9_writeSign_38 rfl ?_
      refine sn_kS (i := 3) (pc' := 41) (tx := "abcdefghiklmnopqrstvxyz") (by decide +kernel) dX9_writeSign_39 rfl (fun v1 => ?_)
      refine sn_cV (r := v1) (st := [.int (a1 - (1 : Int32))]) (As := []) (st2 := (fun v => .int v :: [.int (a1 - (1 : Int32))])) (pc' := 44) ci_0 (fun t => c_J0_length_8abf5 G t ) cw_J0_length_8abf5 rfl rfl tw737 tw409 tw408 rfl rfl (cat_i cat_nil) rfl (fun _ => rfl) dX9_writeSign_41 rfl (fun v2 => ?_)
      refine sn_rI (pc' := 45) dX9_writeSign_44 rfl (fun v3 => ?_)
      refine sn_istore_n (v := v3) (L' := [some (va_rf (some this)), some (.int a1), some (.int v3), none, none]) (pc' := 46) dX9_writeSign_45 rfl rfl rfl rfl ?_
      refine sn_iload_n (v := a1) (pc' := 47) dX9_writeSign_46 rfl rfl rfl ?_
      refine sn_iconst (v := (1 : Int32)) (pc' := 48) dX9_writeSign_47 rfl (by decide) ?_
      refine sn_isub (pc' := 49) dX9_writeSign_48 rfl ?_
      refine sn_kS (i := 3) (pc' := 51) (tx := "abcdefghiklmnopqrstvxyz") (by decide +kernel) dX9_writeSign_49 rfl (fun v4 => ?_)
      refine sn_cV (r := v4) (st := [.int (a1 - (1 : Int32))]) (As := []) (st2 := (fun v => .int v :: [.int (a1 - (1 : Int32))])) (pc' := 54) ci_0 (fun t => c_J0_length_8abf5 G t ) cw_J0_length_8abf5 rfl rfl tw737 tw409 tw408 rfl rfl (cat_i cat_nil) rfl (fun _ => rfl) dX9_writeSign_51 rfl (fun v5 => ?_)
      refine sn_dI (pc' := 55) dX9_writeSign_54 rfl (fun v6 => ?_)
      refine sn_iconst (v := (1 : Int32)) (pc' := 56) dX9_writeSign_55 rfl (by decide) ?_
      refine sn_iadd (pc' := 57) dX9_writeSign_56 rfl ?_
      refine sn_istore_n (v := (v6 + (1 : Int32))) (L' := [some (va_rf (some this)), some (.int a1), some (.int v3), some (.int (v6 + (1 : Int32))), none]) (pc' := 58) dX9_writeSign_57 rfl rfl rfl rfl ?_
      refine sn_iconst (v := (0 : Int32)) (pc' := 59) dX9_writeSign_58 rfl (by decide) ?_
      refine sn_istore (v := (0 : Int32)) (L' := [some (va_rf (some this)), some (.int a1), some (.int v3), some (.int (v6 + (1 : Int32))), some (.int (0 : Int32))]) (pc' := 61) dX9_writeSign_59 rfl rfl rfl ?_
      exact sn_weak (le_s (le_n (le_s (le_s (le_s le_e))))) (s_X9_writeSign_61 G LFU this v3 (v6 + (1 : Int32)) (0 : Int32))
    · refine sn_aload_n (v := (some this)) (pc' := 24) dX9_writeSign_23 rfl rfl rfl ?_
      refine sn_gR (k := 0) (pc' := 27) ci_10 rfl (Or.inl tw265) dX9_writeSign_24 rfl (fun v7 => ?_)
      refine sn_kS (i := 2) (pc' := 29) (tx := "chi") (by decide +kernel) dX9_writeSign_27 rfl (fun v8 => ?_)
      refine sn_cV (r := v7) (st := []) (As := [va_rf v8]) (st2 := (fun v => va_rf v :: [])) (pc' := 32) ci_1 (fun t => c_J4_append_15ec4 G t v8) cw_J4_append_15ec4 rfl rfl tw705 tw707 tw706 rfl rfl cat_nil rfl (fun _ => rfl) dX9_writeSign_29 rfl (fun v9 => ?_)
      refine sn_pop (pc' := 33) dX9_writeSign_32 rfl (cat_rf _) ?_
      refine sn_goto (pc' := 87) dX9_writeSign_33 rfl ?_
      exact sn_vret dX9_writeSign_87 rfl
  · refine sn_aload_n (v := (some this)) (pc' := 5) dX9_writeSign_4 rfl rfl rfl ?_
    refine sn_gR (k := 0) (pc' := 8) ci_10 rfl (Or.inl tw265) dX9_writeSign_5 rfl (fun v10 => ?_)
    refine sn_kS (i := 1) (pc' := 10) (tx := "pi") (by decide +kernel) dX9_writeSign_8 rfl (fun v11 => ?_)
    refine sn_cV (r := v10) (st := []) (As := [va_rf v11]) (st2 := (fun v => va_rf v :: [])) (pc' := 13) ci_1 (fun t => c_J4_append_15ec4 G t v11) cw_J4_append_15ec4 rfl rfl tw705 tw707 tw706 rfl rfl cat_nil rfl (fun _ => rfl) dX9_writeSign_10 rfl (fun v12 => ?_)
    refine sn_pop (pc' := 14) dX9_writeSign_13 rfl (cat_rf _) ?_
    refine sn_goto (pc' := 87) dX9_writeSign_14 rfl ?_
    exact sn_vret dX9_writeSign_87 rfl
theorem c_X9_writeSign (G : GG) (this : Nat) (a1 : Int32) : Cal G yX9_writeSign cX9_writeSign 5 none 6 127 (fun _ : Unit => none) (X9_writeSign this a1) [.ref this, .int a1] :=
  Cal.of (by decide) (cat_t (cat_i cat_nil)) rfl (sn_weak (le_s (le_s (le_z (le_z (le_z le_e))))) (s_X9_writeSign G this a1))
theorem cw_X9_writeSign : CW yX9_writeSign cX9_writeSign 5 none 1 := ⟨tw703, tw10, by decide, by decide +kernel⟩
/-! J6_stringSize_0f7a4 -/
theorem dJ6_stringSize_0f7a4_0 : decode cJ6_stringSize_0f7a4 0 = .ok (.iconst 1, 1) := by decide +kernel
theorem dJ6_stringSize_0f7a4_1 : decode cJ6_stringSize_0f7a4 1 = .ok (.istore_n 1, 1) := by decide +kernel
theorem dJ6_stringSize_0f7a4_2 : decode cJ6_stringSize_0f7a4 2 = .ok (.iload_n 0, 1) := by decide +kernel
theorem dJ6_stringSize_0f7a4_3 : decode cJ6_stringSize_0f7a4 3 = .ok (.ifCond .lt 8, 3) := by decide +kernel
theorem dJ6_stringSize_0f7a4_6 : decode cJ6_stringSize_0f7a4 6 = .ok (.iconst 0, 1) := by decide +kernel
theorem dJ6_stringSize_0f7a4_7 : decode cJ6_stringSize_0f7a4 7 = .ok (.istore_n 1, 1) := by decide +kernel
theorem dJ6_stringSize_0f7a4_8 : decode cJ6_stringSize_0f7a4 8 = .ok (.iload_n 0, 1) := by decide +kernel
theorem dJ6_stringSize_0f7a4_9 : decode cJ6_stringSize_0f7a4 9 = .ok (.ineg, 1) := by decide +kernel
theorem dJ6_stringSize_0f7a4_10 : decode cJ6_stringSize_0f7a4 10 = .ok (.istore_n 0, 1) := by decide +kernel
theorem dJ6_stringSize_0f7a4_11 : decode cJ6_stringSize_0f7a4 11 = .ok (.bipush (-10), 2) := by decide +kernel
theorem dJ6_stringSize_0f7a4_13 : decode cJ6_stringSize_0f7a4 13 = .ok (.istore_n 2, 1) := by decide +kernel
theorem dJ6_stringSize_0f7a4_14 : decode cJ6_stringSize_0f7a4 14 = .ok (.iconst 1, 1) := by decide +kernel
theorem dJ6_stringSize_0f7a4_15 : decode cJ6_stringSize_0f7a4 15 = .ok (.istore_n 3, 1) := by decide +kernel
theorem dJ6_stringSize_0f7a4_16 : decode cJ6_stringSize_0f7a4 16 = .ok (.iload_n 3, 1) := by decide +kernel
theorem dJ6_stringSize_0f7a4_17 : decode cJ6_stringSize_0f7a4 17 = .ok (.bipush 10, 2) := by decide +kernel
theorem dJ6_stringSize_0f7a4_19 : decode cJ6_stringSize_0f7a4 19 = .ok (.if_icmp .ge 23, 3) := by decide +kernel
theorem dJ6_stringSize_0f7a4_22 : decode cJ6_stringSize_0f7a4 22 = .ok (.iload_n 0, 1) := by decide +kernel
theorem dJ6_stringSize_0f7a4_23 : decode cJ6_stringSize_0f7a4 23 = .ok (.iload_n 2, 1) := by decide +kernel
theorem dJ6_stringSize_0f7a4_24 : decode cJ6_stringSize_0f7a4 24 = .ok (.if_icmp .le 7, 3) := by decide +kernel
theorem dJ6_stringSize_0f7a4_27 : decode cJ6_stringSize_0f7a4 27 = .ok (.iload_n 3, 1) := by decide +kernel
theorem dJ6_stringSize_0f7a4_28 : decode cJ6_stringSize_0f7a4 28 = .ok (.iload_n 1, 1) := by decide +kernel
theorem dJ6_stringSize_0f7a4_29 : decode cJ6_stringSize_0f7a4 29 = .ok (.iadd, 1) := by decide +kernel
theorem dJ6_stringSize_0f7a4_30 : decode cJ6_stringSize_0f7a4 30 = .ok (.ireturn, 1) := by decide +kernel
theorem dJ6_stringSize_0f7a4_31 : decode cJ6_stringSize_0f7a4 31 = .ok (.bipush 10, 2) := by decide +kernel
theorem dJ6_stringSize_0f7a4_33 : decode cJ6_stringSize_0f7a4 33 = .ok (.iload_n 2, 1) := by decide +kernel
theorem dJ6_stringSize_0f7a4_34 : decode cJ6_stringSize_0f7a4 34 = .ok (.imul, 1) := by decide +kernel
theorem dJ6_stringSize_0f7a4_35 : decode cJ6_stringSize_0f7a4 35 = .ok (.istore_n 2, 1) := by decide +kernel
theorem dJ6_stringSize_0f7a4_36 : decode cJ6_stringSize_0f7a4 36 = .ok (.iinc 3 1, 3) := by decide +kernel
theorem dJ6_stringSize_0f7a4_39 : decode cJ6_stringSize_0f7a4 39 = .ok (.goto (-23), 3) := by decide +kernel
theorem dJ6_stringSize_0f7a4_42 : decode cJ6_stringSize_0f7a4 42 = .ok (.bipush 10, 2) := by decide +kernel
theorem dJ6_stringSize_0f7a4_44 : decode cJ6_stringSize_0f7a4 44 = .ok (.iload_n 1, 1) := by decide +kernel
theorem dJ6_stringSize_0f7a4_45 : decode cJ6_stringSize_0f7a4 45 = .ok (.iadd, 1) := by decide +kernel
theorem dJ6_stringSize_0f7a4_46 : decode cJ6_stringSize_0f7a4 46 = .ok (.ireturn, 1) := by decide +kernel
def J6_stringSize_0f7a4_16_st  (k16 : Int32 → Int32 → Int32 → Int32 → MM Int32) (x0 : Int32) (x1 : Int32) (x2 : Int32) (x3 : Int32) : MM Int32 :=
  if (10 : Int32) ≤ x3 then (mr ((10 : Int32) + x1)) else (if x0 ≤ x2 then ((k16 x0 x1 ((10 : Int32) * x2) (x3 + (1 : Int32)))) else (mr (x3 + x1)))
def J6_stringSize_0f7a4_16  : Nat → Int32 → Int32 → Int32 → Int32 → MM Int32
  | 0 => fun _ _ _ _ => mf
  | n + 1 => fun x0 x1 x2 x3 => J6_stringSize_0f7a4_16_st  (J6_stringSize_0f7a4_16  n) x0 x1 x2 x3
def J6_stringSize_0f7a4_11  (x0 : Int32) (x1 : Int32) : MM Int32 :=
  (J6_stringSize_0f7a4_16 LFU x0 x1 (-10 : Int32) (1 : Int32))
def J6_stringSize_0f7a4 (a0 : Int32) : MM Int32 :=
  if a0 < 0 then ((J6_stringSize_0f7a4_11 a0 (1 : Int32))) else ((J6_stringSize_0f7a4_11 (-a0) (0 : Int32)))
set_option maxRecDepth 100000 in
set_option maxHeartbeats 4000000 in
theorem s_J6_stringSize_0f7a4_16_st (G : GG)   (k16 : Int32 → Int32 → Int32 → Int32 → MM Int32) (hk16 : ∀ (x0 : Int32) (x1 : Int32) (x2 : Int32) (x3 : Int32), Sn G yJ6_stringSize_0f7a4 cJ6_stringSize_0f7a4 4 (some FieldType.int) 0 0 (fun v : Int32 => some (.int v)) (k16 x0 x1 x2 x3) 16 [some (.int x0), some (.int x1), some (.int x2), some (.int x3)] []) (x0 : Int32) (x1 : Int32) (x2 : Int32) (x3 : Int32) : Sn G yJ6_stringSize_0f7a4 cJ6_stringSize_0f7a4 4 (some FieldType.int) 0 0 (fun v : Int32 => some (.int v)) (J6_stringSize_0f7a4_16_st  k16 x0 x1 x2 x3) 16 [some (.int x0), some (.int x1), some (.int x2), some (.int x3)] [] := by
  unfold J6_stringSize_0f7a4_16_st
  refine sn_iload_n (v := x3) (pc' := 17) dJ6_stringSize_0f7a4_16 rfl rfl rfl ?_
  refine sn_bipush (v := (10 : Int32)) (pc' := 19) dJ6_stringSize_0f7a4_17 rfl (by decide) ?_
  refine sn_ic_ge (pt := 42) (pf := 22) dJ6_stringSize_0f7a4_19 rfl rfl ?_ ?_
  · refine sn_bipush (v := (10 : Int32)) (pc' := 44) dJ6_stringSize_0f7a4_42 rfl (by decide) ?_
    refine sn_iload_n (v := x1) (pc' := 45) dJ6_stringSize_0f7a4_44 rfl rfl rfl ?_
    refine sn_iadd (pc' := 46) dJ6_stringSize_0f7a4_45 rfl ?_
    exact sn_iret dJ6_stringSize_0f7a4_46 rfl rfl
  · refine sn_iload_n (v := x0) (pc' := 23) dJ6_stringSize_0f7a4_22 rfl rfl rfl ?_
    refine sn_iload_n (v := x2) (pc' := 24) dJ6_stringSize_0f7a4_23 rfl rfl rfl ?_
    refine sn_ic_le (pt := 31) (pf := 27) dJ6_stringSize_0f7a4_24 rfl rfl ?_ ?_
    · refine sn_bipush (v := (10 : Int32)) (pc' := 33) dJ6_stringSize_0f7a4_31 rfl (by decide) ?_
      refine sn_iload_n (v := x2) (pc' := 34) dJ6_stringSize_0f7a4_33 rfl rfl rfl ?_
      refine sn_imul (pc' := 35) dJ6_stringSize_0f7a4_34 rfl ?_
      refine sn_istore_n (v := ((10 : Int32) * x2)) (L' := [some (.int x0), some (.int x1), some (.int ((10 : Int32) * x2)), some (.int x3)]) (pc' := 36) dJ6_stringSize_0f7a4_35 rfl rfl rfl rfl ?_
      refine sn_iinc (v := x3) (w := 1) (L' := [some (.int x0), some (.int x1), some (.int ((10 : Int32) * x2)), some (.int (x3 + (1 : Int32)))]) (pc' := 39) dJ6_stringSize_0f7a4_36 rfl rfl rfl (by decide) rfl ?_
      refine sn_goto (pc' := 16) dJ6_stringSize_0f7a4_39 rfl ?_
      exact sn_weak (le_s (le_s (le_s (le_s le_e)))) (hk16 x0 x1 ((10 : Int32) * x2) (x3 + (1 : Int32)))
    · refine sn_iload_n (v := x3) (pc' := 28) dJ6_stringSize_0f7a4_27 rfl rfl rfl ?_
      refine sn_iload_n (v := x1) (pc' := 29) dJ6_stringSize_0f7a4_28 rfl rfl rfl ?_
      refine sn_iadd (pc' := 30) dJ6_stringSize_0f7a4_29 rfl ?_
      exact sn_iret dJ6_stringSize_0f7a4_30 rfl rfl
set_option maxRecDepth 100000 in
set_option maxHeartbeats 4000000 in
theorem s_J6_stringSize_0f7a4_16 (G : GG)   : ∀ (n : Nat) (x0 : Int32) (x1 : Int32) (x2 : Int32) (x3 : Int32), Sn G yJ6_stringSize_0f7a4 cJ6_stringSize_0f7a4 4 (some FieldType.int) 0 0 (fun v : Int32 => some (.int v)) (J6_stringSize_0f7a4_16  n x0 x1 x2 x3) 16 [some (.int x0), some (.int x1), some (.int x2), some (.int x3)] [] := by
  intro n
  induction n with
  | zero => intro x0 x1 x2 x3; exact sn_mf
  | succ n ih => intro x0 x1 x2 x3; exact s_J6_stringSize_0f7a4_16_st G   (J6_stringSize_0f7a4_16  n) ih x0 x1 x2 x3
set_option maxRecDepth 100000 in
set_option maxHeartbeats 4000000 in
theorem s_J6_stringSize_0f7a4_11 (G : GG)   (x0 : Int32) (x1 : Int32) : Sn G yJ6_stringSize_0f7a4 cJ6_stringSize_0f7a4 4 (some FieldType.int) 0 0 (fun v : Int32 => some (.int v)) (J6_stringSize_0f7a4_11  x0 x1) 11 [some (.int x0), some (.int x1), none, none] [] := by
  unfold J6_stringSize_0f7a4_11
  refine sn_bipush (v := (-10 : Int32)) (pc' := 13) dJ6_stringSize_0f7a4_11 rfl (by decide) ?_
  refine sn_istore_n (v := (-10 : Int32)) (L' := [some (.int x0), some (.int x1), some (.int (-10 : Int32)), none]) (pc' := 14) dJ6_stringSize_0f7a4_13 rfl rfl rfl rfl ?_
  refine sn_iconst (v := (1 : Int32)) (pc' := 15) dJ6_stringSize_0f7a4_14 rfl (by decide) ?_
  refine sn_istore_n (v := (1 : Int32)) (L' := [some (.int x0), some (.int x1), some (.int (-10 : Int32)), some (.int (1 : Int32))]) (pc' := 16) dJ6_stringSize_0f7a4_15 rfl rfl rfl rfl ?_
  exact sn_weak (le_s (le_s (le_s (le_s le_e)))) (s_J6_stringSize_0f7a4_16 G LFU x0 x1 (-10 : Int32) (1 : Int32))
set_option maxRecDepth 100000 in
set_option maxHeartbeats 4000000 in
theorem s_J6_stringSize_0f7a4 (G : GG) (a0 : Int32) : Sn G yJ6_stringSize_0f7a4 cJ6_stringSize_0f7a4 4 (some FieldType.int) 0 0 (fun v : Int32 => some (.int v)) (J6_stringSize_0f7a4 a0) 0 [some (.int a0), none, none, none] [] := by
  unfold J6_stringSize_0f7a4
  refine sn_iconst (v := (1 : Int32)) (pc' := 1) dJ6_stringSize_0f7a4_0 rfl (by decide) ?_
  refine sn_istore_n (v := (1 : Int32)) (L' := [some (.int a0), some (.int (1 : Int32)), none, none]) (pc' := 2) dJ6_stringSize_0f7a4_1 rfl rfl rfl rfl ?_
  refine sn_iload_n (v := a0) (pc' := 3) dJ6_stringSize_0f7a4_2 rfl rfl rfl ?_
  refine sn_if_lt (pt := 11) (pf := 6) dJ6_stringSize_0f7a4_3 rfl rfl ?_ ?_
  · exact sn_weak (le_s (le_s (le_n (le_n le_e)))) (s_J6_stringSize_0f7a4_11 G a0 (1 : Int32))
  · refine sn_iconst (v := (0 : Int32)) (pc' := 7) dJ6_stringSize_0f7a4_6 rfl (by decide) ?_
    refine sn_istore_n (v := (0 : Int32)) (L' := [some (.int a0), some (.int (0 : Int32)), none, none]) (pc' := 8) dJ6_stringSize_0f7a4_7 rfl rfl rfl rfl ?_
    refine sn_iload_n (v := a0) (pc' := 9) dJ6_stringSize_0f7a4_8 rfl rfl rfl ?_
    refine sn_ineg (pc' := 10) dJ6_stringSize_0f7a4_9 rfl ?_
    refine sn_istore_n (v := (-a0)) (L' := [some (.int (-a0)), some (.int (0 : Int32)), none, none]) (pc' := 11) dJ6_stringSize_0f7a4_10 rfl rfl rfl rfl ?_
    exact sn_weak (le_s (le_s (le_n (le_n le_e)))) (s_J6_stringSize_0f7a4_11 G (-a0) (0 : Int32))
theorem c_J6_stringSize_0f7a4 (G : GG) (a0 : Int32) : Cal G yJ6_stringSize_0f7a4 cJ6_stringSize_0f7a4 4 (some FieldType.int) 0 0 (fun v : Int32 => some (.int v)) (J6_stringSize_0f7a4 a0) [.int a0] :=
  Cal.of (by decide) (cat_i cat_nil) rfl (sn_weak (le_s (le_z (le_z (le_z le_e)))) (s_J6_stringSize_0f7a4 G a0))
theorem cw_J6_stringSize_0f7a4 : CW yJ6_stringSize_0f7a4 cJ6_stringSize_0f7a4 4 (some FieldType.int) 1 := ⟨tw758, tw25, by decide, by decide +kernel⟩
/-! J6_getChars_ba4f3 -/
theorem dJ6_getChars_ba4f3_0 : decode cJ6_getChars_ba4f3 0 = .ok (.iload_n 1, 1) := by decide +kernel
theorem dJ6_getChars_ba4f3_1 : decode cJ6_getChars_ba4f3 1 = .ok (.istore 5, 2) := by decide +kernel
theorem dJ6_getChars_ba4f3_3 : decode cJ6_getChars_ba4f3 3 = .ok (.iload_n 0, 1) := by decide +kernel
theorem dJ6_getChars_ba4f3_4 : decode cJ6_getChars_ba4f3 4 = .ok (.ifCond .ge 7, 3) := by decide +kernel
theorem dJ6_getChars_ba4f3_7 : decode cJ6_getChars_ba4f3 7 = .ok (.iconst 1, 1) := by decide +kernel
theorem dJ6_getChars_ba4f3_8 : decode cJ6_getChars_ba4f3 8 = .ok (.goto 4, 3) := by decide +kernel
theorem dJ6_getChars_ba4f3_11 : decode cJ6_getChars_ba4f3 11 = .ok (.iconst 0, 1) := by decide +kernel
theorem dJ6_getChars_ba4f3_12 : decode cJ6_getChars_ba4f3 12 = .ok (.istore 6, 2) := by decide +kernel
theorem dJ6_getChars_ba4f3_14 : decode cJ6_getChars_ba4f3 14 = .ok (.iload 6, 2) := by decide +kernel
theorem dJ6_getChars_ba4f3_16 : decode cJ6_getChars_ba4f3 16 = .ok (.ifCond .ne 6, 3) := by decide +kernel
theorem dJ6_getChars_ba4f3_19 : decode cJ6_getChars_ba4f3 19 = .ok (.iload_n 0, 1) := by decide +kernel
theorem dJ6_getChars_ba4f3_20 : decode cJ6_getChars_ba4f3 20 = .ok (.ineg, 1) := by decide +kernel
theorem dJ6_getChars_ba4f3_21 : decode cJ6_getChars_ba4f3 21 = .ok (.istore_n 0, 1) := by decide +kernel
theorem dJ6_getChars_ba4f3_22 : decode cJ6_getChars_ba4f3 22 = .ok (.iload_n 0, 1) := by decide +kernel
theorem dJ6_getChars_ba4f3_23 : decode cJ6_getChars_ba4f3 23 = .ok (.bipush (-100), 2) := by decide +kernel
theorem dJ6_getChars_ba4f3_25 : decode cJ6_getChars_ba4f3 25 = .ok (.if_icmp .gt 47, 3) := by decide +kernel
theorem dJ6_getChars_ba4f3_28 : decode cJ6_getChars_ba4f3 28 = .ok (.iload_n 0, 1) := by decide +kernel
theorem dJ6_getChars_ba4f3_29 : decode cJ6_getChars_ba4f3 29 = .ok (.bipush 100, 2) := by decide +kernel
theorem dJ6_getChars_ba4f3_31 : decode cJ6_getChars_ba4f3 31 = .ok (.idiv, 1) := by decide +kernel
theorem dJ6_getChars_ba4f3_32 : decode cJ6_getChars_ba4f3 32 = .ok (.istore_n 3, 1) := by decide +kernel
theorem dJ6_getChars_ba4f3_33 : decode cJ6_getChars_ba4f3 33 = .ok (.iload_n 3, 1) := by decide +kernel
theorem dJ6_getChars_ba4f3_34 : decode cJ6_getChars_ba4f3 34 = .ok (.bipush 100, 2) := by decide +kernel
theorem dJ6_getChars_ba4f3_36 : decode cJ6_getChars_ba4f3 36 = .ok (.imul, 1) := by decide +kernel
theorem dJ6_getChars_ba4f3_37 : decode cJ6_getChars_ba4f3 37 = .ok (.iload_n 0, 1) := by decide +kernel
theorem dJ6_getChars_ba4f3_38 : decode cJ6_getChars_ba4f3 38 = .ok (.isub, 1) := by decide +kernel
theorem dJ6_getChars_ba4f3_39 : decode cJ6_getChars_ba4f3 39 = .ok (.istore 4, 2) := by decide +kernel
theorem dJ6_getChars_ba4f3_41 : decode cJ6_getChars_ba4f3 41 = .ok (.iload_n 3, 1) := by decide +kernel
theorem dJ6_getChars_ba4f3_42 : decode cJ6_getChars_ba4f3 42 = .ok (.istore_n 0, 1) := by decide +kernel
theorem dJ6_getChars_ba4f3_43 : decode cJ6_getChars_ba4f3 43 = .ok (.aload_n 2, 1) := by decide +kernel
theorem dJ6_getChars_ba4f3_44 : decode cJ6_getChars_ba4f3 44 = .ok (.iinc 5 (-1), 3) := by decide +kernel
theorem dJ6_getChars_ba4f3_47 : decode cJ6_getChars_ba4f3 47 = .ok (.iload 5, 2) := by decide +kernel
theorem dJ6_getChars_ba4f3_49 : decode cJ6_getChars_ba4f3 49 = .ok (.getstatic 83, 3) := by decide +kernel
theorem dJ6_getChars_ba4f3_52 : decode cJ6_getChars_ba4f3 52 = .ok (.iload 4, 2) := by decide +kernel
theorem dJ6_getChars_ba4f3_54 : decode cJ6_getChars_ba4f3 54 = .ok (.baload, 1) := by decide +kernel
theorem dJ6_getChars_ba4f3_55 : decode cJ6_getChars_ba4f3 55 = .ok (.bastore, 1) := by decide +kernel
theorem dJ6_getChars_ba4f3_56 : decode cJ6_getChars_ba4f3 56 = .ok (.aload_n 2, 1) := by decide +kernel
theorem dJ6_getChars_ba4f3_57 : decode cJ6_getChars_ba4f3 57 = .ok (.iinc 5 (-1), 3) := by decide +kernel
theorem dJ6_getChars_ba4f3_60 : decode cJ6_getChars_ba4f3 60 = .ok (.iload 5, 2) := by decide +kernel
theorem dJ6_getChars_ba4f3_62 : decode cJ6_getChars_ba4f3 62 = .ok (.getstatic 87, 3) := by decide +kernel
theorem dJ6_getChars_ba4f3_65 : decode cJ6_getChars_ba4f3 65 = .ok (.iload 4, 2) := by decide +kernel
theorem dJ6_getChars_ba4f3_67 : decode cJ6_getChars_ba4f3 67 = .ok (.baload, 1) := by decide +kernel
theorem dJ6_getChars_ba4f3_68 : decode cJ6_getChars_ba4f3 68 = .ok (.bastore, 1) := by decide +kernel
theorem dJ6_getChars_ba4f3_69 : decode cJ6_getChars_ba4f3 69 = .ok (.goto (-47), 3) := by decide +kernel
theorem dJ6_getChars_ba4f3_72 : decode cJ6_getChars_ba4f3 72 = .ok (.aload_n 2, 1) := by decide +kernel
theorem dJ6_getChars_ba4f3_73 : decode cJ6_getChars_ba4f3 73 = .ok (.iinc 5 (-1), 3) := by decide +kernel
theorem dJ6_getChars_ba4f3_76 : decode cJ6_getChars_ba4f3 76 = .ok (.iload 5, 2) := by decide +kernel
theorem dJ6_getChars_ba4f3_78 : decode cJ6_getChars_ba4f3 78 = .ok (.getstatic 83, 3) := by decide +kernel
theorem dJ6_getChars_ba4f3_81 : decode cJ6_getChars_ba4f3 81 = .ok (.iload_n 0, 1) := by decide +kernel
theorem dJ6_getChars_ba4f3_82 : decode cJ6_getChars_ba4f3 82 = .ok (.ineg, 1) := by decide +kernel
theorem dJ6_getChars_ba4f3_83 : decode cJ6_getChars_ba4f3 83 = .ok (.baload, 1) := by decide +kernel
theorem dJ6_getChars_ba4f3_84 : decode cJ6_getChars_ba4f3 84 = .ok (.bastore, 1) := by decide +kernel
theorem dJ6_getChars_ba4f3_85 : decode cJ6_getChars_ba4f3 85 = .ok (.iload_n 0, 1) := by decide +kernel
theorem dJ6_getChars_ba4f3_86 : decode cJ6_getChars_ba4f3 86 = .ok (.bipush (-9), 2) := by decide +kernel
theorem dJ6_getChars_ba4f3_88 : decode cJ6_getChars_ba4f3 88 = .ok (.if_icmp .ge 16, 3) := by decide +kernel
theorem dJ6_getChars_ba4f3_91 : decode cJ6_getChars_ba4f3 91 = .ok (.aload_n 2, 1) := by decide +kernel
theorem dJ6_getChars_ba4f3_92 : decode cJ6_getChars_ba4f3 92 = .ok (.iinc 5 (-1), 3) := by decide +kernel
theorem dJ6_getChars_ba4f3_95 : decode cJ6_getChars_ba4f3 95 = .ok (.iload 5, 2) := by decide +kernel
theorem dJ6_getChars_ba4f3_97 : decode cJ6_getChars_ba4f3 97 = .ok (.getstatic 87, 3) := by decide +kernel
theorem dJ6_getChars_ba4f3_100 : decode cJ6_getChars_ba4f3 100 = .ok (.iload_n 0, 1) := by decide +kernel
theorem dJ6_getChars_ba4f3_101 : decode cJ6_getChars_ba4f3 101 = .ok (.ineg, 1) := by decide +kernel
theorem dJ6_getChars_ba4f3_102 : decode cJ6_getChars_ba4f3 102 = .ok (.baload, 1) := by decide +kernel
theorem dJ6_getChars_ba4f3_103 : decode cJ6_getChars_ba4f3 103 = .ok (.bastore, 1) := by decide +kernel
theorem dJ6_getChars_ba4f3_104 : decode cJ6_getChars_ba4f3 104 = .ok (.iload 6, 2) := by decide +kernel
theorem dJ6_getChars_ba4f3_106 : decode cJ6_getChars_ba4f3 106 = .ok (.ifCond .eq 12, 3) := by decide +kernel
theorem dJ6_getChars_ba4f3_109 : decode cJ6_getChars_ba4f3 109 = .ok (.aload_n 2, 1) := by decide +kernel
theorem dJ6_getChars_ba4f3_110 : decode cJ6_getChars_ba4f3 110 = .ok (.iinc 5 (-1), 3) := by decide +kernel
theorem dJ6_getChars_ba4f3_113 : decode cJ6_getChars_ba4f3 113 = .ok (.iload 5, 2) := by decide +kernel
theorem dJ6_getChars_ba4f3_115 : decode cJ6_getChars_ba4f3 115 = .ok (.bipush 45, 2) := by decide +kernel
theorem dJ6_getChars_ba4f3_117 : decode cJ6_getChars_ba4f3 117 = .ok (.bastore, 1) := by decide +kernel
theorem dJ6_getChars_ba4f3_118 : decode cJ6_getChars_ba4f3 118 = .ok (.iload 5, 2) := by decide +kernel
theorem dJ6_getChars_ba4f3_120 : decode cJ6_getChars_ba4f3 120 = .ok (.ireturn, 1) := by decide +kernel
def J6_getChars_ba4f3_104  (x2 : Option Nat) (x5 : Int32) (x6 : Int32) : MM Int32 :=
  if x6 = 0 then (mr x5) else (mb (sB x2 (x5 + (-1 : Int32)) (45 : Int32)) fun _ =>
  mr (x5 + (-1 : Int32)))
def J6_getChars_ba4f3_72  (x0 : Int32) (x2 : Option Nat) (x5 : Int32) (x6 : Int32) : MM Int32 :=
  mb (kR 20) fun v1 =>
  mb (aB v1 (-x0)) fun v2 =>
  mb (sB x2 (x5 + (-1 : Int32)) v2) fun _ =>
  if (-9 : Int32) ≤ x0 then ((J6_getChars_ba4f3_104 x2 (x5 + (-1 : Int32)) x6)) else (mb (kR 21) fun v3 =>
  mb (aB v3 (-x0)) fun v4 =>
  mb (sB x2 ((x5 + (-1 : Int32)) + (-1 : Int32)) v4) fun _ =>
  (J6_getChars_ba4f3_104 x2 ((x5 + (-1 : Int32)) + (-1 : Int32)) x6))
def J6_getChars_ba4f3_22_st  (k22 : Int32 → Option Nat → Int32 → Int32 → MM Int32) (x0 : Int32) (x2 : Option Nat) (x5 : Int32) (x6 : Int32) : MM Int32 :=
  if (-100 : Int32) < x0 then ((J6_getChars_ba4f3_72 x0 x2 x5 x6)) else (mb (dI x0 (100 : Int32)) fun v1 =>
  mb (kR 20) fun v2 =>
  mb (aB v2 ((v1 * (100 : Int32)) - x0)) fun v3 =>
  mb (sB x2 (x5 + (-1 : Int32)) v3) fun _ =>
  mb (kR 21) fun v4 =>
  mb (aB v4 ((v1 * (100 : Int32)) - x0)) fun v5 =>
  mb (sB x2 ((x5 + (-1 : Int32)) + (-1 : Int32)) v5) fun _ =>
  (k22 v1 x2 ((x5 + (-1 : Int32)) + (-1 : Int32)) x6))
def J6_getChars_ba4f3_22  : Nat → Int32 → Option Nat → Int32 → Int32 → MM Int32
  | 0 => fun _ _ _ _ => mf
  | n + 1 => fun x0 x2 x5 x6 => J6_getChars_ba4f3_22_st  (J6_getChars_ba4f3_22  n) x0 x2 x5 x6
def J6_getChars_ba4f3_12  (x0 : Int32) (x2 : Option Nat) (x5 : Int32) (y0 : Int32) : MM Int32 :=
  if y0 = 0 then ((J6_getChars_ba4f3_22 LFU (-x0) x2 x5 y0)) else ((J6_getChars_ba4f3_22 LFU x0 x2 x5 y0))
def J6_getChars_ba4f3 (a0 : Int32) (a1 : Int32) (a2 : Option Nat) : MM Int32 :=
  if 0 ≤ a0 then ((J6_getChars_ba4f3_12 a0 a2 a1 (0 : Int32))) else ((J6_getChars_ba4f3_12 a0 a2 a1 (1 : Int32)))
set_option maxRecDepth 100000 in
set_option maxHeartbeats 4000000 in
theorem s_J6_getChars_ba4f3_104 (G : GG)   (x2 : Option Nat) (x5 : Int32) (x6 : Int32) : Sn G yJ6_getChars_ba4f3 cJ6_getChars_ba4f3 7 (some FieldType.int) 0 0 (fun v : Int32 => some (.int v)) (J6_getChars_ba4f3_104  x2 x5 x6) 104 [none, none, some (va_rf x2), none, none, some (.int x5), some (.int x6)] [] := by
  unfold J6_getChars_ba4f3_104
  refine sn_iload (v := x6) (pc' := 106) dJ6_getChars_ba4f3_104 rfl rfl ?_
  refine sn_if_eq (pt := 118) (pf := 109) dJ6_getChars_ba4f3_106 rfl rfl ?_ ?_
  · refine sn_iload (v := x5) (pc' := 120) dJ6_getChars_ba4f3_118 rfl rfl ?_
    exact sn_iret dJ6_getChars_ba4f3_120 rfl rfl
  · refine sn_aload_n (v := x2) (pc' := 110) dJ6_getChars_ba4f3_109 rfl rfl rfl ?_
    refine sn_iinc (v := x5) (w := -1) (L' := [none, none, some (va_rf x2), none, none, some (.int (x5 + (-1 : Int32))), some (.int x6)]) (pc' := 113) dJ6_getChars_ba4f3_110 rfl rfl rfl (by decide) rfl ?_
    refine sn_iload (v := (x5 + (-1 : Int32))) (pc' := 115) dJ6_getChars_ba4f3_113 rfl rfl ?_
    refine sn_bipush (v := (45 : Int32)) (pc' := 117) dJ6_getChars_ba4f3_115 rfl (by decide) ?_
    refine sn_sB (pc' := 118) dJ6_getChars_ba4f3_117 rfl (fun _ => ?_)
    refine sn_iload (v := (x5 + (-1 : Int32))) (pc' := 120) dJ6_getChars_ba4f3_118 rfl rfl ?_
    exact sn_iret dJ6_getChars_ba4f3_120 rfl rfl
set_option maxRecDepth 100000 in
set_option maxHeartbeats 4000000 in
theorem s_J6_getChars_ba4f3_72 (G : GG)   (x0 : Int32) (x2 : Option Nat) (x5 : Int32) (x6 : Int32) : Sn G yJ6_getChars_ba4f3 cJ6_getChars_ba4f3 7 (some FieldType.int) 0 0 (fun v : Int32 => some (.int v)) (J6_getChars_ba4f3_72  x0 x2 x5 x6) 72 [some (.int x0), none, some (va_rf x2), none, none, some (.int x5), some (.int x6)] [] := by
  unfold J6_getChars_ba4f3_72
  refine sn_aload_n (v := x2) (pc' := 73) dJ6_getChars_ba4f3_72 rfl rfl rfl ?_
  refine sn_iinc (v := x5) (w := -1) (L' := [some (.int x0), none, some (va_rf x2), none, none, some (.int (x5 + (-1 : Int32))), some (.int x6)]) (pc' := 76) dJ6_getChars_ba4f3_73 rfl rfl rfl (by decide) rfl ?_
  refine sn_iload (v := (x5 + (-1 : Int32))) (pc' := 78) dJ6_getChars_ba4f3_76 rfl rfl ?_
  refine sn_gsR (i := 20) (C := "java/lang/Integer") (nm := "DigitOnes") (d := "[B") (pc' := 81) (by decide +kernel) tw762 dJ6_getChars_ba4f3_78 rfl (fun v1 => ?_)
  refine sn_iload_n (v := x0) (pc' := 82) dJ6_getChars_ba4f3_81 rfl rfl rfl ?_
  refine sn_ineg (pc' := 83) dJ6_getChars_ba4f3_82 rfl ?_
  refine sn_aB (pc' := 84) dJ6_getChars_ba4f3_83 rfl (fun v2 => ?_)
  refine sn_sB (pc' := 85) dJ6_getChars_ba4f3_84 rfl (fun _ => ?_)
  refine sn_iload_n (v := x0) (pc' := 86) dJ6_getChars_ba4f3_85 rfl rfl rfl ?_
  refine sn_bipush (v := (-9 : Int32)) (pc' := 88) dJ6_getChars_ba4f3_86 rfl (by decide) ?_
  refine sn_ic_ge (pt := 104) (pf := 91) dJ6_getChars_ba4f3_88 rfl rfl ?_ ?_
  · exact sn_weak (le_n (le_n (le_s (le_n (le_n (le_s (le_s le_e))))))) (s_J6_getChars_ba4f3_104 G x2 (x5 + (-1 : Int32)) x6)
  · refine sn_aload_n (v := x2) (pc' := 92) dJ6_getChars_ba4f3_91 rfl rfl rfl ?_
    refine sn_iinc (v := (x5 + (-1 : Int32))) (w := -1) (L' := [some (.int x0), none, some (va_rf x2), none, none, some (.int ((x5 + (-1 : Int32)) + (-1 : Int32))), some (.int x6)]) (pc' := 95) dJ6_getChars_ba4f3_92 rfl rfl rfl (by decide) rfl ?_
    refine sn_iload (v := ((x5 + (-1 : Int32)) + (-1 : Int32))) (pc' := 97) dJ6_getChars_ba4f3_95 rfl rfl ?_
    refine sn_gsR (i := 21) (C := "java/lang/Integer") (nm := "DigitTens") (d := "[B") (pc' := 100) (by decide +kernel) tw764 dJ6_getChars_ba4f3_97 rfl (fun v3 => ?_)
    refine sn_iload_n (v := x0) (pc' := 101) dJ6_getChars_ba4f3_100 rfl rfl rfl ?_
    refine sn_ineg (pc' := 102) dJ6_getChars_ba4f3_101 rfl ?_
    refine sn_aB (pc' := 103) dJ6_getChars_ba4f3_102 rfl (fun v4 => ?_)
    refine sn_sB (pc' := 104) dJ6_getChars_ba4f3_103 rfl (fun _ => ?_)
    exact sn_weak (le_n (le_n (le_s (le_n (le_n (le_s (le_s le_e))))))) (s_J6_getChars_ba4f3_104 G x2 ((x5 + (-1 : Int32)) + (-1 : Int32)) x6)
set_option maxRecDepth 100000 in
set_option maxHeartbeats 4000000 in
theorem s_J6_getChars_ba4f3_22_st (G : GG)   (k22 : Int32 → Option Nat → Int32 → Int32 → MM Int32) (hk22 : ∀ (x0 : Int32) (x2 : Option Nat) (x5 : Int32) (x6 : Int32), Sn G yJ6_getChars_ba4f3 cJ6_getChars_ba4f3 7 (some FieldType.int) 0 0 (fun v : Int32 => some (.int v)) (k22 x0 x2 x5 x6) 22 [some (.int x0), none, some (va_rf x2), none, none, some (.int x5), some (.int x6)] []) (x0 : Int32) (x2 : Option Nat) (x5 : Int32) (x6 : Int32) : Sn G yJ6_getChars_ba4f3 cJ6_getChars_ba4f3 7 (some FieldType.int) 0 0 (fun v : Int32 => some (.int v)) (J6_getChars_ba4f3_22_st  k22 x0 x2 x5 x6) 22 [some (.int x0), none, some (va_rf x2), none, none, some (.int x5), some (.int x6)] [] := by
  unfold J6_getChars_ba4f3_22_st
  refine sn_iload_n (v := x0) (pc' := 23) dJ6_getChars_ba4f3_22 rfl rfl rfl ?_
  refine sn_bipush (v := (-100 : Int32)) (pc' := 25) dJ6_getChars_ba4f3_23 rfl (by decide) ?_
  refine sn_ic_gt (pt := 72) (pf := 28) dJ6_getChars_ba4f3_25 rfl rfl ?_ ?_
  · exact sn_weak (le_s (le_n (le_s (le_n (le_n (le_s (le_s le_e))))))) (s_J6_getChars_ba4f3_72 G x0 x2 x5 x6)
  · refine sn_iload_n (v := x0) (pc' := 29) dJ6_getChars_ba4f3_28 rfl rfl rfl ?_
    refine sn_bipush (v := (100 : Int32)) (pc' := 31) dJ6_getChars_ba4f3_29 rfl (by decide) ?_
    refine sn_dI (pc' := 32) dJ6_getChars_ba4f3_31 rfl (fun v1 => ?_)
    refine sn_istore_n (v := v1) (L' := [some (.int x0), none, some (va_rf x2), some (.int v1), none, some (.int x5), some (.int x6)]) (pc' := 33) dJ6_getChars_ba4f3_32 rfl rfl rfl rfl ?_
    refine sn_iload_n (v := v1) (pc' := 34) dJ6_getChars_ba4f3_33 rfl rfl rfl ?_
    refine sn_bipush (v := (100 : Int32)) (pc' := 36) dJ6_getChars_ba4f3_34 rfl (by decide) ?_
    refine sn_imul (pc' := 37) dJ6_getChars_ba4f3_36 rfl ?_
    refine sn_iload_n (v := x0) (pc' := 38) dJ6_getChars_ba4f3_37 rfl rfl rfl ?_
    refine sn_isub (pc' := 39) dJ6_getChars_ba4f3_38 rfl ?_
    refine sn_istore (v := ((v1 * (100 : Int32)) - x0)) (L' := [some (.int x0), none, some (va_rf x2), some (.int v1), some (.int ((v1 * (100 : Int32)) - x0)), some (.int x5), some (.int x6)]) (pc' := 41) dJ6_getChars_ba4f3_39 rfl rfl rfl ?_
    refine sn_iload_n (v := v1) (pc' := 42) dJ6_getChars_ba4f3_41 rfl rfl rfl ?_
    refine sn_istore_n (v := v1) (L' := [some (.int v1), none, some (va_rf x2), some (.int v1), some (.int ((v1 * (100 : Int32)) - x0)), some (.int x5), some (.int x6)]) (pc' := 43) dJ6_getChars_ba4f3_42 rfl rfl rfl rfl ?_
    refine sn_aload_n (v := x2) (pc' := 44) dJ6_getChars_ba4f3_43 rfl rfl rfl ?_
    refine sn_iinc (v := x5) (w := -1) (L' := [some (.int v1), none, some (va_rf x2), some (.int v1), some (.int ((v1 * (100 : Int32)) - x0)), some (.int (x5 + (-1 : Int32))), some (.int x6)]) (pc' := 47) dJ6_getChars_ba4f3_44 rfl rfl rfl (by decide) rfl ?_
    refine sn_iload (v := (x5 + (-1 : Int32))) (pc' := 49) dJ6_getChars_ba4f3_47 rfl rfl ?_
    refine sn_gsR (i := 20) (C := "java/lang/Integer") (nm := "DigitOnes") (d := "[B") (pc' := 52) (by decide +kernel) tw762 dJ6_getChars_ba4f3_49 rfl (fun v2 => ?_)
    refine sn_iload (v := ((v1 * (100 : Int32)) - x0)) (pc' := 54) dJ6_getChars_ba4f3_52 rfl rfl ?_
    refine sn_aB (pc' := 55) dJ6_getChars_ba4f3_54 rfl (fun v3 => ?_)
    refine sn_sB (pc' := 56) dJ6_getChars_ba4f3_55 rfl (fun _ => ?_)
    refine sn_aload_n (v := x2) (pc' := 57) dJ6_getChars_ba4f3_56 rfl rfl rfl ?_
    refine sn_iinc (v := (x5 + (-1 : Int32))) (w := -1) (L' := [some (.int v1), none, some (va_rf x2), some (.int v1), some (.int ((v1 * (100 : Int32)) - x0)), some (.int ((x5 + (-1 : Int32)) + (-1 : Int32))), some (.int x6)]) (pc' := 60) dJ6_getChars_ba4f3_57 rfl rfl rfl (by decide) rfl ?_
    refine sn_iload (v := ((x5 + (-1 : Int32)) + (-1 : Int32))) (pc' := 62) dJ6_getChars_ba4f3_60 rfl rfl ?_
    refine sn_gsR (i := 21) (C := "java/lang/Integer") (nm := "DigitTens") (d := "[B") (pc' := 65) (by decide +kernel) tw764 dJ6_getChars_ba4f3_62 rfl (fun v4 => ?_)
    refine sn_iload (v := ((v1 * (100 : Int32)) - x0)) (pc' := 67) dJ6_getChars_ba4f3_65 rfl rfl ?_
    refine sn_aB (pc' := 68) dJ6_getChars_ba4f3_67 rfl (fun v5 => ?_)
    refine sn_sB (pc' := 69) dJ6_getChars_ba4f3_68 rfl (fun _ => ?_)
    refine sn_goto (pc' := 22) dJ6_getChars_ba4f3_69 rfl ?_
    exact sn_weak (le_s (le_n (le_s (le_n (le_n (le_s (le_s le_e))))))) (hk22 v1 x2 ((x5 + (-1 : Int32)) + (-1 : Int32)) x6)
set_option maxRecDepth 100000 in
set_option maxHeartbeats 4000000 in
theorem s_J6_getChars_ba4f3_22 (G : GG)   : ∀ (n : Nat) (x0 : Int32) (x2 : Option Nat) (x5 : Int32) (x6 : Int32), Sn G yJ6_getChars_ba4f3 cJ6_getChars_ba4f3 7 (some FieldType.int) 0 0 (fun v : Int32 => some (.int v)) (J6_getChars_ba4f3_22  n x0 x2 x5 x6) 22 [some (.int x0), none, some (va_rf x2), none, none, some (.int x5), some (.int x6)] [] := by
  intro n
  induction n with
  | zero => intro x0 x2 x5 x6; exact sn_mf
  | succ n ih => intro x0 x2 x5 x6; exact s_J6_getChars_ba4f3_22_st G   (J6_getChars_ba4f3_22  n) ih x0 x2 x5 x6
set_option maxRecDepth 100000 in
set_option maxHeartbeats 4000000 in
theorem s_J6_getChars_ba4f3_12 (G : GG)   (x0 : Int32) (x2 : Option Nat) (x5 : Int32) (y0 : Int32) : Sn G yJ6_getChars_ba4f3 cJ6_getChars_ba4f3 7 (some FieldType.int) 0 0 (fun v : Int32 => some (.int v)) (J6_getChars_ba4f3_12  x0 x2 x5 y0) 12 [some (.int x0), none, some (va_rf x2), none, none, some (.int x5), none] [.int y0] := by
  unfold J6_getChars_ba4f3_12
  refine sn_istore (v := y0) (L' := [some (.int x0), none, some (va_rf x2), none, none, some (.int x5), some (.int y0)]) (pc' := 14) dJ6_getChars_ba4f3_12 rfl rfl rfl ?_
  refine sn_iload (v := y0) (pc' := 16) dJ6_getChars_ba4f3_14 rfl rfl ?_
  refine sn_if_ne (pt := 22) (pf := 19) dJ6_getChars_ba4f3_16 rfl rfl ?_ ?_
  · refine sn_iload_n (v := x0) (pc' := 20) dJ6_getChars_ba4f3_19 rfl rfl rfl ?_
    refine sn_ineg (pc' := 21) dJ6_getChars_ba4f3_20 rfl ?_
    refine sn_istore_n (v := (-x0)) (L' := [some (.int (-x0)), none, some (va_rf x2), none, none, some (.int x5), some (.int y0)]) (pc' := 22) dJ6_getChars_ba4f3_21 rfl rfl rfl rfl ?_
    exact sn_weak (le_s (le_n (le_s (le_n (le_n (le_s (le_s le_e))))))) (s_J6_getChars_ba4f3_22 G LFU (-x0) x2 x5 y0)
  · exact sn_weak (le_s (le_n (le_s (le_n (le_n (le_s (le_s le_e))))))) (s_J6_getChars_ba4f3_22 G LFU x0 x2 x5 y0)
set_option maxRecDepth 100000 in
set_option maxHeartbeats 4000000 in
theorem s_J6_getChars_ba4f3 (G : GG) (a0 : Int32) (a1 : Int32) (a2 : Option Nat) : Sn G yJ6_getChars_ba4f3 cJ6_getChars_ba4f3 7 (some FieldType.int) 0 0 (fun v : Int32 => some (.int v)) (J6_getChars_ba4f3 a0 a1 a2) 0 [some (.int a0), some (.int a1), some (va_rf a2), none, none, none, none] [] := by
  unfold J6_getChars_ba4f3
  refine sn_iload_n (v := a1) (pc' := 1) dJ6_getChars_ba4f3_0 rfl rfl rfl ?_
  refine sn_istore (v := a1) (L' := [some (.int a0), some (.int a1), some (va_rf a2), none, none, some (.int a1), none]) (pc' := 3) dJ6_getChars_ba4f3_1 rfl rfl rfl ?_
  refine sn_iload_n (v := a0) (pc' := 4) dJ6_getChars_ba4f3_3 rfl rfl rfl ?_
  refine sn_if_ge (pt := 11) (pf := 7) dJ6_getChars_ba4f3_4 rfl rfl ?_ ?_
  · refine sn_iconst (v := (0 : Int32)) (pc' := 12) dJ6_getChars_ba4f3_11 rfl (by decide) ?_
    exact sn_weak (le_s (le_n (le_s (le_n (le_n (le_s (le_n le_e))))))) (s_J6_getChars_ba4f3_12 G a0 a2 a1 (0 : Int32))
  · refine sn_iconst (v := (1 : Int32)) (pc' := 8) dJ6_getChars_ba4f3_7 rfl (by decide) ?_
    refine sn_goto (pc' := 12) dJ6_getChars_ba4f3_8 rfl ?_
    exact sn_weak (le_s (le_n (le_s (le_n (le_n (le_s (le_n le_e))))))) (s_J6_getChars_ba4f3_12 G a0 a2 a1 (1 : Int32))
theorem c_J6_getChars_ba4f3 (G : GG) (a0 : Int32) (a1 : Int32) (a2 : Option Nat) : Cal G yJ6_getChars_ba4f3 cJ6_getChars_ba4f3 7 (some FieldType.int) 0 0 (fun v : Int32 => some (.int v)) (J6_getChars_ba4f3 a0 a1 a2) [.int a0, .int a1, va_rf a2] :=
  Cal.of (by decide) (cat_i (cat_i (cat_q cat_nil))) rfl (sn_weak (le_s (le_s (le_s (le_z (le_z (le_z (le_z le_e))))))) (s_J6_getChars_ba4f3 G a0 a1 a2))
theorem cw_J6_getChars_ba4f3 : CW yJ6_getChars_ba4f3 cJ6_getChars_ba4f3 7 (some FieldType.int) 3 := ⟨tw761, tw25, by decide, by decide +kernel⟩
/-! J5_append_c97b9 -/
theorem dJ5_append_c97b9_0 : decode cJ5_append_c97b9 0 = .ok (.aload_n 0, 1) := by decide +kernel
theorem dJ5_append_c97b9_1 : decode cJ5_append_c97b9 1 = .ok (.getfield 79, 3) := by decide +kernel
theorem dJ5_append_c97b9_4 : decode cJ5_append_c97b9 4 = .ok (.istore_n 2, 1) := by decide +kernel
theorem dJ5_append_c97b9_5 : decode cJ5_append_c97b9 5 = .ok (.iload_n 2, 1) := by decide +kernel
theorem dJ5_append_c97b9_6 : decode cJ5_append_c97b9 6 = .ok (.iload_n 1, 1) := by decide +kernel
theorem dJ5_append_c97b9_7 : decode cJ5_append_c97b9 7 = .ok (.invokestatic 245, 3) := by decide +kernel
theorem dJ5_append_c97b9_10 : decode cJ5_append_c97b9 10 = .ok (.iadd, 1) := by decide +kernel
theorem dJ5_append_c97b9_11 : decode cJ5_append_c97b9 11 = .ok (.istore_n 3, 1) := by decide +kernel
theorem dJ5_append_c97b9_12 : decode cJ5_append_c97b9 12 = .ok (.aload_n 0, 1) := by decide +kernel
theorem dJ5_append_c97b9_13 : decode cJ5_append_c97b9 13 = .ok (.iload_n 3, 1) := by decide +kernel
theorem dJ5_append_c97b9_14 : decode cJ5_append_c97b9 14 = .ok (.invokevirtual 100, 3) := by decide +kernel
theorem dJ5_append_c97b9_17 : decode cJ5_append_c97b9 17 = .ok (.aload_n 0, 1) := by decide +kernel
theorem dJ5_append_c97b9_18 : decode cJ5_append_c97b9 18 = .ok (.invokevirtual 83, 3) := by decide +kernel
theorem dJ5_append_c97b9_21 : decode cJ5_append_c97b9 21 = .ok (.ifCond .eq 16, 3) := by decide +kernel
theorem dJ5_append_c97b9_24 : decode cJ5_append_c97b9 24 = .ok (.iload_n 1, 1) := by decide +kernel
theorem dJ5_append_c97b9_25 : decode cJ5_append_c97b9 25 = .ok (.iload_n 3, 1) := by decide +kernel
theorem dJ5_append_c97b9_26 : decode cJ5_append_c97b9 26 = .ok (.aload_n 0, 1) := by decide +kernel
theorem dJ5_append_c97b9_27 : decode cJ5_append_c97b9 27 = .ok (.getfield 15, 3) := by decide +kernel
theorem dJ5_append_c97b9_30 : decode cJ5_append_c97b9 30 = .ok (.invokestatic 248, 3) := by decide +kernel
theorem dJ5_append_c97b9_33 : decode cJ5_append_c97b9 33 = .ok (.pop, 1) := by decide +kernel
theorem dJ5_append_c97b9_34 : decode cJ5_append_c97b9 34 = .ok (.goto 14, 3) := by decide +kernel
theorem dJ5_append_c97b9_48 : decode cJ5_append_c97b9 48 = .ok (.aload_n 0, 1) := by decide +kernel
theorem dJ5_append_c97b9_49 : decode cJ5_append_c97b9 49 = .ok (.iload_n 3, 1) := by decide +kernel
theorem dJ5_append_c97b9_50 : decode cJ5_append_c97b9 50 = .ok (.putfield 79, 3) := by decide +kernel
theorem dJ5_append_c97b9_53 : decode cJ5_append_c97b9 53 = .ok (.aload_n 0, 1) := by decide +kernel
theorem dJ5_append_c97b9_54 : decode cJ5_append_c97b9 54 = .ok (.areturn, 1) := by decide +kernel
def J5_append_c97b9 (this : Nat) (a1 : Int32) : MM (Option Nat) :=
  mb (gI 1 (some this) 3) fun v1 =>
  mb (J6_stringSize_0f7a4 a1) fun v2 =>
  mb (wc 1 (some this) fun t => J5_ensureCapacityInternal_d00df t (v1 + v2)) fun _ =>
  mb (wc 1 (some this) fun t => J5_isLatin1_aae02 t ) fun v3 =>
  if v3 = 0 then (mf) else (mb (gR 1 (some this) 0) fun v4 =>
  mb (J6_getChars_ba4f3 a1 (v1 + v2) v4) fun v5 =>
  mb (pI 1 (some this) 3 (v1 + v2)) fun _ =>
  mr (some this))
set_option maxRecDepth 100000 in
set_option maxHeartbeats 4000000 in
theorem s_J5_append_c97b9 (G : GG) (this : Nat) (a1 : Int32) : Sn G yJ5_append_c97b9 cJ5_append_c97b9 4 (some (FieldType.object "java/lang/AbstractStringBuilder")) 4 84 (fun v : Option Nat => some (va_rf v)) (J5_append_c97b9 this a1) 0 [some (va_rf (some this)), some (.int a1), none, none] [] := by
  unfold J5_append_c97b9
  refine sn_aload_n (v := (some this)) (pc' := 1) dJ5_append_c97b9_0 rfl rfl rfl ?_
  refine sn_gI (k := 3) (pc' := 4) ci_1 rfl (Or.inl tw255) dJ5_append_c97b9_1 rfl (fun v1 => ?_)
  refine sn_istore_n (v := v1) (L' := [some (va_rf (some this)), some (.int a1), some (.int v1), none]) (pc' := 5) dJ5_append_c97b9_4 rfl rfl rfl rfl ?_
  refine sn_iload_n (v := v1) (pc' := 6) dJ5_append_c97b9_5 rfl rfl rfl ?_
  refine sn_iload_n (v := a1) (pc' := 7) dJ5_append_c97b9_6 rfl rfl rfl ?_
  refine sn_cS (st := [.int v1]) (As := [.int a1]) (st2 := (fun v => .int v :: [.int v1])) (pc' := 10) (c_J6_stringSize_0f7a4 G a1) cw_J6_stringSize_0f7a4 rfl rfl tw756 tw757 rfl rfl (cat_i cat_nil) rfl (fun _ => rfl) dJ5_append_c97b9_7 rfl (fun v2 => ?_)
  refine sn_iadd (pc' := 11) dJ5_append_c97b9_10 rfl ?_
  refine sn_istore_n (v := (v1 + v2)) (L' := [some (va_rf (some this)), some (.int a1), some (.int v1), some (.int (v1 + v2))]) (pc' := 12) dJ5_append_c97b9_11 rfl rfl rfl rfl ?_
  refine sn_aload_n (v := (some this)) (pc' := 13) dJ5_append_c97b9_12 rfl rfl rfl ?_
  refine sn_iload_n (v := (v1 + v2)) (pc' := 14) dJ5_append_c97b9_13 rfl rfl rfl ?_
  refine sn_cV (r := (some this)) (st := []) (As := [.int (v1 + v2)]) (st2 := (fun _ => [])) (pc' := 17) ci_1 (fun t => c_J5_ensureCapacityInternal_d00df G t (v1 + v2)) cw_J5_ensureCapacityInternal_d00df rfl rfl tw595 (gt_as 0 rfl (by decide +kernel)) tw597 rfl rfl cat_nil rfl (fun _ => rfl) dJ5_append_c97b9_14 rfl (fun _ => ?_)
  refine sn_aload_n (v := (some this)) (pc' := 18) dJ5_append_c97b9_17 rfl rfl rfl ?_
  refine sn_cV (r := (some this)) (st := []) (As := []) (st2 := (fun v => .int v :: [])) (pc' := 21) ci_1 (fun t => c_J5_isLatin1_aae02 G t ) cw_J5_isLatin1_aae02 rfl rfl tw626 tw629 tw627 rfl rfl cat_nil rfl (fun _ => rfl) dJ5_append_c97b9_18 rfl (fun v3 => ?_)
  refine sn_if_eq (pt := 37) (pf := 24) dJ5_append_c97b9_21 rfl rfl ?_ ?_
  · exact sn_mf
  · refine sn_iload_n (v := a1) (pc' := 25) dJ5_append_c97b9_24 rfl rfl rfl ?_
    refine sn_iload_n (v := (v1 + v2)) (pc' := 26) dJ5_append_c97b9_25 rfl rfl rfl ?_
    refine sn_aload_n (v := (some this)) (pc' := 27) dJ5_append_c97b9_26 rfl rfl rfl ?_
    refine sn_gR (k := 0) (pc' := 30) ci_1 rfl (Or.inl tw251) dJ5_append_c97b9_27 rfl (fun v4 => ?_)
    refine sn_cS (st := []) (As := [.int a1, .int (v1 + v2), va_rf v4]) (st2 := (fun v => .int v :: [])) (pc' := 33) (c_J6_getChars_ba4f3 G a1 (v1 + v2) v4) cw_J6_getChars_ba4f3 rfl rfl tw759 tw760 rfl rfl cat_nil rfl (fun _ => rfl) dJ5_append_c97b9_30 rfl (fun v5 => ?_)
    refine sn_pop (pc' := 34) dJ5_append_c97b9_33 rfl rfl ?_
    refine sn_goto (pc' := 48) dJ5_append_c97b9_34 rfl ?_
    refine sn_aload_n (v := (some this)) (pc' := 49) dJ5_append_c97b9_48 rfl rfl rfl ?_
    refine sn_iload_n (v := (v1 + v2)) (pc' := 50) dJ5_append_c97b9_49 rfl rfl rfl ?_
    refine sn_pI (k := 3) (pc' := 53) ci_1 rfl (Or.inl tw255) (Or.inl rfl) rfl dJ5_append_c97b9_50 rfl (fun _ => ?_)
    refine sn_aload_n (v := (some this)) (pc' := 54) dJ5_append_c97b9_53 rfl rfl rfl ?_
    exact sn_aret dJ5_append_c97b9_54 rfl (Or.inl ⟨_, rfl⟩)
theorem c_J5_append_c97b9 (G : GG) (this : Nat) (a1 : Int32) : Cal G yJ5_append_c97b9 cJ5_append_c97b9 4 (some (FieldType.object "java/lang/AbstractStringBuilder")) 4 84 (fun v : Option Nat => some (va_rf v)) (J5_append_c97b9 this a1) [.ref this, .int a1] :=
  Cal.of (by decide) (cat_t (cat_i cat_nil)) rfl (sn_weak (le_s (le_s (le_z (le_z le_e)))) (s_J5_append_c97b9 G this a1))
theorem cw_J5_append_c97b9 : CW yJ5_append_c97b9 cJ5_append_c97b9 4 (some (FieldType.object "java/lang/AbstractStringBuilder")) 1 := ⟨tw755, tw11, by decide, by decide +kernel⟩
/-! J4_append_bf812 -/
theorem dJ4_append_bf812_0 : decode cJ4_append_bf812 0 = .ok (.aload_n 0, 1) := by decide +kernel
theorem dJ4_append_bf812_1 : decode cJ4_append_bf812 1 = .ok (.iload_n 1, 1) := by decide +kernel
theorem dJ4_append_bf812_2 : decode cJ4_append_bf812 2 = .ok (.invokespecial 53, 3) := by decide +kernel
theorem dJ4_append_bf812_5 : decode cJ4_append_bf812 5 = .ok (.pop, 1) := by decide +kernel
theorem dJ4_append_bf812_6 : decode cJ4_append_bf812 6 = .ok (.aload_n 0, 1) := by decide +kernel
theorem dJ4_append_bf812_7 : decode cJ4_append_bf812 7 = .ok (.areturn, 1) := by decide +kernel
def J4_append_bf812 (this : Nat) (a1 : Int32) : MM (Option Nat) :=
  mb (wc 1 (some this) fun t => J5_append_c97b9 t a1) fun v1 =>
  mr (some this)
set_option maxRecDepth 100000 in
set_option maxHeartbeats 4000000 in
theorem s_J4_append_bf812 (G : GG) (this : Nat) (a1 : Int32) : Sn G yJ4_append_bf812 cJ4_append_bf812 2 (some (FieldType.object "java/lang/StringBuilder")) 5 107 (fun v : Option Nat => some (va_rf v)) (J4_append_bf812 this a1) 0 [some (va_rf (some this)), some (.int a1)] [] := by
  unfold J4_append_bf812
  refine sn_aload_n (v := (some this)) (pc' := 1) dJ4_append_bf812_0 rfl rfl rfl ?_
  refine sn_iload_n (v := a1) (pc' := 2) dJ4_append_bf812_1 rfl rfl rfl ?_
  refine sn_cU (r := (some this)) (st := []) (As := [.int a1]) (st2 := (fun v => va_rf v :: [])) (pc' := 5) ci_1 (fun t => c_J5_append_c97b9 G t a1) cw_J5_append_c97b9 rfl rfl tw753 tw1774 tw264 tw754 (by decide) rfl rfl cat_nil rfl (fun _ => rfl) dJ4_append_bf812_2 rfl (fun v1 => ?_)
  refine sn_pop (pc' := 6) dJ4_append_bf812_5 rfl (cat_rf _) ?_
  refine sn_aload_n (v := (some this)) (pc' := 7) dJ4_append_bf812_6 rfl rfl rfl ?_
  exact sn_aret dJ4_append_bf812_7 rfl (Or.inl ⟨_, rfl⟩)
theorem c_J4_append_bf812 (G : GG) (this : Nat) (a1 : Int32) : Cal G yJ4_append_bf812 cJ4_append_bf812 2 (some (FieldType.object "java/lang/StringBuilder")) 5 107 (fun v : Option Nat => some (va_rf v)) (J4_append_bf812 this a1) [.ref this, .int a1] :=
  Cal.of (by decide) (cat_t (cat_i cat_nil)) rfl (sn_weak (le_s (le_s le_e)) (s_J4_append_bf812 G this a1))
theorem cw_J4_append_bf812 : CW yJ4_append_bf812 cJ4_append_bf812 2 (some (FieldType.object "java/lang/StringBuilder")) 1 := ⟨tw752, tw12, by decide, by decide +kernel⟩
/-! J5_length_8abf5 -/
theorem dJ5_length_8abf5_0 : decode cJ5_length_8abf5 0 = .ok (.aload_n 0, 1) := by decide +kernel
theorem dJ5_length_8abf5_1 : decode cJ5_length_8abf5 1 = .ok (.getfield 79, 3) := by decide +kernel
theorem dJ5_length_8abf5_4 : decode cJ5_length_8abf5 4 = .ok (.ireturn, 1) := by decide +kernel
def J5_length_8abf5 (this : Nat) : MM Int32 :=
  mb (gI 1 (some this) 3) fun v1 =>
  mr v1
set_option maxRecDepth 100000 in
set_option maxHeartbeats 4000000 in
theorem s_J5_length_8abf5 (G : GG) (this : Nat) : Sn G yJ5_length_8abf5 cJ5_length_8abf5 1 (some FieldType.int) 0 0 (fun v : Int32 => some (.int v)) (J5_length_8abf5 this) 0 [some (va_rf (some this))] [] := by
  unfold J5_length_8abf5
  refine sn_aload_n (v := (some this)) (pc' := 1) dJ5_length_8abf5_0 rfl rfl rfl ?_
  refine sn_gI (k := 3) (pc' := 4) ci_1 rfl (Or.inl tw255) dJ5_length_8abf5_1 rfl (fun v1 => ?_)
  exact sn_iret dJ5_length_8abf5_4 rfl rfl
theorem c_J5_length_8abf5 (G : GG) (this : Nat) : Cal G yJ5_length_8abf5 cJ5_length_8abf5 1 (some FieldType.int) 0 0 (fun v : Int32 => some (.int v)) (J5_length_8abf5 this) [.ref this] :=
  Cal.of (by decide) (cat_t cat_nil) rfl (sn_weak (le_s le_e) (s_J5_length_8abf5 G this))
theorem cw_J5_length_8abf5 : CW yJ5_length_8abf5 cJ5_length_8abf5 1 (some FieldType.int) 0 := ⟨tw780, tw11, by decide, by decide +kernel⟩
/-! J4_length_8abf5 -/
theorem dJ4_length_8abf5_0 : decode cJ4_length_8abf5 0 = .ok (.aload_n 0, 1) := by decide +kernel
theorem dJ4_length_8abf5_1 : decode cJ4_length_8abf5 1 = .ok (.invokespecial 343, 3) := by decide +kernel
theorem dJ4_length_8abf5_4 : decode cJ4_length_8abf5 4 = .ok (.ireturn, 1) := by decide +kernel
def J4_length_8abf5 (this : Nat) : MM Int32 :=
  mb (wc 1 (some this) fun t => J5_length_8abf5 t ) fun v1 =>
  mr v1
set_option maxRecDepth 100000 in
set_option maxHeartbeats 4000000 in
theorem s_J4_length_8abf5 (G : GG) (this : Nat) : Sn G yJ4_length_8abf5 cJ4_length_8abf5 1 (some FieldType.int) 1 20 (fun v : Int32 => some (.int v)) (J4_length_8abf5 this) 0 [some (va_rf (some this))] [] := by
  unfold J4_length_8abf5
  refine sn_aload_n (v := (some this)) (pc' := 1) dJ4_length_8abf5_0 rfl rfl rfl ?_
  refine sn_cU (r := (some this)) (st := []) (As := []) (st2 := (fun v => .int v :: [])) (pc' := 4) ci_1 (fun t => c_J5_length_8abf5 G t ) cw_J5_length_8abf5 rfl rfl tw778 tw1775 tw264 tw779 (by decide) rfl rfl cat_nil rfl (fun _ => rfl) dJ4_length_8abf5_1 rfl (fun v1 => ?_)
  exact sn_iret dJ4_length_8abf5_4 rfl rfl
theorem c_J4_length_8abf5 (G : GG) (this : Nat) : Cal G yJ4_length_8abf5 cJ4_length_8abf5 1 (some FieldType.int) 1 20 (fun v : Int32 => some (.int v)) (J4_length_8abf5 this) [.ref this] :=
  Cal.of (by decide) (cat_t cat_nil) rfl (sn_weak (le_s le_e) (s_J4_length_8abf5 G this))
theorem cw_J4_length_8abf5 : CW yJ4_length_8abf5 cJ4_length_8abf5 1 (some FieldType.int) 0 := ⟨tw777, tw12, by decide, by decide +kernel⟩
/-! X6_fateOf -/
theorem dX6_fateOf_0 : decode cX6_fateOf 0 = .ok (.iload_n 1, 1) := by decide +kernel
theorem dX6_fateOf_1 : decode cX6_fateOf 1 = .ok (.ifCond .lt 12, 3) := by decide +kernel
theorem dX6_fateOf_4 : decode cX6_fateOf 4 = .ok (.iload_n 1, 1) := by decide +kernel
theorem dX6_fateOf_5 : decode cX6_fateOf 5 = .ok (.aload_n 0, 1) := by decide +kernel
theorem dX6_fateOf_6 : decode cX6_fateOf 6 = .ok (.getfield 18, 3) := by decide +kernel
theorem dX6_fateOf_9 : decode cX6_fateOf 9 = .ok (.arraylength, 1) := by decide +kernel
theorem dX6_fateOf_10 : decode cX6_fateOf 10 = .ok (.if_icmp .lt 7, 3) := by decide +kernel
theorem dX6_fateOf_13 : decode cX6_fateOf 13 = .ok (.iconst 0, 1) := by decide +kernel
theorem dX6_fateOf_14 : decode cX6_fateOf 14 = .ok (.goto 9, 3) := by decide +kernel
theorem dX6_fateOf_17 : decode cX6_fateOf 17 = .ok (.aload_n 0, 1) := by decide +kernel
theorem dX6_fateOf_18 : decode cX6_fateOf 18 = .ok (.getfield 18, 3) := by decide +kernel
theorem dX6_fateOf_21 : decode cX6_fateOf 21 = .ok (.iload_n 1, 1) := by decide +kernel
theorem dX6_fateOf_22 : decode cX6_fateOf 22 = .ok (.baload, 1) := by decide +kernel
theorem dX6_fateOf_23 : decode cX6_fateOf 23 = .ok (.ireturn, 1) := by decide +kernel
def X6_fateOf (this : Nat) (a1 : Int32) : MM Int32 :=
  if a1 < 0 then (mr (0 : Int32)) else (mb (gR 7 (some this) 2) fun v1 =>
  mb (aN v1) fun v2 =>
  if a1 < v2 then (mb (gR 7 (some this) 2) fun v3 =>
  mb (aB v3 a1) fun v4 =>
  mr v4) else (mr (0 : Int32)))
set_option maxRecDepth 100000 in
set_option maxHeartbeats 4000000 in
theorem s_X6_fateOf (G : GG) (this : Nat) (a1 : Int32) : Sn G yX6_fateOf cX6_fateOf 2 (some FieldType.int) 0 0 (fun v : Int32 => some (.int v)) (X6_fateOf this a1) 0 [some (va_rf (some this)), some (.int a1)] [] := by
  unfold X6_fateOf
  refine sn_iload_n (v := a1) (pc' := 1) dX6_fateOf_0 rfl rfl rfl ?_
  refine sn_if_lt (pt := 13) (pf := 4) dX6_fateOf_1 rfl rfl ?_ ?_
  · refine sn_iconst (v := (0 : Int32)) (pc' := 14) dX6_fateOf_13 rfl (by decide) ?_
    refine sn_goto (pc' := 23) dX6_fateOf_14 rfl ?_
    exact sn_iret dX6_fateOf_23 rfl rfl
  · refine sn_iload_n (v := a1) (pc' := 5) dX6_fateOf_4 rfl rfl rfl ?_
    refine sn_aload_n (v := (some this)) (pc' := 6) dX6_fateOf_5 rfl rfl rfl ?_
    refine sn_gR (k := 2) (pc' := 9) ci_7 rfl (Or.inl tw188) dX6_fateOf_6 rfl (fun v1 => ?_)
    refine sn_aN (pc' := 10) dX6_fateOf_9 rfl (fun v2 => ?_)
    refine sn_ic_lt (pt := 17) (pf := 13) dX6_fateOf_10 rfl rfl ?_ ?_
    · refine sn_aload_n (v := (some this)) (pc' := 18) dX6_fateOf_17 rfl rfl rfl ?_
      refine sn_gR (k := 2) (pc' := 21) ci_7 rfl (Or.inl tw188) dX6_fateOf_18 rfl (fun v3 => ?_)
      refine sn_iload_n (v := a1) (pc' := 22) dX6_fateOf_21 rfl rfl rfl ?_
      refine sn_aB (pc' := 23) dX6_fateOf_22 rfl (fun v4 => ?_)
      exact sn_iret dX6_fateOf_23 rfl rfl
    · refine sn_iconst (v := (0 : Int32)) (pc' := 14) dX6_fateOf_13 rfl (by decide) ?_
      refine sn_goto (pc' := 23) dX6_fateOf_14 rfl ?_
      exact sn_iret dX6_fateOf_23 rfl rfl
theorem c_X6_fateOf (G : GG) (this : Nat) (a1 : Int32) : Cal G yX6_fateOf cX6_fateOf 2 (some FieldType.int) 0 0 (fun v : Int32 => some (.int v)) (X6_fateOf this a1) [.ref this, .int a1] :=
  Cal.of (by decide) (cat_t (cat_i cat_nil)) rfl (sn_weak (le_s (le_s le_e)) (s_X6_fateOf G this a1))
theorem cw_X6_fateOf : CW yX6_fateOf cX6_fateOf 2 (some FieldType.int) 1 := ⟨tw789, tw8, by decide, by decide +kernel⟩
/-! X9_writeChangesOf -/
theorem dX9_writeChangesOf_0 : decode cX9_writeChangesOf 0 = .ok (.iconst 1, 1) := by decide +kernel
theorem dX9_writeChangesOf_1 : decode cX9_writeChangesOf 1 = .ok (.istore 4, 2) := by decide +kernel
theorem dX9_writeChangesOf_3 : decode cX9_writeChangesOf 3 = .ok (.iload 4, 2) := by decide +kernel
theorem dX9_writeChangesOf_5 : decode cX9_writeChangesOf 5 = .ok (.aload_n 1, 1) := by decide +kernel
theorem dX9_writeChangesOf_6 : decode cX9_writeChangesOf 6 = .ok (.iload_n 2, 1) := by decide +kernel
theorem dX9_writeChangesOf_7 : decode cX9_writeChangesOf 7 = .ok (.invokevirtual 73, 3) := by decide +kernel
theorem dX9_writeChangesOf_10 : decode cX9_writeChangesOf 10 = .ok (.if_icmp .gt 142, 3) := by decide +kernel
theorem dX9_writeChangesOf_13 : decode cX9_writeChangesOf 13 = .ok (.aload_n 1, 1) := by decide +kernel
theorem dX9_writeChangesOf_14 : decode cX9_writeChangesOf 14 = .ok (.iload_n 2, 1) := by decide +kernel
theorem dX9_writeChangesOf_15 : decode cX9_writeChangesOf 15 = .ok (.iload 4, 2) := by decide +kernel
theorem dX9_writeChangesOf_17 : decode cX9_writeChangesOf 17 = .ok (.invokevirtual 93, 3) := by decide +kernel
theorem dX9_writeChangesOf_20 : decode cX9_writeChangesOf 20 = .ok (.istore 5, 2) := by decide +kernel
theorem dX9_writeChangesOf_22 : decode cX9_writeChangesOf 22 = .ok (.aload_n 1, 1) := by decide +kernel
theorem dX9_writeChangesOf_23 : decode cX9_writeChangesOf 23 = .ok (.iload 5, 2) := by decide +kernel
theorem dX9_writeChangesOf_25 : decode cX9_writeChangesOf 25 = .ok (.invokevirtual 97, 3) := by decide +kernel
theorem dX9_writeChangesOf_28 : decode cX9_writeChangesOf 28 = .ok (.istore 6, 2) := by decide +kernel
theorem dX9_writeChangesOf_30 : decode cX9_writeChangesOf 30 = .ok (.aload_n 1, 1) := by decide +kernel
theorem dX9_writeChangesOf_31 : decode cX9_writeChangesOf 31 = .ok (.iload 5, 2) := by decide +kernel
theorem dX9_writeChangesOf_33 : decode cX9_writeChangesOf 33 = .ok (.invokevirtual 100, 3) := by decide +kernel
theorem dX9_writeChangesOf_36 : decode cX9_writeChangesOf 36 = .ok (.istore 7, 2) := by decide +kernel
theorem dX9_writeChangesOf_38 : decode cX9_writeChangesOf 38 = .ok (.iload 6, 2) := by decide +kernel
theorem dX9_writeChangesOf_40 : decode cX9_writeChangesOf 40 = .ok (.ifCond .eq 50, 3) := by decide +kernel
theorem dX9_writeChangesOf_43 : decode cX9_writeChangesOf 43 = .ok (.aload_n 0, 1) := by decide +kernel
theorem dX9_writeChangesOf_44 : decode cX9_writeChangesOf 44 = .ok (.getfield 12, 3) := by decide +kernel
theorem dX9_writeChangesOf_47 : decode cX9_writeChangesOf 47 = .ok (.aload_n 0, 1) := by decide +kernel
theorem dX9_writeChangesOf_48 : decode cX9_writeChangesOf 48 = .ok (.getfield 12, 3) := by decide +kernel
theorem dX9_writeChangesOf_51 : decode cX9_writeChangesOf 51 = .ok (.invokevirtual 86, 3) := by decide +kernel
theorem dX9_writeChangesOf_54 : decode cX9_writeChangesOf 54 = .ok (.iload_n 3, 1) := by decide +kernel
theorem dX9_writeChangesOf_55 : decode cX9_writeChangesOf 55 = .ok (.if_icmp .le 8, 3) := by decide +kernel
theorem dX9_writeChangesOf_58 : decode cX9_writeChangesOf 58 = .ok (.bipush 44, 2) := by decide +kernel
theorem dX9_writeChangesOf_60 : decode cX9_writeChangesOf 60 = .ok (.goto 5, 3) := by decide +kernel
theorem dX9_writeChangesOf_63 : decode cX9_writeChangesOf 63 = .ok (.bipush 40, 2) := by decide +kernel
theorem dX9_writeChangesOf_65 : decode cX9_writeChangesOf 65 = .ok (.invokevirtual 76, 3) := by decide +kernel
theorem dX9_writeChangesOf_68 : decode cX9_writeChangesOf 68 = .ok (.iload 6, 2) := by decide +kernel
theorem dX9_writeChangesOf_70 : decode cX9_writeChangesOf 70 = .ok (.i2c, 1) := by decide +kernel
theorem dX9_writeChangesOf_71 : decode cX9_writeChangesOf 71 = .ok (.invokevirtual 76, 3) := by decide +kernel
theorem dX9_writeChangesOf_74 : decode cX9_writeChangesOf 74 = .ok (.pop, 1) := by decide +kernel
theorem dX9_writeChangesOf_75 : decode cX9_writeChangesOf 75 = .ok (.aload_n 0, 1) := by decide +kernel
theorem dX9_writeChangesOf_76 : decode cX9_writeChangesOf 76 = .ok (.iload_n 2, 1) := by decide +kernel
theorem dX9_writeChangesOf_77 : decode cX9_writeChangesOf 77 = .ok (.invokevirtual 80, 3) := by decide +kernel
theorem dX9_writeChangesOf_80 : decode cX9_writeChangesOf 80 = .ok (.aload_n 0, 1) := by decide +kernel
theorem dX9_writeChangesOf_81 : decode cX9_writeChangesOf 81 = .ok (.getfield 12, 3) := by decide +kernel
theorem dX9_writeChangesOf_84 : decode cX9_writeChangesOf 84 = .ok (.iload 4, 2) := by decide +kernel
theorem dX9_writeChangesOf_86 : decode cX9_writeChangesOf 86 = .ok (.invokevirtual 83, 3) := by decide +kernel
theorem dX9_writeChangesOf_89 : decode cX9_writeChangesOf 89 = .ok (.pop, 1) := by decide +kernel
theorem dX9_writeChangesOf_90 : decode cX9_writeChangesOf 90 = .ok (.iload 7, 2) := by decide +kernel
theorem dX9_writeChangesOf_92 : decode cX9_writeChangesOf 92 = .ok (.ifCond .le 54, 3) := by decide +kernel
theorem dX9_writeChangesOf_95 : decode cX9_writeChangesOf 95 = .ok (.aload_n 0, 1) := by decide +kernel
theorem dX9_writeChangesOf_96 : decode cX9_writeChangesOf 96 = .ok (.getfield 12, 3) := by decide +kernel
theorem dX9_writeChangesOf_99 : decode cX9_writeChangesOf 99 = .ok (.aload_n 0, 1) := by decide +kernel
theorem dX9_writeChangesOf_100 : decode cX9_writeChangesOf 100 = .ok (.getfield 12, 3) := by decide +kernel
theorem dX9_writeChangesOf_103 : decode cX9_writeChangesOf 103 = .ok (.invokevirtual 86, 3) := by decide +kernel
theorem dX9_writeChangesOf_106 : decode cX9_writeChangesOf 106 = .ok (.iload_n 3, 1) := by decide +kernel
theorem dX9_writeChangesOf_107 : decode cX9_writeChangesOf 107 = .ok (.if_icmp .le 8, 3) := by decide +kernel
theorem dX9_writeChangesOf_110 : decode cX9_writeChangesOf 110 = .ok (.bipush 44, 2) := by decide +kernel
theorem dX9_writeChangesOf_112 : decode cX9_writeChangesOf 112 = .ok (.goto 5, 3) := by decide +kernel
theorem dX9_writeChangesOf_115 : decode cX9_writeChangesOf 115 = .ok (.bipush 40, 2) := by decide +kernel
theorem dX9_writeChangesOf_117 : decode cX9_writeChangesOf 117 = .ok (.invokevirtual 76, 3) := by decide +kernel
theorem dX9_writeChangesOf_120 : decode cX9_writeChangesOf 120 = .ok (.pop, 1) := by decide +kernel
theorem dX9_writeChangesOf_121 : decode cX9_writeChangesOf 121 = .ok (.aload_n 0, 1) := by decide +kernel
theorem dX9_writeChangesOf_122 : decode cX9_writeChangesOf 122 = .ok (.iload_n 2, 1) := by decide +kernel
theorem dX9_writeChangesOf_123 : decode cX9_writeChangesOf 123 = .ok (.invokevirtual 80, 3) := by decide +kernel
theorem dX9_writeChangesOf_126 : decode cX9_writeChangesOf 126 = .ok (.aload_n 0, 1) := by decide +kernel
theorem dX9_writeChangesOf_127 : decode cX9_writeChangesOf 127 = .ok (.getfield 12, 3) := by decide +kernel
theorem dX9_writeChangesOf_130 : decode cX9_writeChangesOf 130 = .ok (.iload 4, 2) := by decide +kernel
theorem dX9_writeChangesOf_132 : decode cX9_writeChangesOf 132 = .ok (.invokevirtual 83, 3) := by decide +kernel
theorem dX9_writeChangesOf_135 : decode cX9_writeChangesOf 135 = .ok (.bipush 43, 2) := by decide +kernel
theorem dX9_writeChangesOf_137 : decode cX9_writeChangesOf 137 = .ok (.invokevirtual 76, 3) := by decide +kernel
theorem dX9_writeChangesOf_140 : decode cX9_writeChangesOf 140 = .ok (.iload 7, 2) := by decide +kernel
theorem dX9_writeChangesOf_142 : decode cX9_writeChangesOf 142 = .ok (.invokevirtual 83, 3) := by decide +kernel
theorem dX9_writeChangesOf_145 : decode cX9_writeChangesOf 145 = .ok (.pop, 1) := by decide +kernel
theorem dX9_writeChangesOf_146 : decode cX9_writeChangesOf 146 = .ok (.iinc 4 1, 3) := by decide +kernel
theorem dX9_writeChangesOf_149 : decode cX9_writeChangesOf 149 = .ok (.goto (-146), 3) := by decide +kernel
theorem dX9_writeChangesOf_152 : decode cX9_writeChangesOf 152 = .ok (.return_, 1) := by decide +kernel
def X9_writeChangesOf_146 (k3 : Nat → Option Nat → Int32 → Int32 → Int32 → MM Unit) (this : Nat) (x1 : Option Nat) (x2 : Int32) (x3 : Int32) (x4 : Int32) : MM Unit :=
  (k3 this x1 x2 x3 (x4 + (1 : Int32)))
def X9_writeChangesOf_117 (k3 : Nat → Option Nat → Int32 → Int32 → Int32 → MM Unit) (this : Nat) (x1 : Option Nat) (x2 : Int32) (x3 : Int32) (x4 : Int32) (x7 : Int32) (y0 : Int32) (y1 : Option Nat) : MM Unit :=
  mb (wc 1 y1 fun t => J4_append_cf468 t y0) fun v1 =>
  mb (wc 10 (some this) fun t => X9_writeSign t x2) fun _ =>
  mb (gR 10 (some this) 0) fun v2 =>
  mb (wc 1 v2 fun t => J4_append_bf812 t x4) fun v3 =>
  mb (wc 1 v3 fun t => J4_append_cf468 t (43 : Int32)) fun v4 =>
  mb (wc 1 v4 fun t => J4_append_bf812 t x7) fun v5 =>
  (X9_writeChangesOf_146 k3 this x1 x2 x3 x4)
def X9_writeChangesOf_90 (k3 : Nat → Option Nat → Int32 → Int32 → Int32 → MM Unit) (this : Nat) (x1 : Option Nat) (x2 : Int32) (x3 : Int32) (x4 : Int32) (x7 : Int32) : MM Unit :=
  if x7 ≤ 0 then ((X9_writeChangesOf_146 k3 this x1 x2 x3 x4)) else (mb (gR 10 (some this) 0) fun v1 =>
  mb (gR 10 (some this) 0) fun v2 =>
  mb (wc 1 v2 fun t => J4_length_8abf5 t ) fun v3 =>
  if v3 ≤ x3 then ((X9_writeChangesOf_117 k3 this x1 x2 x3 x4 x7 (40 : Int32) v1)) else ((X9_writeChangesOf_117 k3 this x1 x2 x3 x4 x7 (44 : Int32) v1)))
def X9_writeChangesOf_65 (k3 : Nat → Option Nat → Int32 → Int32 → Int32 → MM Unit) (this : Nat) (x1 : Option Nat) (x2 : Int32) (x3 : Int32) (x4 : Int32) (x6 : Int32) (x7 : Int32) (y0 : Int32) (y1 : Option Nat) : MM Unit :=
  mb (wc 1 y1 fun t => J4_append_cf468 t y0) fun v1 =>
  mb (wc 1 v1 fun t => J4_append_cf468 t (((x6).toUInt32 % 65536).toInt32)) fun v2 =>
  mb (wc 10 (some this) fun t => X9_writeSign t x2) fun _ =>
  mb (gR 10 (some this) 0) fun v3 =>
  mb (wc 1 v3 fun t => J4_append_bf812 t x4) fun v4 =>
  (X9_writeChangesOf_90 k3 this x1 x2 x3 x4 x7)
def X9_writeChangesOf_3_st  (k3 : Nat → Option Nat → Int32 → Int32 → Int32 → MM Unit) (this : Nat) (x1 : Option Nat) (x2 : Int32) (x3 : Int32) (x4 : Int32) : MM Unit :=
  mb (wc 7 x1 fun t => X6_sizeOf t x2) fun v1 =>
  if v1 < x4 then (mr ()) else (mb (wc 7 x1 fun t => X6_slotOf t x2 x4) fun v2 =>
  mb (wc 7 x1 fun t => X6_fateOf t v2) fun v3 =>
  mb (wc 7 x1 fun t => X6_insertedAt t v2) fun v4 =>
  if v3 = 0 then ((X9_writeChangesOf_90 k3 this x1 x2 x3 x4 v4)) else (mb (gR 10 (some this) 0) fun v5 =>
  mb (gR 10 (some this) 0) fun v6 =>
  mb (wc 1 v6 fun t => J4_length_8abf5 t ) fun v7 =>
  if v7 ≤ x3 then ((X9_writeChangesOf_65 k3 this x1 x2 x3 x4 v3 v4 (40 : Int32) v5)) else ((X9_writeChangesOf_65 k3 this x1 x2 x3 x4 v3 v4 (44 : Int32) v5))))
def X9_writeChangesOf_3  : Nat → Nat → Option Nat → Int32 → Int32 → Int32 → MM Unit
  | 0 => fun _ _ _ _ _ => mf
  | n + 1 => fun this x1 x2 x3 x4 => X9_writeChangesOf_3_st  (X9_writeChangesOf_3  n) this x1 x2 x3 x4
def X9_writeChangesOf (this : Nat) (a1 : Option Nat) (a2 : Int32) (a3 : Int32) : MM Unit :=
  (X9_writeChangesOf_3 LFU this a1 a2 a3 (1 : Int32))
set_option maxRecDepth 100000 in
set_option maxHeartbeats 4000000 in
theorem s_X9_writeChangesOf_146 (G : GG) (k3 : Nat → Option Nat → Int32 → Int32 → Int32 → MM Unit) (hk3 : ∀ (this : Nat) (x1 : Option Nat) (x2 : Int32) (x3 : Int32) (x4 : Int32), Sn G yX9_writeChangesOf cX9_writeChangesOf 8 none 7 151 (fun _ : Unit => none) (k3 this x1 x2 x3 x4) 3 [some (va_rf (some this)), some (va_rf x1), some (.int x2), some (.int x3), some (.int x4), none, none, none] []) (this : Nat) (x1 : Option Nat) (x2 : Int32) (x3 : Int32) (x4 : Int32) : Sn G yX9_writeChangesOf cX9_writeChangesOf 8 none 7 151 (fun _ : Unit => none) (X9_writeChangesOf_146 k3 this x1 x2 x3 x4) 146 [some (va_rf (some this)), some (va_rf x1), some (.int x2), some (.int x3), some (.int x4), none, none, none] [] := by
  unfold X9_writeChangesOf_146
  refine sn_iinc (v := x4) (w := 1) (L' := [some (va_rf (some this)), some (va_rf x1), some (.int x2), some (.int x3), some (.int (x4 + (1 : Int32))), none, none, none]) (pc' := 149) dX9_writeChangesOf_146 rfl rfl rfl (by decide) rfl ?_
  refine sn_goto (pc' := 3) dX9_writeChangesOf_149 rfl ?_
  exact sn_weak (le_s (le_s (le_s (le_s (le_s (le_n (le_n (le_n le_e)))))))) (hk3 this x1 x2 x3 (x4 + (1 : Int32)))
set_option maxRecDepth 100000 in
set_option maxHeartbeats 4000000 in
theorem s_X9_writeChangesOf_117 (G : GG) (k3 : Nat → Option Nat → Int32 → Int32 → Int32 → MM Unit) (hk3 : ∀ (this : Nat) (x1 : Option Nat) (x2 : Int32) (x3 : Int32) (x4 : Int32), Sn G yX9_writeChangesOf cX9_writeChangesOf 8 none 7 151 (fun _ : Unit => none) (k3 this x1 x2 x3 x4) 3 [some (va_rf (some this)), some (va_rf x1), some (.int x2), some (.int x3), some (.int x4), none, none, none] []) (this : Nat) (x1 : Option Nat) (x2 : Int32) (x3 : Int32) (x4 : Int32) (x7 : Int32) (y0 : Int32) (y1 : Option Nat) : Sn G yX9_writeChangesOf cX9_writeChangesOf 8 none 7 151 (fun _ : Unit => none) (X9_writeChangesOf_117 k3 this x1 x2 x3 x4 x7 y0 y1) 117 [some (va_rf (some this)), some (va_rf x1), some (.int x2), some (.int x3), some (.int x4), none, none, some (.int x7)] [.int y0, va_rf y1] := by
  unfold X9_writeChangesOf_117
  refine sn_cV (r := y1) (st := []) (As := [.int y0]) (st2 := (fun v => va_rf v :: [])) (pc' := 120) ci_1 (fun t => c_J4_append_cf468 G t y0) cw_J4_append_cf468 rfl rfl tw656 tw658 tw657 rfl rfl cat_nil rfl (fun _ => rfl) dX9_writeChangesOf_117 rfl (fun v1 => ?_)
  refine sn_pop (pc' := 121) dX9_writeChangesOf_120 rfl (cat_rf _) ?_
  refine sn_aload_n (v := (some this)) (pc' := 122) dX9_writeChangesOf_121 rfl rfl rfl ?_
  refine sn_iload_n (v := x2) (pc' := 123) dX9_writeChangesOf_122 rfl rfl rfl ?_
  refine sn_cV (r := (some this)) (st := []) (As := [.int x2]) (st2 := (fun _ => [])) (pc' := 126) ci_10 (fun t => c_X9_writeSign G t x2) cw_X9_writeSign rfl rfl tw700 pw18 tw702 rfl rfl cat_nil rfl (fun _ => rfl) dX9_writeChangesOf_123 rfl (fun _ => ?_)
  refine sn_aload_n (v := (some this)) (pc' := 127) dX9_writeChangesOf_126 rfl rfl rfl ?_
  refine sn_gR (k := 0) (pc' := 130) ci_10 rfl (Or.inl tw265) dX9_writeChangesOf_127 rfl (fun v2 => ?_)
  refine sn_iload (v := x4) (pc' := 132) dX9_writeChangesOf_130 rfl rfl ?_
  refine sn_cV (r := v2) (st := []) (As := [.int x4]) (st2 := (fun v => va_rf v :: [])) (pc' := 135) ci_1 (fun t => c_J4_append_bf812 G t x4) cw_J4_append_bf812 rfl rfl tw749 tw751 tw750 rfl rfl cat_nil rfl (fun _ => rfl) dX9_writeChangesOf_132 rfl (fun v3 => ?_)
  refine sn_bipush (v := (43 : Int32)) (pc' := 137) dX9_writeChangesOf_135 rfl (by decide) ?_
  refine sn_cV (r := v3) (st := []) (As := [.int (43 : Int32)]) (st2 := (fun v => va_rf v :: [])) (pc' := 140) ci_1 (fun t => c_J4_append_cf468 G t (43 : Int32)) cw_J4_append_cf468 rfl rfl tw656 tw658 tw657 rfl rfl cat_nil rfl (fun _ => rfl) dX9_writeChangesOf_137 rfl (fun v4 => ?_)
  refine sn_iload (v := x7) (pc' := 142) dX9_writeChangesOf_140 rfl rfl ?_
  refine sn_cV (r := v4) (st := []) (As := [.int x7]) (st2 := (fun v => va_rf v :: [])) (pc' := 145) ci_1 (fun t => c_J4_append_bf812 G t x7) cw_J4_append_bf812 rfl rfl tw749 tw751 tw750 rfl rfl cat_nil rfl (fun _ => rfl) dX9_writeChangesOf_142 rfl (fun v5 => ?_)
  refine sn_pop (pc' := 146) dX9_writeChangesOf_145 rfl (cat_rf _) ?_
  exact sn_weak (le_s (le_s (le_s (le_s (le_s (le_n (le_n (le_n le_e)))))))) (s_X9_writeChangesOf_146 G k3 hk3 this x1 x2 x3 x4)
set_option maxRecDepth 100000 in
set_option maxHeartbeats 4000000 in
theorem s_X9_writeChangesOf_90 (G : GG) (k3 : Nat → Option Nat → Int32 → Int32 → Int32 → MM Unit) (hk3 : ∀ (this : Nat) (x1 : Option Nat) (x2 : Int32) (x3 : Int32) (x4 : Int32), Sn G yX9_writeChangesOf cX9_writeChangesOf 8 none 7 151 (fun _ : Unit => none) (k3 this x1 x2 x3 x4) 3 [some (va_rf (some this)), some (va_rf x1), some (.int x2), some (.int x3), some (.int x4), none, none, none] []) (this : Nat) (x1 : Option Nat) (x2 : Int32) (x3 : Int32) (x4 : Int32) (x7 : Int32) : Sn G yX9_writeChangesOf cX9_writeChangesOf 8 none 7 151 (fun _ : Unit => none) (X9_writeChangesOf_90 k3 this x1 x2 x3 x4 x7) 90 [some (va_rf (some this)), some (va_rf x1), some (.int x2), some (.int x3), some (.int x4), none, none, some (.int x7)] [] := by
  unfold X9_writeChangesOf_90
  refine sn_iload (v := x7) (pc' := 92) dX9_writeChangesOf_90 rfl rfl ?_
  refine sn_if_le (pt := 146) (pf := 95) dX9_writeChangesOf_92 rfl rfl ?_ ?_
  · exact sn_weak (le_s (le_s (le_s (le_s (le_s (le_n (le_n (le_n le_e)))))))) (s_X9_writeChangesOf_146 G k3 hk3 this x1 x2 x3 x4)
  · refine sn_aload_n (v := (some this)) (pc' := 96) dX9_writeChangesOf_95 rfl rfl rfl ?_
    refine sn_gR (k := 0) (pc' := 99) ci_10 rfl (Or.inl tw265) dX9_writeChangesOf_96 rfl (fun v1 => ?_)
    refine sn_aload_n (v := (some this)) (pc' := 100) dX9_writeChangesOf_99 rfl rfl rfl ?_
    refine sn_gR (k := 0) (pc' := 103) ci_10 rfl (Or.inl tw265) dX9_writeChangesOf_100 rfl (fun v2 => ?_)
    refine sn_cV (r := v2) (st := [va_rf v1]) (As := []) (st2 := (fun v => .int v :: [va_rf v1])) (pc' := 106) ci_1 (fun t => c_J4_length_8abf5 G t ) cw_J4_length_8abf5 rfl rfl tw774 tw776 tw775 rfl rfl (cat_q cat_nil) rfl (fun _ => rfl) dX9_writeChangesOf_103 rfl (fun v3 => ?_)
    refine sn_iload_n (v := x3) (pc' := 107) dX9_writeChangesOf_106 rfl rfl rfl ?_
    refine sn_ic_le (pt := 115) (pf := 110) dX9_writeChangesOf_107 rfl rfl ?_ ?_
    · refine sn_bipush (v := (40 : Int32)) (pc' := 117) dX9_writeChangesOf_115 rfl (by decide) ?_
      exact sn_weak (le_s (le_s (le_s (le_s (le_s (le_n (le_n (le_s le_e)))))))) (s_X9_writeChangesOf_117 G k3 hk3 this x1 x2 x3 x4 x7 (40 : Int32) v1)
    · refine sn_bipush (v := (44 : Int32)) (pc' := 112) dX9_writeChangesOf_110 rfl (by decide) ?_
      refine sn_goto (pc' := 117) dX9_writeChangesOf_112 rfl ?_
      exact sn_weak (le_s (le_s (le_s (le_s (le_s (le_n (le_n (le_s le_e)))))))) (s_X9_writeChangesOf_117 G k3 hk3 this x1 x2 x3 x4 x7 (44 : Int32) v1)
set_option maxRecDepth 100000 in
set_option maxHeartbeats 4000000 in
theorem s_X9_writeChangesOf_65 (G : GG) (k3 : Nat → Option Nat → Int32 → Int32 → Int32 → MM Unit) (hk3 : ∀ (this : Nat) (x1 : Option Nat) (x2 : Int32) (x3 : Int32) (x4 : Int32), Sn G yX9_writeChangesOf cX9_writeChangesOf 8 none 7 151 (fun _ : Unit => none) (k3 this x1 x2 x3 x4) 3 [some (va_rf (some this)), some (va_rf x1), some (.int x2), some (.int x3), some (.int x4), none, none, none] []) (this : Nat) (x1 : Option Nat) (x2 : Int32) (x3 : Int32) (x4 : Int32) (x6 : Int32) (x7 : Int32) (y0 : Int32) (y1 : Option Nat) : Sn G yX9_writeChangesOf cX9_writeChangesOf 8 none 7 151 (fun _ : Unit => none) (X9_writeChangesOf_65 k3 this x1 x2 x3 x4 x6 x7 y0 y1) 65 [some (va_rf (some this)), some (va_rf x1), some (.int x2), some (.int x3), some (.int x4), none, some (.int x6), some (.int x7)] [.int y0, va_rf y1] := by
  unfold X9_writeChangesOf_65
  refine sn_cV (r := y1) (st := []) (As := [.int y0]) (st2 := (fun v => va_rf v :: [])) (pc' := 68) ci_1 (fun t => c_J4_append_cf468 G t y0) cw_J4_append_cf468 rfl rfl tw656 tw658 tw657 rfl rfl cat_nil rfl (fun _ => rfl) dX9_writeChangesOf_65 rfl (fun v1 => ?_)
  refine sn_iload (v := x6) (pc' := 70) dX9_writeChangesOf_68 rfl rfl ?_
  refine sn_i2c (pc' := 71) dX9_writeChangesOf_70 rfl ?_
  refine sn_cV (r := v1) (st := []) (As := [.int (((x6).toUInt32 % 65536).toInt32)]) (st2 := (fun v => va_rf v :: [])) (pc' := 74) ci_1 (fun t => c_J4_append_cf468 G t (((x6).toUInt32 % 65536).toInt32)) cw_J4_append_cf468 rfl rfl tw656 tw658 tw657 rfl rfl cat_nil rfl (fun _ => rfl) dX9_writeChangesOf_71 rfl (fun v2 => ?_)
  refine sn_pop (pc' := 75) dX9_writeChangesOf_74 rfl (cat_rf _) ?_
  refine sn_aload_n (v := (some this)) (pc' := 76) dX9_writeChangesOf_75 rfl rfl rfl ?_
  refine sn_iload_n (v := x2) (pc' := 77) dX9_writeChangesOf_76 rfl rfl rfl ?_
  refine sn_cV (r := (some this)) (st := []) (As := [.int x2]) (st2 := (fun _ => [])) (pc' := 80) ci_10 (fun t => c_X9_writeSign G t x2) cw_X9_writeSign rfl rfl tw700 pw18 tw702 rfl rfl cat_nil rfl (fun _ => rfl) dX9_writeChangesOf_77 rfl (fun _ => ?_)
  refine sn_aload_n (v := (some this)) (pc' := 81) dX9_writeChangesOf_80 rfl rfl rfl ?_
  refine sn_gR (k := 0) (pc' := 84) ci_10 rfl (Or.inl tw265) dX9_writeChangesOf_81 rfl (fun v3 => ?_)
  refine sn_iload (v := x4) (pc' := 86) dX9_writeChangesOf_84 rfl rfl ?_
  refine sn_cV (r := v3) (st := []) (As := [.int x4]) (st2 := (fun v => va_rf v :: [])) (pc' := 89) ci_1 (fun t => c_J4_append_bf812 G t x4) cw_J4_append_bf812 rfl rfl tw749 tw751 tw750 rfl rfl cat_nil rfl (fun _ => rfl) dX9_writeChangesOf_86 rfl (fun v4 => ?_)
  refine sn_pop (pc' := 90) dX9_writeChangesOf_89 rfl (cat_rf _) ?_
  exact sn_weak (le_s (le_s (le_s (le_s (le_s (le_n (le_n (le_s le_e)))))))) (s_X9_writeChangesOf_90 G k3 hk3 this x1 x2 x3 x4 x7)
set_option maxRecDepth 100000 in
set_option maxHeartbeats 4000000 in
theorem s_X9_writeChangesOf_3_st (G : GG)   (k3 : Nat → Option Nat → Int32 → Int32 → Int32 → MM Unit) (hk3 : ∀ (this : Nat) (x1 : Option Nat) (x2 : Int32) (x3 : Int32) (x4 : Int32), Sn G yX9_writeChangesOf cX9_writeChangesOf 8 none 7 151 (fun _ : Unit => none) (k3 this x1 x2 x3 x4) 3 [some (va_rf (some this)), some (va_rf x1), some (.int x2), some (.int x3), some (.int x4), none, none, none] []) (this : Nat) (x1 : Option Nat) (x2 : Int32) (x3 : Int32) (x4 : Int32) : Sn G yX9_writeChangesOf cX9_writeChangesOf 8 none 7 151 (fun _ : Unit => none) (X9_writeChangesOf_3_st  k3 this x1 x2 x3 x4) 3 [some (va_rf (some this)), some (va_rf x1), some (.int x2), some (.int x3), some (.int x4), none, none, none] [] := by
  unfold X9_writeChangesOf_3_st
  refine sn_iload (v := x4) (pc' := 5) dX9_writeChangesOf_3 rfl rfl ?_
  refine sn_aload_n (v := x1) (pc' := 6) dX9_writeChangesOf_5 rfl rfl rfl ?_
  refine sn_iload_n (v := x2) (pc' := 7) dX9_writeChangesOf_6 rfl rfl rfl ?_
  refine sn_cV (r := x1) (st := [.int x4]) (As := [.int x2]) (st2 := (fun v => .int v :: [.int x4])) (pc' := 10) ci_7 (fun t => c_X6_sizeOf G t x2) cw_X6_sizeOf rfl rfl tw651 tw539 tw538 rfl rfl (cat_i cat_nil) rfl (fun _ => rfl) dX9_writeChangesOf_7 rfl (fun v1 => ?_)
  refine sn_ic_gt (pt := 152) (pf := 13) dX9_writeChangesOf_10 rfl rfl ?_ ?_
  · exact sn_vret dX9_writeChangesOf_152 rfl
  · refine sn_aload_n (v := x1) (pc' := 14) dX9_writeChangesOf_13 rfl rfl rfl ?_
    refine sn_iload_n (v := x2) (pc' := 15) dX9_writeChangesOf_14 rfl rfl rfl ?_
    refine sn_iload (v := x4) (pc' := 17) dX9_writeChangesOf_15 rfl rfl ?_
    refine sn_cV (r := x1) (st := []) (As := [.int x2, .int x4]) (st2 := (fun v => .int v :: [])) (pc' := 20) ci_7 (fun t => c_X6_slotOf G t x2 x4) cw_X6_slotOf rfl rfl tw785 tw560 tw559 rfl rfl cat_nil rfl (fun _ => rfl) dX9_writeChangesOf_17 rfl (fun v2 => ?_)
    refine sn_istore (v := v2) (L' := [some (va_rf (some this)), some (va_rf x1), some (.int x2), some (.int x3), some (.int x4), some (.int v2), none, none]) (pc' := 22) dX9_writeChangesOf_20 rfl rfl rfl ?_
    refine sn_aload_n (v := x1) (pc' := 23) dX9_writeChangesOf_22 rfl rfl rfl ?_
    refine sn_iload (v := v2) (pc' := 25) dX9_writeChangesOf_23 rfl rfl ?_
    refine sn_cV (r := x1) (st := []) (As := [.int v2]) (st2 := (fun v => .int v :: [])) (pc' := 28) ci_7 (fun t => c_X6_fateOf G t v2) cw_X6_fateOf rfl rfl tw786 tw788 tw787 rfl rfl cat_nil rfl (fun _ => rfl) dX9_writeChangesOf_25 rfl (fun v3 => ?_)
    refine sn_istore (v := v3) (L' := [some (va_rf (some this)), some (va_rf x1), some (.int x2), some (.int x3), some (.int x4), some (.int v2), some (.int v3), none]) (pc' := 30) dX9_writeChangesOf_28 rfl rfl rfl ?_
    refine sn_aload_n (v := x1) (pc' := 31) dX9_writeChangesOf_30 rfl rfl rfl ?_
    refine sn_iload (v := v2) (pc' := 33) dX9_writeChangesOf_31 rfl rfl ?_
    refine sn_cV (r := x1) (st := []) (As := [.int v2]) (st2 := (fun v => .int v :: [])) (pc' := 36) ci_7 (fun t => c_X6_insertedAt G t v2) cw_X6_insertedAt rfl rfl tw790 tw577 tw576 rfl rfl cat_nil rfl (fun _ => rfl) dX9_writeChangesOf_33 rfl (fun v4 => ?_)
    refine sn_istore (v := v4) (L' := [some (va_rf (some this)), some (va_rf x1), some (.int x2), some (.int x3), some (.int x4), some (.int v2), some (.int v3), some (.int v4)]) (pc' := 38) dX9_writeChangesOf_36 rfl rfl rfl ?_
    refine sn_iload (v := v3) (pc' := 40) dX9_writeChangesOf_38 rfl rfl ?_
    refine sn_if_eq (pt := 90) (pf := 43) dX9_writeChangesOf_40 rfl rfl ?_ ?_
    · exact sn_weak (le_s (le_s (le_s (le_s (le_s (le_n (le_n (le_s le_e)))))))) (s_X9_writeChangesOf_90 G k3 hk3 this x1 x2 x3 x4 v4)
    · refine sn_aload_n (v := (some this)) (pc' := 44) dX9_writeChangesOf_43 rfl rfl rfl ?_
      refine sn_gR (k := 0) (pc' := 47) ci_10 rfl (Or.inl tw265) dX9_writeChangesOf_44 rfl (fun v5 => ?_)
      refine sn_aload_n (v := (some this)) (pc' := 48) dX9_writeChangesOf_47 rfl rfl rfl ?_
      refine sn_gR (k := 0) (pc' := 51) ci_10 rfl (Or.inl tw265) dX9_writeChangesOf_48 rfl (fun v6 => ?_)
      refine sn_cV (r := v6) (st := [va_rf v5]) (As := []) (st2 := (fun v => .int v :: [va_rf v5])) (pc' := 54) ci_1 (fun t => c_J4_length_8abf5 G t ) cw_J4_length_8abf5 rfl rfl tw774 tw776 tw775 rfl rfl (cat_q cat_nil) rfl (fun _ => rfl) dX9_writeChangesOf_51 rfl (fun v7 => ?_)
      refine sn_iload_n (v := x3) (pc' := 55) dX9_writeChangesOf_54 rfl rfl rfl ?_
      refine sn_ic_le (pt := 63) (pf := 58) dX9_writeChangesOf_55 rfl rfl ?_ ?_
      · refine sn_bipush (v := (40 : Int32)) (pc' := 65) dX9_writeChangesOf_63 rfl (by decide) ?_
        exact sn_weak (le_s (le_s (le_s (le_s (le_s (le_n (le_s (le_s le_e)))))))) (s_X9_writeChangesOf_65 G k3 hk3 this x1 x2 x3 x4 v3 v4 (40 : Int32) v5)
      · refine sn_bipush (v := (44 : Int32)) (pc' := 60) dX9_writeChangesOf_58 rfl (by decide) ?_
        refine sn_goto (pc' := 65) dX9_writeChangesOf_60 rfl ?_
        exact sn_weak (le_s (le_s (le_s (le_s (le_s (le_n (le_s (le_s le_e)))))))) (s_X9_writeChangesOf_65 G k3 hk3 this x1 x2 x3 x4 v3 v4 (44 : Int32) v5)
set_option maxRecDepth 100000 in
set_option maxHeartbeats 4000000 in
theorem s_X9_writeChangesOf_3 (G : GG)   : ∀ (n : Nat) (this : Nat) (x1 : Option Nat) (x2 : Int32) (x3 : Int32) (x4 : Int32), Sn G yX9_writeChangesOf cX9_writeChangesOf 8 none 7 151 (fun _ : Unit => none) (X9_writeChangesOf_3  n this x1 x2 x3 x4) 3 [some (va_rf (some this)), some (va_rf x1), some (.int x2), some (.int x3), some (.int x4), none, none, none] [] := by
  intro n
  induction n with
  | zero => intro this x1 x2 x3 x4; exact sn_mf
  | succ n ih => intro this x1 x2 x3 x4; exact s_X9_writeChangesOf_3_st G   (X9_writeChangesOf_3  n) ih this x1 x2 x3 x4
set_option maxRecDepth 100000 in
set_option maxHeartbeats 4000000 in
theorem s_X9_writeChangesOf (G : GG) (this : Nat) (a1 : Option Nat) (a2 : Int32) (a3 : Int32) : Sn G yX9_writeChangesOf cX9_writeChangesOf 8 none 7 151 (fun _ : Unit => none) (X9_writeChangesOf this a1 a2 a3) 0 [some (va_rf (some this)), some (va_rf a1), some (.int a2), some (.int a3), none, none, none, none] [] := by
  unfold X9_writeChangesOf
  refine sn_iconst (v := (1 : Int32)) (pc' := 1) dX9_writeChangesOf_0 rfl (by decide) ?_
  refine sn_istore (v := (1 : Int32)) (L' := [some (va_rf (some this)), some (va_rf a1), some (.int a2), some (.int a3), some (.int (1 : Int32)), none, none, none]) (pc' := 3) dX9_writeChangesOf_1 rfl rfl rfl ?_
  exact sn_weak (le_s (le_s (le_s (le_s (le_s (le_n (le_n (le_n le_e)))))))) (s_X9_writeChangesOf_3 G LFU this a1 a2 a3 (1 : Int32))
theorem c_X9_writeChangesOf (G : GG) (this : Nat) (a1 : Option Nat) (a2 : Int32) (a3 : Int32) : Cal G yX9_writeChangesOf cX9_writeChangesOf 8 none 7 151 (fun _ : Unit => none) (X9_writeChangesOf this a1 a2 a3) [.ref this, va_rf a1, .int a2, .int a3] :=
  Cal.of (by decide) (cat_t (cat_q (cat_i (cat_i cat_nil)))) rfl (sn_weak (le_s (le_s (le_s (le_s (le_z (le_z (le_z (le_z le_e)))))))) (s_X9_writeChangesOf G this a1 a2 a3))
theorem cw_X9_writeChangesOf : CW yX9_writeChangesOf cX9_writeChangesOf 8 none 3 := ⟨tw784, tw10, by decide, by decide +kernel⟩
/-! X9_writeGroup -/
theorem dX9_writeGroup_0 : decode cX9_writeGroup 0 = .ok (.iload_n 2, 1) := by decide +kernel
theorem dX9_writeGroup_1 : decode cX9_writeGroup 1 = .ok (.ifCond .le 13, 3) := by decide +kernel
theorem dX9_writeGroup_4 : decode cX9_writeGroup 4 = .ok (.aload_n 0, 1) := by decide +kernel
theorem dX9_writeGroup_5 : decode cX9_writeGroup 5 = .ok (.getfield 12, 3) := by decide +kernel
theorem dX9_writeGroup_8 : decode cX9_writeGroup 8 = .ok (.bipush 32, 2) := by decide +kernel
theorem dX9_writeGroup_10 : decode cX9_writeGroup 10 = .ok (.invokevirtual 76, 3) := by decide +kernel
theorem dX9_writeGroup_13 : decode cX9_writeGroup 13 = .ok (.pop, 1) := by decide +kernel
theorem dX9_writeGroup_14 : decode cX9_writeGroup 14 = .ok (.aload_n 0, 1) := by decide +kernel
theorem dX9_writeGroup_15 : decode cX9_writeGroup 15 = .ok (.aload_n 1, 1) := by decide +kernel
theorem dX9_writeGroup_16 : decode cX9_writeGroup 16 = .ok (.iload_n 2, 1) := by decide +kernel
theorem dX9_writeGroup_17 : decode cX9_writeGroup 17 = .ok (.invokevirtual 69, 3) := by decide +kernel
theorem dX9_writeGroup_20 : decode cX9_writeGroup 20 = .ok (.invokevirtual 80, 3) := by decide +kernel
theorem dX9_writeGroup_23 : decode cX9_writeGroup 23 = .ok (.iload_n 3, 1) := by decide +kernel
theorem dX9_writeGroup_24 : decode cX9_writeGroup 24 = .ok (.iload_n 2, 1) := by decide +kernel
theorem dX9_writeGroup_25 : decode cX9_writeGroup 25 = .ok (.if_icmp .le 22, 3) := by decide +kernel
theorem dX9_writeGroup_28 : decode cX9_writeGroup 28 = .ok (.aload_n 0, 1) := by decide +kernel
theorem dX9_writeGroup_29 : decode cX9_writeGroup 29 = .ok (.getfield 12, 3) := by decide +kernel
theorem dX9_writeGroup_32 : decode cX9_writeGroup 32 = .ok (.bipush 45, 2) := by decide +kernel
theorem dX9_writeGroup_34 : decode cX9_writeGroup 34 = .ok (.invokevirtual 76, 3) := by decide +kernel
theorem dX9_writeGroup_37 : decode cX9_writeGroup 37 = .ok (.pop, 1) := by decide +kernel
theorem dX9_writeGroup_38 : decode cX9_writeGroup 38 = .ok (.aload_n 0, 1) := by decide +kernel
theorem dX9_writeGroup_39 : decode cX9_writeGroup 39 = .ok (.aload_n 1, 1) := by decide +kernel
theorem dX9_writeGroup_40 : decode cX9_writeGroup 40 = .ok (.iload_n 3, 1) := by decide +kernel
theorem dX9_writeGroup_41 : decode cX9_writeGroup 41 = .ok (.invokevirtual 69, 3) := by decide +kernel
theorem dX9_writeGroup_44 : decode cX9_writeGroup 44 = .ok (.invokevirtual 80, 3) := by decide +kernel
theorem dX9_writeGroup_47 : decode cX9_writeGroup 47 = .ok (.aload_n 0, 1) := by decide +kernel
theorem dX9_writeGroup_48 : decode cX9_writeGroup 48 = .ok (.getfield 12, 3) := by decide +kernel
theorem dX9_writeGroup_51 : decode cX9_writeGroup 51 = .ok (.aload_n 1, 1) := by decide +kernel
theorem dX9_writeGroup_52 : decode cX9_writeGroup 52 = .ok (.aload_n 1, 1) := by decide +kernel
theorem dX9_writeGroup_53 : decode cX9_writeGroup 53 = .ok (.iload_n 3, 1) := by decide +kernel
theorem dX9_writeGroup_54 : decode cX9_writeGroup 54 = .ok (.invokevirtual 69, 3) := by decide +kernel
theorem dX9_writeGroup_57 : decode cX9_writeGroup 57 = .ok (.invokevirtual 73, 3) := by decide +kernel
theorem dX9_writeGroup_60 : decode cX9_writeGroup 60 = .ok (.invokevirtual 83, 3) := by decide +kernel
theorem dX9_writeGroup_63 : decode cX9_writeGroup 63 = .ok (.pop, 1) := by decide +kernel
theorem dX9_writeGroup_64 : decode cX9_writeGroup 64 = .ok (.aload_n 0, 1) := by decide +kernel
theorem dX9_writeGroup_65 : decode cX9_writeGroup 65 = .ok (.getfield 12, 3) := by decide +kernel
theorem dX9_writeGroup_68 : decode cX9_writeGroup 68 = .ok (.invokevirtual 86, 3) := by decide +kernel
theorem dX9_writeGroup_71 : decode cX9_writeGroup 71 = .ok (.istore 4, 2) := by decide +kernel
theorem dX9_writeGroup_73 : decode cX9_writeGroup 73 = .ok (.iload_n 2, 1) := by decide +kernel
theorem dX9_writeGroup_74 : decode cX9_writeGroup 74 = .ok (.istore 5, 2) := by decide +kernel
theorem dX9_writeGroup_76 : decode cX9_writeGroup 76 = .ok (.iload 5, 2) := by decide +kernel
theorem dX9_writeGroup_78 : decode cX9_writeGroup 78 = .ok (.iload_n 3, 1) := by decide +kernel
theorem dX9_writeGroup_79 : decode cX9_writeGroup 79 = .ok (.if_icmp .gt 22, 3) := by decide +kernel
theorem dX9_writeGroup_82 : decode cX9_writeGroup 82 = .ok (.aload_n 0, 1) := by decide +kernel
theorem dX9_writeGroup_83 : decode cX9_writeGroup 83 = .ok (.aload_n 1, 1) := by decide +kernel
theorem dX9_writeGroup_84 : decode cX9_writeGroup 84 = .ok (.aload_n 1, 1) := by decide +kernel
theorem dX9_writeGroup_85 : decode cX9_writeGroup 85 = .ok (.iload 5, 2) := by decide +kernel
theorem dX9_writeGroup_87 : decode cX9_writeGroup 87 = .ok (.invokevirtual 69, 3) := by decide +kernel
theorem dX9_writeGroup_90 : decode cX9_writeGroup 90 = .ok (.iload 4, 2) := by decide +kernel
theorem dX9_writeGroup_92 : decode cX9_writeGroup 92 = .ok (.invokevirtual 90, 3) := by decide +kernel
theorem dX9_writeGroup_95 : decode cX9_writeGroup 95 = .ok (.iinc 5 1, 3) := by decide +kernel
theorem dX9_writeGroup_98 : decode cX9_writeGroup 98 = .ok (.goto (-22), 3) := by decide +kernel
theorem dX9_writeGroup_101 : decode cX9_writeGroup 101 = .ok (.aload_n 0, 1) := by decide +kernel
theorem dX9_writeGroup_102 : decode cX9_writeGroup 102 = .ok (.getfield 12, 3) := by decide +kernel
theorem dX9_writeGroup_105 : decode cX9_writeGroup 105 = .ok (.invokevirtual 86, 3) := by decide +kernel
theorem dX9_writeGroup_108 : decode cX9_writeGroup 108 = .ok (.iload 4, 2) := by decide +kernel
theorem dX9_writeGroup_110 : decode cX9_writeGroup 110 = .ok (.if_icmp .le 13, 3) := by decide +kernel
theorem dX9_writeGroup_113 : decode cX9_writeGroup 113 = .ok (.aload_n 0, 1) := by decide +kernel
theorem dX9_writeGroup_114 : decode cX9_writeGroup 114 = .ok (.getfield 12, 3) := by decide +kernel
theorem dX9_writeGroup_117 : decode cX9_writeGroup 117 = .ok (.bipush 41, 2) := by decide +kernel
theorem dX9_writeGroup_119 : decode cX9_writeGroup 119 = .ok (.invokevirtual 76, 3) := by decide +kernel
theorem dX9_writeGroup_122 : decode cX9_writeGroup 122 = .ok (.pop, 1) := by decide +kernel
theorem dX9_writeGroup_123 : decode cX9_writeGroup 123 = .ok (.return_, 1) := by decide +kernel
def X9_writeGroup_101  (this : Nat) (x4 : Int32) : MM Unit :=
  mb (gR 10 (some this) 0) fun v1 =>
  mb (wc 1 v1 fun t => J4_length_8abf5 t ) fun v2 =>
  if v2 ≤ x4 then (mr ()) else (mb (gR 10 (some this) 0) fun v3 =>
  mb (wc 1 v3 fun t => J4_append_cf468 t (41 : Int32)) fun v4 =>
  mr ())
def X9_writeGroup_76_st  (k76 : Nat → Option Nat → Int32 → Int32 → Int32 → MM Unit) (this : Nat) (x1 : Option Nat) (x3 : Int32) (x4 : Int32) (x5 : Int32) : MM Unit :=
  if x3 < x5 then ((X9_writeGroup_101 this x4)) else (mb (wc 7 x1 fun t => X6_signOf t x5) fun v1 =>
  mb (wc 10 (some this) fun t => X9_writeChangesOf t x1 v1 x4) fun _ =>
  (k76 this x1 x3 x4 (x5 + (1 : Int32))))
def X9_writeGroup_76  : Nat → Nat → Option Nat → Int32 → Int32 → Int32 → MM Unit
  | 0 => fun _ _ _ _ _ => mf
  | n + 1 => fun this x1 x3 x4 x5 => X9_writeGroup_76_st  (X9_writeGroup_76  n) this x1 x3 x4 x5
def X9_writeGroup_47  (this : Nat) (x1 : Option Nat) (x2 : Int32) (x3 : Int32) : MM Unit :=
  mb (gR 10 (some this) 0) fun v1 =>
  mb (wc 7 x1 fun t => X6_signOf t x3) fun v2 =>
  mb (wc 7 x1 fun t => X6_sizeOf t v2) fun v3 =>
  mb (wc 1 v1 fun t => J4_append_bf812 t v3) fun v4 =>
  mb (gR 10 (some this) 0) fun v5 =>
  mb (wc 1 v5 fun t => J4_length_8abf5 t ) fun v6 =>
  (X9_writeGroup_76 LFU this x1 x3 v6 x2)
def X9_writeGroup_14  (this : Nat) (x1 : Option Nat) (x2 : Int32) (x3 : Int32) : MM Unit :=
  mb (wc 7 x1 fun t => X6_signOf t x2) fun v1 =>
  mb (wc 10 (some this) fun t => X9_writeSign t v1) fun _ =>
  if x3 ≤ x2 then ((X9_writeGroup_47 this x1 x2 x3)) else (mb (gR 10 (some this) 0) fun v2 =>
  mb (wc 1 v2 fun t => J4_append_cf468 t (45 : Int32)) fun v3 =>
  mb (wc 7 x1 fun t => X6_signOf t x3) fun v4 =>
  mb (wc 10 (some this) fun t => X9_writeSign t v4) fun _ =>
  (X9_writeGroup_47 this x1 x2 x3))
def X9_writeGroup (this : Nat) (a1 : Option Nat) (a2 : Int32) (a3 : Int32) : MM Unit :=
  if a2 ≤ 0 then ((X9_writeGroup_14 this a1 a2 a3)) else (mb (gR 10 (some this) 0) fun v1 =>
  mb (wc 1 v1 fun t => J4_append_cf468 t (32 : Int32)) fun v2 =>
  (X9_writeGroup_14 this a1 a2 a3))
set_option maxRecDepth 100000 in
set_option maxHeartbeats 4000000 in
theorem s_X9_writeGroup_101 (G : GG)   (this : Nat) (x4 : Int32) : Sn G yX9_writeGroup cX9_writeGroup 6 none 8 178 (fun _ : Unit => none) (X9_writeGroup_101  this x4) 101 [some (va_rf (some this)), none, none, none, some (.int x4), none] [] := by
  unfold X9_writeGroup_101
  refine sn_aload_n (v := (some this)) (pc' := 102) dX9_writeGroup_101 rfl rfl rfl ?_
  refine sn_gR (k := 0) (pc' := 105) ci_10 rfl (Or.inl tw265) dX9_writeGroup_102 rfl (fun v1 => ?_)
  refine sn_cV (r := v1) (st := []) (As := []) (st2 := (fun v => .int v :: [])) (pc' := 108) ci_1 (fun t => c_J4_length_8abf5 G t ) cw_J4_length_8abf5 rfl rfl tw774 tw776 tw775 rfl rfl cat_nil rfl (fun _ => rfl) dX9_writeGroup_105 rfl (fun v2 => ?_)
  refine sn_iload (v := x4) (pc' := 110) dX9_writeGroup_108 rfl rfl ?_
  refine sn_ic_le (pt := 123) (pf := 113) dX9_writeGroup_110 rfl rfl ?_ ?_
  · exact sn_vret dX9_writeGroup_123 rfl
  · refine sn_aload_n (v := (some this)) (pc' := 114) dX9_writeGroup_113 rfl rfl rfl ?_
    refine sn_gR (k := 0) (pc' := 117) ci_10 rfl (Or.inl tw265) dX9_writeGroup_114 rfl (fun v3 => ?_)
    refine sn_bipush (v := (41 : Int32)) (pc' := 119) dX9_writeGroup_117 rfl (by decide) ?_
    refine sn_cV (r := v3) (st := []) (As := [.int (41 : Int32)]) (st2 := (fun v => va_rf v :: [])) (pc' := 122) ci_1 (fun t => c_J4_append_cf468 G t (41 : Int32)) cw_J4_append_cf468 rfl rfl tw656 tw658 tw657 rfl rfl cat_nil rfl (fun _ => rfl) dX9_writeGroup_119 rfl (fun v4 => ?_)
    refine sn_pop (pc' := 123) dX9_writeGroup_122 rfl (cat_rf _) ?_
    exact sn_vret dX9_writeGroup_123 rfl
set_option maxRecDepth 100000 in
set_option maxHeartbeats 4000000 in
theorem s_X9_writeGroup_76_st (G : GG)   (k76 : Nat → Option Nat → Int32 → Int32 → Int32 → MM Unit) (hk76 : ∀ (this : Nat) (x1 : Option Nat) (x3 : Int32) (x4 : Int32) (x5 : Int32), Sn G yX9_writeGroup cX9_writeGroup 6 none 8 178 (fun _ : Unit => none) (k76 this x1 x3 x4 x5) 76 [some (va_rf (some this)), some (va_rf x1), none, some (.int x3), some (.int x4), some (.int x5)] []) (this : Nat) (x1 : Option Nat) (x3 : Int32) (x4 : Int32) (x5 : Int32) : Sn G yX9_writeGroup cX9_writeGroup 6 none 8 178 (fun _ : Unit => none) (X9_writeGroup_76_st  k76 this x1 x3 x4 x5) 76 [some (va_rf (some this)), some (va_rf x1), none, some (.int x3), some (.int x4), some (.int x5)] [] := by
  unfold X9_writeGroup_76_st
  refine sn_iload (v := x5) (pc' := 78) dX9_writeGroup_76 rfl rfl ?_
  refine sn_iload_n (v := x3) (pc' := 79) dX9_writeGroup_78 rfl rfl rfl ?_
  refine sn_ic_gt (pt := 101) (pf := 82) dX9_writeGroup_79 rfl rfl ?_ ?_
  · exact sn_weak (le_s (le_n (le_n (le_n (le_s (le_n le_e)))))) (s_X9_writeGroup_101 G this x4)
  · refine sn_aload_n (v := (some this)) (pc' := 83) dX9_writeGroup_82 rfl rfl rfl ?_
    refine sn_aload_n (v := x1) (pc' := 84) dX9_writeGroup_83 rfl rfl rfl ?_
    refine sn_aload_n (v := x1) (pc' := 85) dX9_writeGroup_84 rfl rfl rfl ?_
    refine sn_iload (v := x5) (pc' := 87) dX9_writeGroup_85 rfl rfl ?_
    refine sn_cV (r := x1) (st := [va_rf x1, va_rf (some this)]) (As := [.int x5]) (st2 := (fun v => .int v :: [va_rf x1, va_rf (some this)])) (pc' := 90) ci_7 (fun t => c_X6_signOf G t x5) cw_X6_signOf rfl rfl tw647 tw649 tw648 rfl rfl (cat_q (cat_q cat_nil)) rfl (fun _ => rfl) dX9_writeGroup_87 rfl (fun v1 => ?_)
    refine sn_iload (v := x4) (pc' := 92) dX9_writeGroup_90 rfl rfl ?_
    refine sn_cV (r := (some this)) (st := []) (As := [va_rf x1, .int v1, .int x4]) (st2 := (fun _ => [])) (pc' := 95) ci_10 (fun t => c_X9_writeChangesOf G t x1 v1 x4) cw_X9_writeChangesOf rfl rfl tw781 pw19 tw783 rfl rfl cat_nil rfl (fun _ => rfl) dX9_writeGroup_92 rfl (fun _ => ?_)
    refine sn_iinc (v := x5) (w := 1) (L' := [some (va_rf (some this)), some (va_rf x1), none, some (.int x3), some (.int x4), some (.int (x5 + (1 : Int32)))]) (pc' := 98) dX9_writeGroup_95 rfl rfl rfl (by decide) rfl ?_
    refine sn_goto (pc' := 76) dX9_writeGroup_98 rfl ?_
    exact sn_weak (le_s (le_s (le_n (le_s (le_s (le_s le_e)))))) (hk76 this x1 x3 x4 (x5 + (1 : Int32)))
set_option maxRecDepth 100000 in
set_option maxHeartbeats 4000000 in
theorem s_X9_writeGroup_76 (G : GG)   : ∀ (n : Nat) (this : Nat) (x1 : Option Nat) (x3 : Int32) (x4 : Int32) (x5 : Int32), Sn G yX9_writeGroup cX9_writeGroup 6 none 8 178 (fun _ : Unit => none) (X9_writeGroup_76  n this x1 x3 x4 x5) 76 [some (va_rf (some this)), some (va_rf x1), none, some (.int x3), some (.int x4), some (.int x5)] [] := by
  intro n
  induction n with
  | zero => intro this x1 x3 x4 x5; exact sn_mf
  | succ n ih => intro this x1 x3 x4 x5; exact s_X9_writeGroup_76_st G   (X9_writeGroup_76  n) ih this x1 x3 x4 x5
set_option maxRecDepth 100000 in
set_option maxHeartbeats 4000000 in
theorem s_X9_writeGroup_47 (G : GG)   (this : Nat) (x1 : Option Nat) (x2 : Int32) (x3 : Int32) : Sn G yX9_writeGroup cX9_writeGroup 6 none 8 178 (fun _ : Unit => none) (X9_writeGroup_47  this x1 x2 x3) 47 [some (va_rf (some this)), some (va_rf x1), some (.int x2), some (.int x3), none, none] [] := by
  unfold X9_writeGroup_47
  refine sn_aload_n (v := (some this)) (pc' := 48) dX9_writeGroup_47 rfl rfl rfl ?_
  refine sn_gR (k := 0) (pc' := 51) ci_10 rfl (Or.inl tw265) dX9_writeGroup_48 rfl (fun v1 => ?_)
  refine sn_aload_n (v := x1) (pc' := 52) dX9_writeGroup_51 rfl rfl rfl ?_
  refine sn_aload_n (v := x1) (pc' := 53) dX9_writeGroup_52 rfl rfl rfl ?_
  refine sn_iload_n (v := x3) (pc' := 54) dX9_writeGroup_53 rfl rfl rfl ?_
  refine sn_cV (r := x1) (st := [va_rf x1, va_rf v1]) (As := [.int x3]) (st2 := (fun v => .int v :: [va_rf x1, va_rf v1])) (pc' := 57) ci_7 (fun t => c_X6_signOf G t x3) cw_X6_signOf rfl rfl tw647 tw649 tw648 rfl rfl (cat_q (cat_q cat_nil)) rfl (fun _ => rfl) dX9_writeGroup_54 rfl (fun v2 => ?_)
  refine sn_cV (r := x1) (st := [va_rf v1]) (As := [.int v2]) (st2 := (fun v => .int v :: [va_rf v1])) (pc' := 60) ci_7 (fun t => c_X6_sizeOf G t v2) cw_X6_sizeOf rfl rfl tw651 tw539 tw538 rfl rfl (cat_q cat_nil) rfl (fun _ => rfl) dX9_writeGroup_57 rfl (fun v3 => ?_)
  refine sn_cV (r := v1) (st := []) (As := [.int v3]) (st2 := (fun v => va_rf v :: [])) (pc' := 63) ci_1 (fun t => c_J4_append_bf812 G t v3) cw_J4_append_bf812 rfl rfl tw749 tw751 tw750 rfl rfl cat_nil rfl (fun _ => rfl) dX9_writeGroup_60 rfl (fun v4 => ?_)
  refine sn_pop (pc' := 64) dX9_writeGroup_63 rfl (cat_rf _) ?_
  refine sn_aload_n (v := (some this)) (pc' := 65) dX9_writeGroup_64 rfl rfl rfl ?_
  refine sn_gR (k := 0) (pc' := 68) ci_10 rfl (Or.inl tw265) dX9_writeGroup_65 rfl (fun v5 => ?_)
  refine sn_cV (r := v5) (st := []) (As := []) (st2 := (fun v => .int v :: [])) (pc' := 71) ci_1 (fun t => c_J4_length_8abf5 G t ) cw_J4_length_8abf5 rfl rfl tw774 tw776 tw775 rfl rfl cat_nil rfl (fun _ => rfl) dX9_writeGroup_68 rfl (fun v6 => ?_)
  refine sn_istore (v := v6) (L' := [some (va_rf (some this)), some (va_rf x1), some (.int x2), some (.int x3), some (.int v6), none]) (pc' := 73) dX9_writeGroup_71 rfl rfl rfl ?_
  refine sn_iload_n (v := x2) (pc' := 74) dX9_writeGroup_73 rfl rfl rfl ?_
  refine sn_istore (v := x2) (L' := [some (va_rf (some this)), some (va_rf x1), some (.int x2), some (.int x3), some (.int v6), some (.int x2)]) (pc' := 76) dX9_writeGroup_74 rfl rfl rfl ?_
  exact sn_weak (le_s (le_s (le_n (le_s (le_s (le_s le_e)))))) (s_X9_writeGroup_76 G LFU this x1 x3 v6 x2)
set_option maxRecDepth 100000 in
set_option maxHeartbeats 4000000 in
theorem s_X9_writeGroup_14 (G : GG)   (this : Nat) (x1 : Option Nat) (x2 : Int32) (x3 : Int32) : Sn G yX9_writeGroup cX9_writeGroup 6 none 8 178 (fun _ : Unit => none) (X9_writeGroup_14  this x1 x2 x3) 14 [some (va_rf (some this)), some (va_rf x1), some (.int x2), some (.int x3), none, none] [] := by
  unfold X9_writeGroup_14
  refine sn_aload_n (v := (some this)) (pc' := 15) dX9_writeGroup_14 rfl rfl rfl ?_
  refine sn_aload_n (v := x1) (pc' := 16) dX9_writeGroup_15 rfl rfl rfl ?_
  refine sn_iload_n (v := x2) (pc' := 17) dX9_writeGroup_16 rfl rfl rfl ?_
  refine sn_cV (r := x1) (st := [va_rf (some this)]) (As := [.int x2]) (st2 := (fun v => .int v :: [va_rf (some this)])) (pc' := 20) ci_7 (fun t => c_X6_signOf G t x2) cw_X6_signOf rfl rfl tw647 tw649 tw648 rfl rfl (cat_q cat_nil) rfl (fun _ => rfl) dX9_writeGroup_17 rfl (fun v1 => ?_)
  refine sn_cV (r := (some this)) (st := []) (As := [.int v1]) (st2 := (fun _ => [])) (pc' := 23) ci_10 (fun t => c_X9_writeSign G t v1) cw_X9_writeSign rfl rfl tw700 pw18 tw702 rfl rfl cat_nil rfl (fun _ => rfl) dX9_writeGroup_20 rfl (fun _ => ?_)
  refine sn_iload_n (v := x3) (pc' := 24) dX9_writeGroup_23 rfl rfl rfl ?_
  refine sn_iload_n (v := x2) (pc' := 25) dX9_writeGroup_24 rfl rfl rfl ?_
  refine sn_ic_le (pt := 47) (pf := 28) dX9_writeGroup_25 rfl rfl ?_ ?_
  · exact sn_weak (le_s (le_s (le_s (le_s (le_n (le_n le_e)))))) (s_X9_writeGroup_47 G this x1 x2 x3)
  · refine sn_aload_n (v := (some this)) (pc' := 29) dX9_writeGroup_28 rfl rfl rfl ?_
    refine sn_gR (k := 0) (pc' := 32) ci_10 rfl (Or.inl tw265) dX9_writeGroup_29 rfl (fun v2 => ?_)
    refine sn_bipush (v := (45 : Int32)) (pc' := 34) dX9_writeGroup_32 rfl (by decide) ?_
    refine sn_cV (r := v2) (st := []) (As := [.int (45 : Int32)]) (st2 := (fun v => va_rf v :: [])) (pc' := 37) ci_1 (fun t => c_J4_append_cf468 G t (45 : Int32)) cw_J4_append_cf468 rfl rfl tw656 tw658 tw657 rfl rfl cat_nil rfl (fun _ => rfl) dX9_writeGroup_34 rfl (fun v3 => ?_)
    refine sn_pop (pc' := 38) dX9_writeGroup_37 rfl (cat_rf _) ?_
    refine sn_aload_n (v := (some this)) (pc' := 39) dX9_writeGroup_38 rfl rfl rfl ?_
    refine sn_aload_n (v := x1) (pc' := 40) dX9_writeGroup_39 rfl rfl rfl ?_
    refine sn_iload_n (v := x3) (pc' := 41) dX9_writeGroup_40 rfl rfl rfl ?_
    refine sn_cV (r := x1) (st := [va_rf (some this)]) (As := [.int x3]) (st2 := (fun v => .int v :: [va_rf (some this)])) (pc' := 44) ci_7 (fun t => c_X6_signOf G t x3) cw_X6_signOf rfl rfl tw647 tw649 tw648 rfl rfl (cat_q cat_nil) rfl (fun _ => rfl) dX9_writeGroup_41 rfl (fun v4 => ?_)
    refine sn_cV (r := (some this)) (st := []) (As := [.int v4]) (st2 := (fun _ => [])) (pc' := 47) ci_10 (fun t => c_X9_writeSign G t v4) cw_X9_writeSign rfl rfl tw700 pw18 tw702 rfl rfl cat_nil rfl (fun _ => rfl) dX9_writeGroup_44 rfl (fun _ => ?_)
    exact sn_weak (le_s (le_s (le_s (le_s (le_n (le_n le_e)))))) (s_X9_writeGroup_47 G this x1 x2 x3)
set_option maxRecDepth 100000 in
set_option maxHeartbeats 4000000 in
theorem s_X9_writeGroup (G : GG) (this : Nat) (a1 : Option Nat) (a2 : Int32) (a3 : Int32) : Sn G yX9_writeGroup cX9_writeGroup 6 none 8 178 (fun _ : Unit => none) (X9_writeGroup this a1 a2 a3) 0 [some (va_rf (some this)), some (va_rf a1), some (.int a2), some (.int a3), none, none] [] := by
  unfold X9_writeGroup
  refine sn_iload_n (v := a2) (pc' := 1) dX9_writeGroup_0 rfl rfl rfl ?_
  refine sn_if_le (pt := 14) (pf := 4) dX9_writeGroup_1 rfl rfl ?_ ?_
  · exact sn_weak (le_s (le_s (le_s (le_s (le_n (le_n le_e)))))) (s_X9_writeGroup_14 G this a1 a2 a3)
  · refine sn_aload_n (v := (some this)) (pc' := 5) dX9_writeGroup_4 rfl rfl rfl ?_
    refine sn_gR (k := 0) (pc' := 8) ci_10 rfl (Or.inl tw265) dX9_writeGroup_5 rfl (fun v1 => ?_)
    refine sn_bipush (v := (32 : Int32)) (pc' := 10) dX9_writeGroup_8 rfl (by decide) ?_
    refine sn_cV (r := v1) (st := []) (As := [.int (32 : Int32)]) (st2 := (fun v => va_rf v :: [])) (pc' := 13) ci_1 (fun t => c_J4_append_cf468 G t (32 : Int32)) cw_J4_append_cf468 rfl rfl tw656 tw658 tw657 rfl rfl cat_nil rfl (fun _ => rfl) dX9_writeGroup_10 rfl (fun v2 => ?_)
    refine sn_pop (pc' := 14) dX9_writeGroup_13 rfl (cat_rf _) ?_
    exact sn_weak (le_s (le_s (le_s (le_s (le_n (le_n le_e)))))) (s_X9_writeGroup_14 G this a1 a2 a3)
theorem c_X9_writeGroup (G : GG) (this : Nat) (a1 : Option Nat) (a2 : Int32) (a3 : Int32) : Cal G yX9_writeGroup cX9_writeGroup 6 none 8 178 (fun _ : Unit => none) (X9_writeGroup this a1 a2 a3) [.ref this, va_rf a1, .int a2, .int a3] :=
  Cal.of (by decide) (cat_t (cat_q (cat_i (cat_i cat_nil)))) rfl (sn_weak (le_s (le_s (le_s (le_s (le_z (le_z le_e)))))) (s_X9_writeGroup G this a1 a2 a3))
theorem cw_X9_writeGroup : CW yX9_writeGroup cX9_writeGroup 6 none 3 := ⟨tw655, tw10, by decide, by decide +kernel⟩
/-! J5_getValue_6d5f1 -/
theorem dJ5_getValue_6d5f1_0 : decode cJ5_getValue_6d5f1 0 = .ok (.aload_n 0, 1) := by decide +kernel
theorem dJ5_getValue_6d5f1_1 : decode cJ5_getValue_6d5f1 1 = .ok (.getfield 15, 3) := by decide +kernel
theorem dJ5_getValue_6d5f1_4 : decode cJ5_getValue_6d5f1 4 = .ok (.areturn, 1) := by decide +kernel
def J5_getValue_6d5f1 (this : Nat) : MM (Option Nat) :=
  mb (gR 1 (some this) 0) fun v1 =>
  mr v1
set_option maxRecDepth 100000 in
set_option maxHeartbeats 4000000 in
theorem s_J5_getValue_6d5f1 (G : GG) (this : Nat) : Sn G yJ5_getValue_6d5f1 cJ5_getValue_6d5f1 1 (some (FieldType.array FieldType.byte)) 0 0 (fun v : Option Nat => some (va_rf v)) (J5_getValue_6d5f1 this) 0 [some (va_rf (some this))] [] := by
  unfold J5_getValue_6d5f1
  refine sn_aload_n (v := (some this)) (pc' := 1) dJ5_getValue_6d5f1_0 rfl rfl rfl ?_
  refine sn_gR (k := 0) (pc' := 4) ci_1 rfl (Or.inl tw251) dJ5_getValue_6d5f1_1 rfl (fun v1 => ?_)
  exact sn_aret dJ5_getValue_6d5f1_4 rfl (Or.inr ⟨_, rfl⟩)
theorem c_J5_getValue_6d5f1 (G : GG) (this : Nat) : Cal G yJ5_getValue_6d5f1 cJ5_getValue_6d5f1 1 (some (FieldType.array FieldType.byte)) 0 0 (fun v : Option Nat => some (va_rf v)) (J5_getValue_6d5f1 this) [.ref this] :=
  Cal.of (by decide) (cat_t cat_nil) rfl (sn_weak (le_s le_e) (s_J5_getValue_6d5f1 G this))
theorem cw_J5_getValue_6d5f1 : CW yJ5_getValue_6d5f1 cJ5_getValue_6d5f1 1 (some (FieldType.array FieldType.byte)) 0 := ⟨tw808, tw11, by decide, by decide +kernel⟩
