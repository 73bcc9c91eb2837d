theorem tw21 : (Jvm.Cond.initialized "LeafFormula$Book") ∈ gtbl := gt_of 114 (by decide +kernel) (by decide +kernel)
theorem tw281 : (Jvm.Cond.fieldLink "LeafFormula" (137 : Nat) "LeafFormula" "bookCount" "I") ∈ gtbl := gt_of 374 (by decide +kernel) (by decide +kernel)
theorem tw341 : (Jvm.Cond.code ({ cls := "LeafFormula", name := "book", desc := "()I" } : Jvm.MethodName) prog_1_method_4_code (2 : Nat) (Option.some Jvm.ClassFile.FieldType.int)) ∈ gtbl := gt_of 434 (by decide +kernel) (by decide +kernel)
theorem tw342 : (Jvm.Cond.methodLink "LeafFormula" (91 : Nat) ({ cls := "LeafFormula$Reader", name := "readsFormula", desc := "()Z" } : Jvm.MethodName)) ∈ gtbl := gt_of 435 (by decide +kernel) (by decide +kernel)
theorem tw343 : (Jvm.Cond.instanceMethod ({ cls := "LeafFormula$Reader", name := "readsFormula", desc := "()Z" } : Jvm.MethodName)) ∈ gtbl := gt_of 436 (by decide +kernel) (by decide +kernel)
theorem tw344 : (Jvm.Cond.selects "LeafFormula$Reader" ({ cls := "LeafFormula$Reader", name := "readsFormula", desc := "()Z" } : Jvm.MethodName) ({ cls := "LeafFormula$Reader", name := "readsFormula", desc := "()Z" } : Jvm.MethodName)) ∈ gtbl := gt_of 437 (by decide +kernel) (by decide +kernel)
theorem tw516 : (Jvm.Cond.methodLink "LeafFormula" (95 : Nat) ({ cls := "LeafFormula", name := "draftFormula", desc := "()I" } : Jvm.MethodName)) ∈ gtbl := gt_of 609 (by decide +kernel) (by decide +kernel)
theorem tw518 : (Jvm.Cond.instanceMethod ({ cls := "LeafFormula", name := "draftFormula", desc := "()I" } : Jvm.MethodName)) ∈ gtbl := gt_of 611 (by decide +kernel) (by decide +kernel)
theorem tw579 : (Jvm.Cond.methodLink "LeafFormula" (99 : Nat) ({ cls := "LeafFormula", name := "closeBook", desc := "(I)I" } : Jvm.MethodName)) ∈ gtbl := gt_of 672 (by decide +kernel) (by decide +kernel)
theorem tw581 : (Jvm.Cond.instanceMethod ({ cls := "LeafFormula", name := "closeBook", desc := "(I)I" } : Jvm.MethodName)) ∈ gtbl := gt_of 674 (by decide +kernel) (by decide +kernel)
theorem tw582 : (Jvm.Cond.code ({ cls := "LeafFormula", name := "closeBook", desc := "(I)I" } : Jvm.MethodName) prog_1_method_39_code (2 : Nat) (Option.some Jvm.ClassFile.FieldType.int)) ∈ gtbl := gt_of 675 (by decide +kernel) (by decide +kernel)
theorem tw583 : (Jvm.Cond.instantiable "LeafFormula$Book" (7 : Nat)) ∈ gtbl := gt_of 676 (by decide +kernel) (by decide +kernel)
theorem tw584 : (Jvm.Cond.methodLink "LeafFormula" (268 : Nat) ({ cls := "LeafFormula$Scribe", name := "formulaText", desc := "(LLeafFormula$Plan;)Ljava/lang/String;" } : Jvm.MethodName)) ∈ gtbl := gt_of 677 (by decide +kernel) (by decide +kernel)
theorem tw585 : (Jvm.Cond.instanceMethod ({ cls := "LeafFormula$Scribe", name := "formulaText", desc := "(LLeafFormula$Plan;)Ljava/lang/String;" } : Jvm.MethodName)) ∈ gtbl := gt_of 678 (by decide +kernel) (by decide +kernel)
theorem tw586 : (Jvm.Cond.selects "LeafFormula$Scribe" ({ cls := "LeafFormula$Scribe", name := "formulaText", desc := "(LLeafFormula$Plan;)Ljava/lang/String;" } : Jvm.MethodName) ({ cls := "LeafFormula$Scribe", name := "formulaText", desc := "(LLeafFormula$Plan;)Ljava/lang/String;" } : Jvm.MethodName)) ∈ gtbl := gt_of 679 (by decide +kernel) (by decide +kernel)
theorem tw587 : (Jvm.Cond.code ({ cls := "LeafFormula$Scribe", name := "formulaText", desc := "(LLeafFormula$Plan;)Ljava/lang/String;" } : Jvm.MethodName) prog_11_method_3_code (4 : Nat) (Option.some (Jvm.ClassFile.FieldType.object "java/lang/String"))) ∈ gtbl := gt_of 680 (by decide +kernel) (by decide +kernel)
theorem tw588 : (Jvm.Cond.methodLink "LeafFormula$Scribe" (18 : Nat) ({ cls := "java/lang/StringBuilder", name := "setLength", desc := "(I)V" } : Jvm.MethodName)) ∈ gtbl := gt_of 681 (by decide +kernel) (by decide +kernel)
theorem tw589 : (Jvm.Cond.instanceMethod ({ cls := "java/lang/StringBuilder", name := "setLength", desc := "(I)V" } : Jvm.MethodName)) ∈ gtbl := gt_of 682 (by decide +kernel) (by decide +kernel)
theorem tw590 : (Jvm.Cond.selects "java/lang/StringBuilder" ({ cls := "java/lang/StringBuilder", name := "setLength", desc := "(I)V" } : Jvm.MethodName) ({ cls := "java/lang/StringBuilder", name := "setLength", desc := "(I)V" } : Jvm.MethodName)) ∈ gtbl := gt_of 683 (by decide +kernel) (by decide +kernel)
theorem tw615 : (Jvm.Cond.methodLink "java/util/Arrays" (310 : Nat) ({ cls := "[B", name := "clone", desc := "()Ljava/lang/Object;" } : Jvm.MethodName)) ∈ gtbl := gt_of 708 (by decide +kernel) (by decide +kernel)
theorem tw616 : (Jvm.Cond.sameMethod "[B" "java/lang/Object" "clone" "()Ljava/lang/Object;") ∈ gtbl := gt_of 709 (by decide +kernel) (by decide +kernel)
theorem tw617 : (Jvm.Cond.native ({ cls := "java/lang/Object", name := "clone", desc := "()Ljava/lang/Object;" } : Jvm.MethodName)) ∈ gtbl := gt_of 710 (by decide +kernel) (by decide +kernel)
theorem tw618 : (Jvm.Cond.instanceMethod ({ cls := "java/lang/Object", name := "clone", desc := "()Ljava/lang/Object;" } : Jvm.MethodName)) ∈ gtbl := gt_of 711 (by decide +kernel) (by decide +kernel)
theorem tw619 : (Jvm.Cond.selects "[B" ({ cls := "[B", name := "clone", desc := "()Ljava/lang/Object;" } : Jvm.MethodName) ({ cls := "java/lang/Object", name := "clone", desc := "()Ljava/lang/Object;" } : Jvm.MethodName)) ∈ gtbl := gt_of 712 (by decide +kernel) (by decide +kernel)
theorem tw621 : (Jvm.Cond.classLink "java/util/Arrays" (311 : Nat) "[B") ∈ gtbl := gt_of 714 (by decide +kernel) (by decide +kernel)
theorem tw644 : (Jvm.Cond.methodLink "LeafFormula$Scribe" (36 : Nat) ({ cls := "LeafFormula$Scribe", name := "goesOn", desc := "(LLeafFormula$Plan;I)Z" } : Jvm.MethodName)) ∈ gtbl := gt_of 737 (by decide +kernel) (by decide +kernel)
theorem tw645 : (Jvm.Cond.static ({ cls := "LeafFormula$Scribe", name := "goesOn", desc := "(LLeafFormula$Plan;I)Z" } : Jvm.MethodName)) ∈ gtbl := gt_of 738 (by decide +kernel) (by decide +kernel)
theorem tw652 : (Jvm.Cond.methodLink "LeafFormula$Scribe" (40 : Nat) ({ cls := "LeafFormula$Scribe", name := "writeGroup", desc := "(LLeafFormula$Plan;II)V" } : Jvm.MethodName)) ∈ gtbl := gt_of 745 (by decide +kernel) (by decide +kernel)
theorem tw654 : (Jvm.Cond.instanceMethod ({ cls := "LeafFormula$Scribe", name := "writeGroup", desc := "(LLeafFormula$Plan;II)V" } : Jvm.MethodName)) ∈ gtbl := gt_of 747 (by decide +kernel) (by decide +kernel)
theorem tw791 : (Jvm.Cond.methodLink "LeafFormula$Scribe" (26 : Nat) ({ cls := "java/lang/StringBuilder", name := "toString", desc := "()Ljava/lang/String;" } : Jvm.MethodName)) ∈ gtbl := gt_of 884 (by decide +kernel) (by decide +kernel)
theorem tw792 : (Jvm.Cond.instanceMethod ({ cls := "java/lang/StringBuilder", name := "toString", desc := "()Ljava/lang/String;" } : Jvm.MethodName)) ∈ gtbl := gt_of 885 (by decide +kernel) (by decide +kernel)
theorem tw793 : (Jvm.Cond.selects "java/lang/StringBuilder" ({ cls := "java/lang/StringBuilder", name := "toString", desc := "()Ljava/lang/String;" } : Jvm.MethodName) ({ cls := "java/lang/StringBuilder", name := "toString", desc := "()Ljava/lang/String;" } : Jvm.MethodName)) ∈ gtbl := gt_of 886 (by decide +kernel) (by decide +kernel)
theorem tw794 : (Jvm.Cond.code ({ cls := "java/lang/StringBuilder", name := "toString", desc := "()Ljava/lang/String;" } : Jvm.MethodName) prog_22_method_42_code (1 : Nat) (Option.some (Jvm.ClassFile.FieldType.object "java/lang/String"))) ∈ gtbl := gt_of 887 (by decide +kernel) (by decide +kernel)
theorem tw795 : (Jvm.Cond.classLink "java/lang/StringBuilder" (18 : Nat) "java/lang/String") ∈ gtbl := gt_of 888 (by decide +kernel) (by decide +kernel)
theorem tw796 : (Jvm.Cond.instantiable "java/lang/String" (4 : Nat)) ∈ gtbl := gt_of 889 (by decide +kernel) (by decide +kernel)
theorem tw797 : (Jvm.Cond.methodLink "java/lang/StringBuilder" (137 : Nat) ({ cls := "java/lang/String", name := "<init>", desc := "(Ljava/lang/StringBuilder;)V" } : Jvm.MethodName)) ∈ gtbl := gt_of 890 (by decide +kernel) (by decide +kernel)
theorem tw798 : (Jvm.Cond.instanceMethod ({ cls := "java/lang/String", name := "<init>", desc := "(Ljava/lang/StringBuilder;)V" } : Jvm.MethodName)) ∈ gtbl := gt_of 891 (by decide +kernel) (by decide +kernel)
theorem tw799 : (Jvm.Cond.code ({ cls := "java/lang/String", name := "<init>", desc := "(Ljava/lang/StringBuilder;)V" } : Jvm.MethodName) prog_21_method_53_code (2 : Nat) (Option.none : Option Jvm.ClassFile.FieldType)) ∈ gtbl := gt_of 892 (by decide +kernel) (by decide +kernel)
theorem tw800 : (Jvm.Cond.methodLink "java/lang/String" (489 : Nat) ({ cls := "java/lang/String", name := "<init>", desc := "(Ljava/lang/AbstractStringBuilder;Ljava/lang/Void;)V" } : Jvm.MethodName)) ∈ gtbl := gt_of 893 (by decide +kernel) (by decide +kernel)
theorem tw801 : (Jvm.Cond.instanceMethod ({ cls := "java/lang/String", name := "<init>", desc := "(Ljava/lang/AbstractStringBuilder;Ljava/lang/Void;)V" } : Jvm.MethodName)) ∈ gtbl := gt_of 894 (by decide +kernel) (by decide +kernel)
theorem tw802 : (Jvm.Cond.code ({ cls := "java/lang/String", name := "<init>", desc := "(Ljava/lang/AbstractStringBuilder;Ljava/lang/Void;)V" } : Jvm.MethodName) prog_21_method_150_code (5 : Nat) (Option.none : Option Jvm.ClassFile.FieldType)) ∈ gtbl := gt_of 895 (by decide +kernel) (by decide +kernel)
theorem tw803 : (Jvm.Cond.methodLink "java/lang/String" (1 : Nat) ({ cls := "java/lang/Object", name := "<init>", desc := "()V" } : Jvm.MethodName)) ∈ gtbl := gt_of 896 (by decide +kernel) (by decide +kernel)
theorem tw804 : (Jvm.Cond.methodLink "java/lang/String" (552 : Nat) ({ cls := "java/lang/AbstractStringBuilder", name := "getValue", desc := "()[B" } : Jvm.MethodName)) ∈ gtbl := gt_of 897 (by decide +kernel) (by decide +kernel)
theorem tw805 : (Jvm.Cond.instanceMethod ({ cls := "java/lang/AbstractStringBuilder", name := "getValue", desc := "()[B" } : Jvm.MethodName)) ∈ gtbl := gt_of 898 (by decide +kernel) (by decide +kernel)
theorem tw807 : (Jvm.Cond.selects "java/lang/StringBuilder" ({ cls := "java/lang/AbstractStringBuilder", name := "getValue", desc := "()[B" } : Jvm.MethodName) ({ cls := "java/lang/AbstractStringBuilder", name := "getValue", desc := "()[B" } : Jvm.MethodName)) ∈ gtbl := gt_of 900 (by decide +kernel) (by decide +kernel)
theorem tw809 : (Jvm.Cond.methodLink "java/lang/String" (549 : Nat) ({ cls := "java/lang/AbstractStringBuilder", name := "length", desc := "()I" } : Jvm.MethodName)) ∈ gtbl := gt_of 902 (by decide +kernel) (by decide +kernel)
theorem tw810 : (Jvm.Cond.methodLink "java/lang/String" (1047 : Nat) ({ cls := "java/lang/AbstractStringBuilder", name := "isLatin1", desc := "()Z" } : Jvm.MethodName)) ∈ gtbl := gt_of 903 (by decide +kernel) (by decide +kernel)
theorem tw811 : (Jvm.Cond.methodLink "java/lang/String" (54 : Nat) ({ cls := "java/util/Arrays", name := "copyOfRange", desc := "([BII)[B" } : Jvm.MethodName)) ∈ gtbl := gt_of 904 (by decide +kernel) (by decide +kernel)
theorem tw812 : (Jvm.Cond.static ({ cls := "java/util/Arrays", name := "copyOfRange", desc := "([BII)[B" } : Jvm.MethodName)) ∈ gtbl := gt_of 905 (by decide +kernel) (by decide +kernel)
theorem tw813 : (Jvm.Cond.code ({ cls := "java/util/Arrays", name := "copyOfRange", desc := "([BII)[B" } : Jvm.MethodName) prog_26_method_132_code (3 : Nat) (Option.some (Jvm.ClassFile.FieldType.array Jvm.ClassFile.FieldType.byte))) ∈ gtbl := gt_of 906 (by decide +kernel) (by decide +kernel)
theorem tw814 : (Jvm.Cond.methodLink "java/util/Arrays" (339 : Nat) ({ cls := "java/util/Arrays", name := "copyOfRangeByte", desc := "([BII)[B" } : Jvm.MethodName)) ∈ gtbl := gt_of 907 (by decide +kernel) (by decide +kernel)
theorem tw815 : (Jvm.Cond.static ({ cls := "java/util/Arrays", name := "copyOfRangeByte", desc := "([BII)[B" } : Jvm.MethodName)) ∈ gtbl := gt_of 908 (by decide +kernel) (by decide +kernel)
theorem tw816 : (Jvm.Cond.code ({ cls := "java/util/Arrays", name := "copyOfRangeByte", desc := "([BII)[B" } : Jvm.MethodName) prog_26_method_133_code (5 : Nat) (Option.some (Jvm.ClassFile.FieldType.array Jvm.ClassFile.FieldType.byte))) ∈ gtbl := gt_of 909 (by decide +kernel) (by decide +kernel)
theorem tw817 : (Jvm.Cond.methodLink "java/util/Arrays" (343 : Nat) ({ cls := "java/util/Arrays", name := "checkLength", desc := "(II)V" } : Jvm.MethodName)) ∈ gtbl := gt_of 910 (by decide +kernel) (by decide +kernel)
theorem tw818 : (Jvm.Cond.static ({ cls := "java/util/Arrays", name := "checkLength", desc := "(II)V" } : Jvm.MethodName)) ∈ gtbl := gt_of 911 (by decide +kernel) (by decide +kernel)
theorem tw819 : (Jvm.Cond.code ({ cls := "java/util/Arrays", name := "checkLength", desc := "(II)V" } : Jvm.MethodName) prog_26_method_131_code (2 : Nat) (Option.none : Option Jvm.ClassFile.FieldType)) ∈ gtbl := gt_of 912 (by decide +kernel) (by decide +kernel)
theorem tw841 : (Jvm.Cond.methodLink "LeafFormula" (272 : Nat) ({ cls := "LeafFormula$Book", name := "<init>", desc := "(LLeafFormula$Plan;Ljava/lang/String;)V" } : Jvm.MethodName)) ∈ gtbl := gt_of 934 (by decide +kernel) (by decide +kernel)
theorem tw842 : (Jvm.Cond.instanceMethod ({ cls := "LeafFormula$Book", name := "<init>", desc := "(LLeafFormula$Plan;Ljava/lang/String;)V" } : Jvm.MethodName)) ∈ gtbl := gt_of 935 (by decide +kernel) (by decide +kernel)
theorem tw843 : (Jvm.Cond.code ({ cls := "LeafFormula$Book", name := "<init>", desc := "(LLeafFormula$Plan;Ljava/lang/String;)V" } : Jvm.MethodName) prog_2_method_1_code (4 : Nat) (Option.none : Option Jvm.ClassFile.FieldType)) ∈ gtbl := gt_of 936 (by decide +kernel) (by decide +kernel)
theorem tw844 : (Jvm.Cond.methodLink "LeafFormula$Book" (3 : Nat) ({ cls := "java/lang/Object", name := "<init>", desc := "()V" } : Jvm.MethodName)) ∈ gtbl := gt_of 937 (by decide +kernel) (by decide +kernel)
theorem tw845 : (Jvm.Cond.classLink "LeafFormula$Book" (9 : Nat) "LeafFormula$Plan") ∈ gtbl := gt_of 938 (by decide +kernel) (by decide +kernel)
theorem tw847 : (Jvm.Cond.classLink "LeafFormula$Book" (22 : Nat) "LeafFormula$Row") ∈ gtbl := gt_of 940 (by decide +kernel) (by decide +kernel)
theorem tw848 : (Jvm.Cond.methodLink "LeafFormula$Book" (24 : Nat) ({ cls := "LeafFormula$Row", name := "<init>", desc := "(I)V" } : Jvm.MethodName)) ∈ gtbl := gt_of 941 (by decide +kernel) (by decide +kernel)
theorem tw849 : (Jvm.Cond.methodLink "LeafFormula$Book" (44 : Nat) ({ cls := "LeafFormula$Plan", name := "copyFrom", desc := "(LLeafFormula$Plan;)V" } : Jvm.MethodName)) ∈ gtbl := gt_of 942 (by decide +kernel) (by decide +kernel)
theorem tw850 : (Jvm.Cond.instanceMethod ({ cls := "LeafFormula$Plan", name := "copyFrom", desc := "(LLeafFormula$Plan;)V" } : Jvm.MethodName)) ∈ gtbl := gt_of 943 (by decide +kernel) (by decide +kernel)
theorem tw851 : (Jvm.Cond.selects "LeafFormula$Plan" ({ cls := "LeafFormula$Plan", name := "copyFrom", desc := "(LLeafFormula$Plan;)V" } : Jvm.MethodName) ({ cls := "LeafFormula$Plan", name := "copyFrom", desc := "(LLeafFormula$Plan;)V" } : Jvm.MethodName)) ∈ gtbl := gt_of 944 (by decide +kernel) (by decide +kernel)
theorem tw852 : (Jvm.Cond.code ({ cls := "LeafFormula$Plan", name := "copyFrom", desc := "(LLeafFormula$Plan;)V" } : Jvm.MethodName) prog_8_method_3_code (2 : Nat) (Option.none : Option Jvm.ClassFile.FieldType)) ∈ gtbl := gt_of 945 (by decide +kernel) (by decide +kernel)
theorem tw853 : (Jvm.Cond.methodLink "LeafFormula$Plan" (41 : Nat) ({ cls := "java/lang/System", name := "arraycopy", desc := "(Ljava/lang/Object;ILjava/lang/Object;II)V" } : Jvm.MethodName)) ∈ gtbl := gt_of 946 (by decide +kernel) (by decide +kernel)
theorem tw854 : (Jvm.Cond.methodLink "LeafFormula$Book" (52 : Nat) ({ cls := "LeafFormula$Book", name := "setOut", desc := "(I)V" } : Jvm.MethodName)) ∈ gtbl := gt_of 947 (by decide +kernel) (by decide +kernel)
theorem tw856 : (Jvm.Cond.instanceMethod ({ cls := "LeafFormula$Book", name := "setOut", desc := "(I)V" } : Jvm.MethodName)) ∈ gtbl := gt_of 949 (by decide +kernel) (by decide +kernel)
theorem tw857 : (Jvm.Cond.code ({ cls := "LeafFormula$Book", name := "setOut", desc := "(I)V" } : Jvm.MethodName) prog_2_method_2_code (6 : Nat) (Option.none : Option Jvm.ClassFile.FieldType)) ∈ gtbl := gt_of 950 (by decide +kernel) (by decide +kernel)
theorem tw858 : (Jvm.Cond.methodLink "LeafFormula$Book" (55 : Nat) ({ cls := "LeafFormula$Plan", name := "signOf", desc := "(I)I" } : Jvm.MethodName)) ∈ gtbl := gt_of 951 (by decide +kernel) (by decide +kernel)
theorem tw859 : (Jvm.Cond.methodLink "LeafFormula$Book" (59 : Nat) ({ cls := "LeafFormula$Plan", name := "sizeOf", desc := "(I)I" } : Jvm.MethodName)) ∈ gtbl := gt_of 952 (by decide +kernel) (by decide +kernel)
theorem tw860 : (Jvm.Cond.methodLink "LeafFormula$Book" (62 : Nat) ({ cls := "LeafFormula$Plan", name := "slotOf", desc := "(II)I" } : Jvm.MethodName)) ∈ gtbl := gt_of 953 (by decide +kernel) (by decide +kernel)
theorem tw861 : (Jvm.Cond.methodLink "LeafFormula$Book" (66 : Nat) ({ cls := "LeafFormula$Book", name := "leafCount", desc := "()I" } : Jvm.MethodName)) ∈ gtbl := gt_of 954 (by decide +kernel) (by decide +kernel)
theorem tw862 : (Jvm.Cond.instanceMethod ({ cls := "LeafFormula$Book", name := "leafCount", desc := "()I" } : Jvm.MethodName)) ∈ gtbl := gt_of 955 (by decide +kernel) (by decide +kernel)
theorem tw863 : (Jvm.Cond.selects "LeafFormula$Book" ({ cls := "LeafFormula$Book", name := "leafCount", desc := "()I" } : Jvm.MethodName) ({ cls := "LeafFormula$Book", name := "leafCount", desc := "()I" } : Jvm.MethodName)) ∈ gtbl := gt_of 956 (by decide +kernel) (by decide +kernel)
theorem tw864 : (Jvm.Cond.code ({ cls := "LeafFormula$Book", name := "leafCount", desc := "()I" } : Jvm.MethodName) prog_2_method_4_code (1 : Nat) (Option.some Jvm.ClassFile.FieldType.int)) ∈ gtbl := gt_of 957 (by decide +kernel) (by decide +kernel)
theorem tw865 : (Jvm.Cond.methodLink "LeafFormula$Book" (70 : Nat) ({ cls := "LeafFormula$Plan", name := "isCut", desc := "(I)Z" } : Jvm.MethodName)) ∈ gtbl := gt_of 958 (by decide +kernel) (by decide +kernel)
theorem tw866 : (Jvm.Cond.instanceMethod ({ cls := "LeafFormula$Plan", name := "isCut", desc := "(I)Z" } : Jvm.MethodName)) ∈ gtbl := gt_of 959 (by decide +kernel) (by decide +kernel)
theorem tw867 : (Jvm.Cond.selects "LeafFormula$Plan" ({ cls := "LeafFormula$Plan", name := "isCut", desc := "(I)Z" } : Jvm.MethodName) ({ cls := "LeafFormula$Plan", name := "isCut", desc := "(I)Z" } : Jvm.MethodName)) ∈ gtbl := gt_of 960 (by decide +kernel) (by decide +kernel)
theorem tw868 : (Jvm.Cond.code ({ cls := "LeafFormula$Plan", name := "isCut", desc := "(I)Z" } : Jvm.MethodName) prog_8_method_10_code (2 : Nat) (Option.some Jvm.ClassFile.FieldType.boolean)) ∈ gtbl := gt_of 961 (by decide +kernel) (by decide +kernel)
theorem tw869 : (Jvm.Cond.methodLink "LeafFormula$Plan" (55 : Nat) ({ cls := "LeafFormula$Plan", name := "fateOf", desc := "(I)I" } : Jvm.MethodName)) ∈ gtbl := gt_of 962 (by decide +kernel) (by decide +kernel)
theorem tw870 : (Jvm.Cond.methodLink "LeafFormula$Book" (74 : Nat) ({ cls := "LeafFormula$Plan", name := "isReplaced", desc := "(I)Z" } : Jvm.MethodName)) ∈ gtbl := gt_of 963 (by decide +kernel) (by decide +kernel)
theorem tw871 : (Jvm.Cond.instanceMethod ({ cls := "LeafFormula$Plan", name := "isReplaced", desc := "(I)Z" } : Jvm.MethodName)) ∈ gtbl := gt_of 964 (by decide +kernel) (by decide +kernel)
theorem tw872 : (Jvm.Cond.selects "LeafFormula$Plan" ({ cls := "LeafFormula$Plan", name := "isReplaced", desc := "(I)Z" } : Jvm.MethodName) ({ cls := "LeafFormula$Plan", name := "isReplaced", desc := "(I)Z" } : Jvm.MethodName)) ∈ gtbl := gt_of 965 (by decide +kernel) (by decide +kernel)
theorem tw873 : (Jvm.Cond.code ({ cls := "LeafFormula$Plan", name := "isReplaced", desc := "(I)Z" } : Jvm.MethodName) prog_8_method_11_code (2 : Nat) (Option.some Jvm.ClassFile.FieldType.boolean)) ∈ gtbl := gt_of 966 (by decide +kernel) (by decide +kernel)
theorem tw874 : (Jvm.Cond.methodLink "LeafFormula$Book" (77 : Nat) ({ cls := "LeafFormula$Book", name := "addLeaf", desc := "(IIII)V" } : Jvm.MethodName)) ∈ gtbl := gt_of 967 (by decide +kernel) (by decide +kernel)
theorem tw876 : (Jvm.Cond.instanceMethod ({ cls := "LeafFormula$Book", name := "addLeaf", desc := "(IIII)V" } : Jvm.MethodName)) ∈ gtbl := gt_of 969 (by decide +kernel) (by decide +kernel)
theorem tw877 : (Jvm.Cond.code ({ cls := "LeafFormula$Book", name := "addLeaf", desc := "(IIII)V" } : Jvm.MethodName) prog_2_method_3_code (5 : Nat) (Option.none : Option Jvm.ClassFile.FieldType)) ∈ gtbl := gt_of 970 (by decide +kernel) (by decide +kernel)
theorem tw878 : (Jvm.Cond.methodLink "LeafFormula$Book" (84 : Nat) ({ cls := "LeafFormula$Row", name := "add", desc := "(I)Z" } : Jvm.MethodName)) ∈ gtbl := gt_of 971 (by decide +kernel) (by decide +kernel)
theorem tw879 : (Jvm.Cond.methodLink "LeafFormula$Book" (81 : Nat) ({ cls := "LeafFormula$Plan", name := "insertedAt", desc := "(I)I" } : Jvm.MethodName)) ∈ gtbl := gt_of 972 (by decide +kernel) (by decide +kernel)
theorem tw880 : (Jvm.Cond.fieldLink "LeafFormula$Book" (12 : Nat) "LeafFormula$Book" "plan" "LLeafFormula$Plan;") ∈ gtbl := gt_of 973 (by decide +kernel) (by decide +kernel)
theorem tw882 : (Jvm.Cond.fieldLink "LeafFormula$Book" (18 : Nat) "LeafFormula$Book" "leavesAhead" "[I") ∈ gtbl := gt_of 975 (by decide +kernel) (by decide +kernel)
theorem tw883 : (Jvm.Cond.fieldLink "LeafFormula$Book" (27 : Nat) "LeafFormula$Book" "gatheringOf" "LLeafFormula$Row;") ∈ gtbl := gt_of 976 (by decide +kernel) (by decide +kernel)
theorem tw884 : (Jvm.Cond.fieldLink "LeafFormula$Book" (31 : Nat) "LeafFormula$Book" "numberOf" "LLeafFormula$Row;") ∈ gtbl := gt_of 977 (by decide +kernel) (by decide +kernel)
theorem tw886 : (Jvm.Cond.fieldLink "LeafFormula$Book" (34 : Nat) "LeafFormula$Book" "kindOf" "LLeafFormula$Row;") ∈ gtbl := gt_of 979 (by decide +kernel) (by decide +kernel)
theorem tw887 : (Jvm.Cond.fieldLink "LeafFormula$Book" (37 : Nat) "LeafFormula$Book" "insertedOf" "LLeafFormula$Row;") ∈ gtbl := gt_of 980 (by decide +kernel) (by decide +kernel)
theorem tw889 : (Jvm.Cond.fieldLink "LeafFormula$Book" (40 : Nat) "LeafFormula$Book" "written" "Ljava/lang/String;") ∈ gtbl := gt_of 982 (by decide +kernel) (by decide +kernel)
theorem tw909 : (Jvm.Cond.code ({ cls := "LeafFormula", name := "change", desc := "(I)I" } : Jvm.MethodName) prog_1_method_5_code (4 : Nat) (Option.some Jvm.ClassFile.FieldType.int)) ∈ gtbl := gt_of 1002 (by decide +kernel) (by decide +kernel)
theorem tw910 : (Jvm.Cond.methodLink "LeafFormula" (102 : Nat) ({ cls := "LeafFormula", name := "bookAt", desc := "(I)LLeafFormula$Book;" } : Jvm.MethodName)) ∈ gtbl := gt_of 1003 (by decide +kernel) (by decide +kernel)
theorem tw912 : (Jvm.Cond.instanceMethod ({ cls := "LeafFormula", name := "bookAt", desc := "(I)LLeafFormula$Book;" } : Jvm.MethodName)) ∈ gtbl := gt_of 1005 (by decide +kernel) (by decide +kernel)
theorem tw913 : (Jvm.Cond.code ({ cls := "LeafFormula", name := "bookAt", desc := "(I)LLeafFormula$Book;" } : Jvm.MethodName) prog_1_method_32_code (2 : Nat) (Option.some (Jvm.ClassFile.FieldType.object "LeafFormula$Book"))) ∈ gtbl := gt_of 1006 (by decide +kernel) (by decide +kernel)
theorem tw914 : (Jvm.Cond.methodLink "LeafFormula" (106 : Nat) ({ cls := "LeafFormula$Reader", name := "readsChanges", desc := "()Z" } : Jvm.MethodName)) ∈ gtbl := gt_of 1007 (by decide +kernel) (by decide +kernel)
theorem tw915 : (Jvm.Cond.instanceMethod ({ cls := "LeafFormula$Reader", name := "readsChanges", desc := "()Z" } : Jvm.MethodName)) ∈ gtbl := gt_of 1008 (by decide +kernel) (by decide +kernel)
theorem tw916 : (Jvm.Cond.selects "LeafFormula$Reader" ({ cls := "LeafFormula$Reader", name := "readsChanges", desc := "()Z" } : Jvm.MethodName) ({ cls := "LeafFormula$Reader", name := "readsChanges", desc := "()Z" } : Jvm.MethodName)) ∈ gtbl := gt_of 1009 (by decide +kernel) (by decide +kernel)
theorem tw917 : (Jvm.Cond.code ({ cls := "LeafFormula$Reader", name := "readsChanges", desc := "()Z" } : Jvm.MethodName) prog_9_method_3_code (1 : Nat) (Option.some Jvm.ClassFile.FieldType.boolean)) ∈ gtbl := gt_of 1010 (by decide +kernel) (by decide +kernel)
theorem tw918 : (Jvm.Cond.methodLink "LeafFormula" (109 : Nat) ({ cls := "LeafFormula", name := "draftChanges", desc := "(LLeafFormula$Book;)I" } : Jvm.MethodName)) ∈ gtbl := gt_of 1011 (by decide +kernel) (by decide +kernel)
theorem tw920 : (Jvm.Cond.instanceMethod ({ cls := "LeafFormula", name := "draftChanges", desc := "(LLeafFormula$Book;)I" } : Jvm.MethodName)) ∈ gtbl := gt_of 1013 (by decide +kernel) (by decide +kernel)
theorem tw921 : (Jvm.Cond.code ({ cls := "LeafFormula", name := "draftChanges", desc := "(LLeafFormula$Book;)I" } : Jvm.MethodName) prog_1_method_37_code (2 : Nat) (Option.some Jvm.ClassFile.FieldType.int)) ∈ gtbl := gt_of 1014 (by decide +kernel) (by decide +kernel)
theorem tw922 : (Jvm.Cond.methodLink "LeafFormula" (252 : Nat) ({ cls := "LeafFormula$Plan", name := "copyFrom", desc := "(LLeafFormula$Plan;)V" } : Jvm.MethodName)) ∈ gtbl := gt_of 1015 (by decide +kernel) (by decide +kernel)
theorem tw923 : (Jvm.Cond.methodLink "LeafFormula" (256 : Nat) ({ cls := "LeafFormula$NamedLeaves", name := "amount", desc := "()I" } : Jvm.MethodName)) ∈ gtbl := gt_of 1016 (by decide +kernel) (by decide +kernel)
theorem tw924 : (Jvm.Cond.methodLink "LeafFormula" (261 : Nat) ({ cls := "LeafFormula$Faults", name := "ofChanges", desc := "(LLeafFormula$NamedLeaves;IILLeafFormula$Plan;)I" } : Jvm.MethodName)) ∈ gtbl := gt_of 1017 (by decide +kernel) (by decide +kernel)
theorem tw932 : (Jvm.Cond.code ({ cls := "LeafFormula$Reader", name := "readsRow", desc := "()Z" } : Jvm.MethodName) prog_9_method_4_code (2 : Nat) (Option.some Jvm.ClassFile.FieldType.boolean)) ∈ gtbl := gt_of 1025 (by decide +kernel) (by decide +kernel)
theorem tw933 : (Jvm.Cond.methodLink "LeafFormula$Reader" (50 : Nat) ({ cls := "LeafFormula$Reader", name := "readsOneName", desc := "(I)Z" } : Jvm.MethodName)) ∈ gtbl := gt_of 1026 (by decide +kernel) (by decide +kernel)
theorem tw935 : (Jvm.Cond.instanceMethod ({ cls := "LeafFormula$Reader", name := "readsOneName", desc := "(I)Z" } : Jvm.MethodName)) ∈ gtbl := gt_of 1028 (by decide +kernel) (by decide +kernel)
theorem tw936 : (Jvm.Cond.code ({ cls := "LeafFormula$Reader", name := "readsOneName", desc := "(I)Z" } : Jvm.MethodName) prog_9_method_12_code (3 : Nat) (Option.some Jvm.ClassFile.FieldType.boolean)) ∈ gtbl := gt_of 1029 (by decide +kernel) (by decide +kernel)
theorem tw940 : (Jvm.Cond.code ({ cls := "LeafFormula", name := "draftRow", desc := "(LLeafFormula$Book;)I" } : Jvm.MethodName) prog_1_method_40_code (2 : Nat) (Option.some Jvm.ClassFile.FieldType.int)) ∈ gtbl := gt_of 1033 (by decide +kernel) (by decide +kernel)
theorem tw941 : (Jvm.Cond.methodLink "LeafFormula" (275 : Nat) ({ cls := "LeafFormula$Faults", name := "ofRow", desc := "(LLeafFormula$NamedLeaves;LLeafFormula$Book;)I" } : Jvm.MethodName)) ∈ gtbl := gt_of 1034 (by decide +kernel) (by decide +kernel)
theorem tw942 : (Jvm.Cond.static ({ cls := "LeafFormula$Faults", name := "ofRow", desc := "(LLeafFormula$NamedLeaves;LLeafFormula$Book;)I" } : Jvm.MethodName)) ∈ gtbl := gt_of 1035 (by decide +kernel) (by decide +kernel)
theorem tw943 : (Jvm.Cond.code ({ cls := "LeafFormula$Faults", name := "ofRow", desc := "(LLeafFormula$NamedLeaves;LLeafFormula$Book;)I" } : Jvm.MethodName) prog_5_method_7_code (4 : Nat) (Option.some Jvm.ClassFile.FieldType.int)) ∈ gtbl := gt_of 1036 (by decide +kernel) (by decide +kernel)
theorem tw944 : (Jvm.Cond.methodLink "LeafFormula$Faults" (102 : Nat) ({ cls := "LeafFormula$NamedLeaves", name := "amount", desc := "()I" } : Jvm.MethodName)) ∈ gtbl := gt_of 1037 (by decide +kernel) (by decide +kernel)
theorem tw945 : (Jvm.Cond.methodLink "LeafFormula$Faults" (106 : Nat) ({ cls := "LeafFormula$Book", name := "placeOf", desc := "(LLeafFormula$NamedLeaves;I)I" } : Jvm.MethodName)) ∈ gtbl := gt_of 1038 (by decide +kernel) (by decide +kernel)
theorem tw946 : (Jvm.Cond.instanceMethod ({ cls := "LeafFormula$Book", name := "placeOf", desc := "(LLeafFormula$NamedLeaves;I)I" } : Jvm.MethodName)) ∈ gtbl := gt_of 1039 (by decide +kernel) (by decide +kernel)
theorem tw947 : (Jvm.Cond.selects "LeafFormula$Book" ({ cls := "LeafFormula$Book", name := "placeOf", desc := "(LLeafFormula$NamedLeaves;I)I" } : Jvm.MethodName) ({ cls := "LeafFormula$Book", name := "placeOf", desc := "(LLeafFormula$NamedLeaves;I)I" } : Jvm.MethodName)) ∈ gtbl := gt_of 1040 (by decide +kernel) (by decide +kernel)
theorem tw948 : (Jvm.Cond.code ({ cls := "LeafFormula$Book", name := "placeOf", desc := "(LLeafFormula$NamedLeaves;I)I" } : Jvm.MethodName) prog_2_method_11_code (3 : Nat) (Option.some Jvm.ClassFile.FieldType.int)) ∈ gtbl := gt_of 1041 (by decide +kernel) (by decide +kernel)
theorem tw949 : (Jvm.Cond.methodLink "LeafFormula$Book" (96 : Nat) ({ cls := "LeafFormula$Row", name := "get", desc := "(I)I" } : Jvm.MethodName)) ∈ gtbl := gt_of 1042 (by decide +kernel) (by decide +kernel)
theorem tw950 : (Jvm.Cond.methodLink "LeafFormula$Book" (108 : Nat) ({ cls := "LeafFormula$Book", name := "placeOfSlot", desc := "(II)I" } : Jvm.MethodName)) ∈ gtbl := gt_of 1043 (by decide +kernel) (by decide +kernel)
theorem tw952 : (Jvm.Cond.instanceMethod ({ cls := "LeafFormula$Book", name := "placeOfSlot", desc := "(II)I" } : Jvm.MethodName)) ∈ gtbl := gt_of 1045 (by decide +kernel) (by decide +kernel)
theorem tw953 : (Jvm.Cond.code ({ cls := "LeafFormula$Book", name := "placeOfSlot", desc := "(II)I" } : Jvm.MethodName) prog_2_method_12_code (5 : Nat) (Option.some Jvm.ClassFile.FieldType.int)) ∈ gtbl := gt_of 1046 (by decide +kernel) (by decide +kernel)
theorem tw954 : (Jvm.Cond.methodLink "LeafFormula$Faults" (112 : Nat) ({ cls := "LeafFormula$NamedLeaves", name := "isJoined", desc := "(I)Z" } : Jvm.MethodName)) ∈ gtbl := gt_of 1047 (by decide +kernel) (by decide +kernel)
theorem tw955 : (Jvm.Cond.instanceMethod ({ cls := "LeafFormula$NamedLeaves", name := "isJoined", desc := "(I)Z" } : Jvm.MethodName)) ∈ gtbl := gt_of 1048 (by decide +kernel) (by decide +kernel)
theorem tw956 : (Jvm.Cond.selects "LeafFormula$NamedLeaves" ({ cls := "LeafFormula$NamedLeaves", name := "isJoined", desc := "(I)Z" } : Jvm.MethodName) ({ cls := "LeafFormula$NamedLeaves", name := "isJoined", desc := "(I)Z" } : Jvm.MethodName)) ∈ gtbl := gt_of 1049 (by decide +kernel) (by decide +kernel)
theorem tw957 : (Jvm.Cond.code ({ cls := "LeafFormula$NamedLeaves", name := "isJoined", desc := "(I)Z" } : Jvm.MethodName) prog_7_method_4_code (2 : Nat) (Option.some Jvm.ClassFile.FieldType.boolean)) ∈ gtbl := gt_of 1050 (by decide +kernel) (by decide +kernel)
theorem tw958 : (Jvm.Cond.methodLink "LeafFormula$NamedLeaves" (36 : Nat) ({ cls := "LeafFormula$Row", name := "get", desc := "(I)I" } : Jvm.MethodName)) ∈ gtbl := gt_of 1051 (by decide +kernel) (by decide +kernel)
theorem tw959 : (Jvm.Cond.methodLink "LeafFormula" (279 : Nat) ({ cls := "LeafFormula$Book", name := "listsEntries", desc := "(LLeafFormula$NamedLeaves;LLeafFormula$Row;)Z" } : Jvm.MethodName)) ∈ gtbl := gt_of 1052 (by decide +kernel) (by decide +kernel)
theorem tw960 : (Jvm.Cond.instanceMethod ({ cls := "LeafFormula$Book", name := "listsEntries", desc := "(LLeafFormula$NamedLeaves;LLeafFormula$Row;)Z" } : Jvm.MethodName)) ∈ gtbl := gt_of 1053 (by decide +kernel) (by decide +kernel)
theorem tw961 : (Jvm.Cond.selects "LeafFormula$Book" ({ cls := "LeafFormula$Book", name := "listsEntries", desc := "(LLeafFormula$NamedLeaves;LLeafFormula$Row;)Z" } : Jvm.MethodName) ({ cls := "LeafFormula$Book", name := "listsEntries", desc := "(LLeafFormula$NamedLeaves;LLeafFormula$Row;)Z" } : Jvm.MethodName)) ∈ gtbl := gt_of 1054 (by decide +kernel) (by decide +kernel)
theorem tw962 : (Jvm.Cond.code ({ cls := "LeafFormula$Book", name := "listsEntries", desc := "(LLeafFormula$NamedLeaves;LLeafFormula$Row;)Z" } : Jvm.MethodName) prog_2_method_13_code (7 : Nat) (Option.some Jvm.ClassFile.FieldType.boolean)) ∈ gtbl := gt_of 1055 (by decide +kernel) (by decide +kernel)
theorem tw963 : (Jvm.Cond.methodLink "LeafFormula$Book" (122 : Nat) ({ cls := "LeafFormula$Row", name := "clear", desc := "()V" } : Jvm.MethodName)) ∈ gtbl := gt_of 1056 (by decide +kernel) (by decide +kernel)
theorem tw964 : (Jvm.Cond.methodLink "LeafFormula$Book" (125 : Nat) ({ cls := "LeafFormula$NamedLeaves", name := "amount", desc := "()I" } : Jvm.MethodName)) ∈ gtbl := gt_of 1057 (by decide +kernel) (by decide +kernel)
theorem tw965 : (Jvm.Cond.methodLink "LeafFormula$Book" (128 : Nat) ({ cls := "LeafFormula$Book", name := "placeOf", desc := "(LLeafFormula$NamedLeaves;I)I" } : Jvm.MethodName)) ∈ gtbl := gt_of 1058 (by decide +kernel) (by decide +kernel)
theorem tw966 : (Jvm.Cond.methodLink "LeafFormula$Book" (132 : Nat) ({ cls := "LeafFormula$NamedLeaves", name := "isJoined", desc := "(I)Z" } : Jvm.MethodName)) ∈ gtbl := gt_of 1059 (by decide +kernel) (by decide +kernel)
theorem tw982 : (Jvm.Cond.code ({ cls := "LeafFormula$Row", name := "copyFrom", desc := "(LLeafFormula$Row;)V" } : Jvm.MethodName) prog_10_method_5_code (3 : Nat) (Option.none : Option Jvm.ClassFile.FieldType)) ∈ gtbl := gt_of 1075 (by decide +kernel) (by decide +kernel)
theorem tw983 : (Jvm.Cond.methodLink "LeafFormula$Row" (25 : Nat) ({ cls := "LeafFormula$Row", name := "clear", desc := "()V" } : Jvm.MethodName)) ∈ gtbl := gt_of 1076 (by decide +kernel) (by decide +kernel)
theorem tw984 : (Jvm.Cond.methodLink "LeafFormula$Row" (28 : Nat) ({ cls := "LeafFormula$Row", name := "get", desc := "(I)I" } : Jvm.MethodName)) ∈ gtbl := gt_of 1077 (by decide +kernel) (by decide +kernel)
theorem tw985 : (Jvm.Cond.methodLink "LeafFormula$Row" (32 : Nat) ({ cls := "LeafFormula$Row", name := "add", desc := "(I)Z" } : Jvm.MethodName)) ∈ gtbl := gt_of 1078 (by decide +kernel) (by decide +kernel)
theorem tw1776 : (Jvm.Cond.selects "java/lang/StringBuilder" ({ cls := "java/lang/AbstractStringBuilder", name := "length", desc := "()I" } : Jvm.MethodName) ({ cls := "java/lang/StringBuilder", name := "length", desc := "()I" } : Jvm.MethodName)) ∈ gtbl := gt_of 1869 (by decide +kernel) (by decide +kernel)
theorem nw54 : (Jvm.Cond.fieldLinkNest "LeafFormula$Book" (87 : Nat) "LeafFormula$Row" "length" "I" "LeafFormula") ∈ ntbl := nt_of 54 (by decide +kernel) (by decide +kernel)
theorem nw138 : (Jvm.Cond.fieldLinkNest "LeafFormula$Book" (111 : Nat) "LeafFormula$NamedLeaves" "sign" "LLeafFormula$Row;" "LeafFormula") ∈ ntbl := nt_of 138 (by decide +kernel) (by decide +kernel)
theorem nw142 : (Jvm.Cond.fieldLinkNest "LeafFormula$Book" (116 : Nat) "LeafFormula$NamedLeaves" "number" "LLeafFormula$Row;" "LeafFormula") ∈ ntbl := nt_of 142 (by decide +kernel) (by decide +kernel)
theorem nw146 : (Jvm.Cond.fieldLinkNest "LeafFormula$Book" (119 : Nat) "LeafFormula$NamedLeaves" "inserted" "LLeafFormula$Row;" "LeafFormula") ∈ ntbl := nt_of 146 (by decide +kernel) (by decide +kernel)
theorem nw162 : (Jvm.Cond.fieldLinkNest "LeafFormula" (126 : Nat) "LeafFormula$Reader" "leaves" "LLeafFormula$NamedLeaves;" "LeafFormula") ∈ ntbl := nt_of 162 (by decide +kernel) (by decide +kernel)
theorem nw190 : (Jvm.Cond.fieldLinkNest "LeafFormula$Book" (48 : Nat) "LeafFormula$Plan" "gatheringCount" "I" "LeafFormula") ∈ ntbl := nt_of 190 (by decide +kernel) (by decide +kernel)
theorem nw192 : (Jvm.Cond.fieldLinkNest "LeafFormula$Scribe" (30 : Nat) "LeafFormula$Plan" "gatheringCount" "I" "LeafFormula") ∈ ntbl := nt_of 192 (by decide +kernel) (by decide +kernel)
theorem nw620 : (Jvm.Cond.castable "[B" "java/lang/Cloneable") ∈ ntbl := nt_of 620 (by decide +kernel) (by decide +kernel)
theorem nw846 : (Jvm.Cond.methodLinkNest "LeafFormula$Book" (11 : Nat) ({ cls := "LeafFormula$Plan", name := "<init>", desc := "()V" } : Jvm.MethodName) "LeafFormula") ∈ ntbl := nt_of 846 (by decide +kernel) (by decide +kernel)
theorem nw881 : (Jvm.Cond.fieldLinkNest "LeafFormula" (143 : Nat) "LeafFormula$Book" "plan" "LLeafFormula$Plan;" "LeafFormula") ∈ ntbl := nt_of 881 (by decide +kernel) (by decide +kernel)
theorem pw13 : Cond.selects "LeafFormula" ⟨"LeafFormula", "draftFormula", "()I"⟩ ⟨"LeafFormula", "draftFormula", "()I"⟩ ∈ gtbl := gt_of 13 (by decide +kernel) (by decide +kernel)
theorem pw16 : Cond.selects "LeafFormula" ⟨"LeafFormula", "closeBook", "(I)I"⟩ ⟨"LeafFormula", "closeBook", "(I)I"⟩ ∈ gtbl := gt_of 16 (by decide +kernel) (by decide +kernel)
theorem pw17 : Cond.selects "LeafFormula$Scribe" ⟨"LeafFormula$Scribe", "writeGroup", "(LLeafFormula$Plan;II)V"⟩ ⟨"LeafFormula$Scribe", "writeGroup", "(LLeafFormula$Plan;II)V"⟩ ∈ gtbl := gt_of 17 (by decide +kernel) (by decide +kernel)
theorem pw20 : Cond.selects "LeafFormula$Book" ⟨"LeafFormula$Book", "setOut", "(I)V"⟩ ⟨"LeafFormula$Book", "setOut", "(I)V"⟩ ∈ gtbl := gt_of 20 (by decide +kernel) (by decide +kernel)
theorem pw21 : Cond.selects "LeafFormula$Book" ⟨"LeafFormula$Book", "addLeaf", "(IIII)V"⟩ ⟨"LeafFormula$Book", "addLeaf", "(IIII)V"⟩ ∈ gtbl := gt_of 21 (by decide +kernel) (by decide +kernel)
theorem pw22 : Cond.selects "LeafFormula" ⟨"LeafFormula", "bookAt", "(I)LLeafFormula$Book;"⟩ ⟨"LeafFormula", "bookAt", "(I)LLeafFormula$Book;"⟩ ∈ gtbl := gt_of 22 (by decide +kernel) (by decide +kernel)
theorem pw23 : Cond.selects "LeafFormula" ⟨"LeafFormula", "draftChanges", "(LLeafFormula$Book;)I"⟩ ⟨"LeafFormula", "draftChanges", "(LLeafFormula$Book;)I"⟩ ∈ gtbl := gt_of 23 (by decide +kernel) (by decide +kernel)
theorem pw24 : Cond.selects "LeafFormula$Reader" ⟨"LeafFormula$Reader", "readsOneName", "(I)Z"⟩ ⟨"LeafFormula$Reader", "readsOneName", "(I)Z"⟩ ∈ gtbl := gt_of 24 (by decide +kernel) (by decide +kernel)
theorem pw26 : Cond.selects "LeafFormula$Book" ⟨"LeafFormula$Book", "placeOfSlot", "(II)I"⟩ ⟨"LeafFormula$Book", "placeOfSlot", "(II)I"⟩ ∈ gtbl := gt_of 26 (by decide +kernel) (by decide +kernel)
/-! J7_checkLength_df160 -/
theorem dJ7_checkLength_df160_0 : decode cJ7_checkLength_df160 0 = .ok (.iload_n 1, 1) := by decide +kernel
theorem dJ7_checkLength_df160_1 : decode cJ7_checkLength_df160 1 = .ok (.iload_n 0, 1) := by decide +kernel
theorem dJ7_checkLength_df160_2 : decode cJ7_checkLength_df160 2 = .ok (.if_icmp .ge 35, 3) := by decide +kernel
theorem dJ7_checkLength_df160_37 : decode cJ7_checkLength_df160 37 = .ok (.return_, 1) := by decide +kernel
def J7_checkLength_df160 (a0 : Int32) (a1 : Int32) : MM Unit :=
  if a0 ≤ a1 then (mr ()) else (mf)
set_option maxRecDepth 100000 in
set_option maxHeartbeats 4000000 in
theorem s_J7_checkLength_df160 (G : GG) (a0 : Int32) (a1 : Int32) : Sn G yJ7_checkLength_df160 cJ7_checkLength_df160 2 none 0 0 (fun _ : Unit => none) (J7_checkLength_df160 a0 a1) 0 [some (.int a0), some (.int a1)] [] := by
  unfold J7_checkLength_df160
  refine sn_iload_n (v := a1) (pc' := 1) dJ7_checkLength_df160_0 rfl rfl rfl ?_
  refine sn_iload_n (v := a0) (pc' := 2) dJ7_checkLength_df160_1 rfl rfl rfl ?_
  refine sn_ic_ge (pt := 37) (pf := 5) dJ7_checkLength_df160_2 rfl rfl ?_ ?_
  · exact sn_vret dJ7_checkLength_df160_37 rfl
  · exact sn_mf
theorem c_J7_checkLength_df160 (G : GG) (a0 : Int32) (a1 : Int32) : Cal G yJ7_checkLength_df160 cJ7_checkLength_df160 2 none 0 0 (fun _ : Unit => none) (J7_checkLength_df160 a0 a1) [.int a0, .int a1] :=
  Cal.of (by decide) (cat_i (cat_i cat_nil)) rfl (sn_weak (le_s (le_s le_e)) (s_J7_checkLength_df160 G a0 a1))
theorem cw_J7_checkLength_df160 : CW yJ7_checkLength_df160 cJ7_checkLength_df160 2 none 2 := ⟨tw819, tw20, by decide, by decide +kernel⟩
/-! J7_copyOfRangeByte_39247 -/
theorem dJ7_copyOfRangeByte_39247_0 : decode cJ7_copyOfRangeByte_39247 0 = .ok (.iload_n 1, 1) := by decide +kernel
theorem dJ7_copyOfRangeByte_39247_1 : decode cJ7_copyOfRangeByte_39247 1 = .ok (.iload_n 2, 1) := by decide +kernel
theorem dJ7_copyOfRangeByte_39247_2 : decode cJ7_copyOfRangeByte_39247 2 = .ok (.invokestatic 343, 3) := by decide +kernel
theorem dJ7_copyOfRangeByte_39247_5 : decode cJ7_copyOfRangeByte_39247 5 = .ok (.iload_n 2, 1) := by decide +kernel
theorem dJ7_copyOfRangeByte_39247_6 : decode cJ7_copyOfRangeByte_39247 6 = .ok (.iload_n 1, 1) := by decide +kernel
theorem dJ7_copyOfRangeByte_39247_7 : decode cJ7_copyOfRangeByte_39247 7 = .ok (.isub, 1) := by decide +kernel
theorem dJ7_copyOfRangeByte_39247_8 : decode cJ7_copyOfRangeByte_39247 8 = .ok (.istore_n 3, 1) := by decide +kernel
theorem dJ7_copyOfRangeByte_39247_9 : decode cJ7_copyOfRangeByte_39247 9 = .ok (.iload_n 3, 1) := by decide +kernel
theorem dJ7_copyOfRangeByte_39247_10 : decode cJ7_copyOfRangeByte_39247 10 = .ok (.newarray .byte, 2) := by decide +kernel
theorem dJ7_copyOfRangeByte_39247_12 : decode cJ7_copyOfRangeByte_39247 12 = .ok (.astore 4, 2) := by decide +kernel
theorem dJ7_copyOfRangeByte_39247_14 : decode cJ7_copyOfRangeByte_39247 14 = .ok (.aload_n 0, 1) := by decide +kernel
theorem dJ7_copyOfRangeByte_39247_15 : decode cJ7_copyOfRangeByte_39247 15 = .ok (.iload_n 1, 1) := by decide +kernel
theorem dJ7_copyOfRangeByte_39247_16 : decode cJ7_copyOfRangeByte_39247 16 = .ok (.aload 4, 2) := by decide +kernel
theorem dJ7_copyOfRangeByte_39247_18 : decode cJ7_copyOfRangeByte_39247 18 = .ok (.iconst 0, 1) := by decide +kernel
theorem dJ7_copyOfRangeByte_39247_19 : decode cJ7_copyOfRangeByte_39247 19 = .ok (.aload_n 0, 1) := by decide +kernel
theorem dJ7_copyOfRangeByte_39247_20 : decode cJ7_copyOfRangeByte_39247 20 = .ok (.arraylength, 1) := by decide +kernel
theorem dJ7_copyOfRangeByte_39247_21 : decode cJ7_copyOfRangeByte_39247 21 = .ok (.iload_n 1, 1) := by decide +kernel
theorem dJ7_copyOfRangeByte_39247_22 : decode cJ7_copyOfRangeByte_39247 22 = .ok (.isub, 1) := by decide +kernel
theorem dJ7_copyOfRangeByte_39247_23 : decode cJ7_copyOfRangeByte_39247 23 = .ok (.iload_n 3, 1) := by decide +kernel
theorem dJ7_copyOfRangeByte_39247_24 : decode cJ7_copyOfRangeByte_39247 24 = .ok (.invokestatic 304, 3) := by decide +kernel
theorem dJ7_copyOfRangeByte_39247_27 : decode cJ7_copyOfRangeByte_39247 27 = .ok (.invokestatic 150, 3) := by decide +kernel
theorem dJ7_copyOfRangeByte_39247_30 : decode cJ7_copyOfRangeByte_39247 30 = .ok (.aload 4, 2) := by decide +kernel
theorem dJ7_copyOfRangeByte_39247_32 : decode cJ7_copyOfRangeByte_39247 32 = .ok (.areturn, 1) := by decide +kernel
def J7_copyOfRangeByte_39247 (a0 : Option Nat) (a1 : Int32) (a2 : Int32) : MM (Option Nat) :=
  mb (J7_checkLength_df160 a1 a2) fun _ =>
  mb (nA 1 (a2 - a1)) fun v1 =>
  mb (aN a0) fun v2 =>
  mb (cpy a0 a1 v1 (0 : Int32) (if (a2 - a1) < (v2 - a1) then (a2 - a1) else (v2 - a1))) fun _ =>
  mr v1
set_option maxRecDepth 100000 in
set_option maxHeartbeats 4000000 in
theorem s_J7_copyOfRangeByte_39247 (G : GG) (a0 : Option Nat) (a1 : Int32) (a2 : Int32) : Sn G yJ7_copyOfRangeByte_39247 cJ7_copyOfRangeByte_39247 5 (some (FieldType.array FieldType.byte)) 1 21 (fun v : Option Nat => some (va_rf v)) (J7_copyOfRangeByte_39247 a0 a1 a2) 0 [some (va_rf a0), some (.int a1), some (.int a2), none, none] [] := by
  unfold J7_copyOfRangeByte_39247
  refine sn_iload_n (v := a1) (pc' := 1) dJ7_copyOfRangeByte_39247_0 rfl rfl rfl ?_
  refine sn_iload_n (v := a2) (pc' := 2) dJ7_copyOfRangeByte_39247_1 rfl rfl rfl ?_
  refine sn_cS (st := []) (As := [.int a1, .int a2]) (st2 := (fun _ => [])) (pc' := 5) (c_J7_checkLength_df160 G a1 a2) cw_J7_checkLength_df160 rfl rfl tw817 tw818 rfl rfl cat_nil rfl (fun _ => rfl) dJ7_copyOfRangeByte_39247_2 rfl (fun _ => ?_)
  refine sn_iload_n (v := a2) (pc' := 6) dJ7_copyOfRangeByte_39247_5 rfl rfl rfl ?_
  refine sn_iload_n (v := a1) (pc' := 7) dJ7_copyOfRangeByte_39247_6 rfl rfl rfl ?_
  refine sn_isub (pc' := 8) dJ7_copyOfRangeByte_39247_7 rfl ?_
  refine sn_istore_n (v := (a2 - a1)) (L' := [some (va_rf a0), some (.int a1), some (.int a2), some (.int (a2 - a1)), none]) (pc' := 9) dJ7_copyOfRangeByte_39247_8 rfl rfl rfl rfl ?_
  refine sn_iload_n (v := (a2 - a1)) (pc' := 10) dJ7_copyOfRangeByte_39247_9 rfl rfl rfl ?_
  refine sn_nA (t := 1) (pc' := 12) rfl rfl tw63 dJ7_copyOfRangeByte_39247_10 rfl (fun v1 => ?_)
  refine sn_astore (v := v1) (L' := [some (va_rf a0), some (.int a1), some (.int a2), some (.int (a2 - a1)), some (va_rf v1)]) (pc' := 14) dJ7_copyOfRangeByte_39247_12 rfl rfl rfl ?_
  refine sn_aload_n (v := a0) (pc' := 15) dJ7_copyOfRangeByte_39247_14 rfl rfl rfl ?_
  refine sn_iload_n (v := a1) (pc' := 16) dJ7_copyOfRangeByte_39247_15 rfl rfl rfl ?_
  refine sn_aload (v := v1) (pc' := 18) dJ7_copyOfRangeByte_39247_16 rfl rfl ?_
  refine sn_iconst (v := (0 : Int32)) (pc' := 19) dJ7_copyOfRangeByte_39247_18 rfl (by decide) ?_
  refine sn_aload_n (v := a0) (pc' := 20) dJ7_copyOfRangeByte_39247_19 rfl rfl rfl ?_
  refine sn_aN (pc' := 21) dJ7_copyOfRangeByte_39247_20 rfl (fun v2 => ?_)
  refine sn_iload_n (v := a1) (pc' := 22) dJ7_copyOfRangeByte_39247_21 rfl rfl rfl ?_
  refine sn_isub (pc' := 23) dJ7_copyOfRangeByte_39247_22 rfl ?_
  refine sn_iload_n (v := (a2 - a1)) (pc' := 24) dJ7_copyOfRangeByte_39247_23 rfl rfl rfl ?_
  refine sn_min (pc' := 27) rfl tw622 tw423 tw4 tw424 (cat_i (cat_q (cat_i (cat_q cat_nil)))) rfl dJ7_copyOfRangeByte_39247_24 rfl ?_
  refine sn_cpy (st := []) (pc' := 30) tw623 tw625 tw624 tw23 rfl cat_nil (by decide) dJ7_copyOfRangeByte_39247_27 rfl (fun _ => ?_)
  refine sn_aload (v := v1) (pc' := 32) dJ7_copyOfRangeByte_39247_30 rfl rfl ?_
  exact sn_aret dJ7_copyOfRangeByte_39247_32 rfl (Or.inr ⟨_, rfl⟩)
theorem c_J7_copyOfRangeByte_39247 (G : GG) (a0 : Option Nat) (a1 : Int32) (a2 : Int32) : Cal G yJ7_copyOfRangeByte_39247 cJ7_copyOfRangeByte_39247 5 (some (FieldType.array FieldType.byte)) 1 21 (fun v : Option Nat => some (va_rf v)) (J7_copyOfRangeByte_39247 a0 a1 a2) [va_rf a0, .int a1, .int a2] :=
  Cal.of (by decide) (cat_q (cat_i (cat_i cat_nil))) rfl (sn_weak (le_s (le_s (le_s (le_z (le_z le_e))))) (s_J7_copyOfRangeByte_39247 G a0 a1 a2))
theorem cw_J7_copyOfRangeByte_39247 : CW yJ7_copyOfRangeByte_39247 cJ7_copyOfRangeByte_39247 5 (some (FieldType.array FieldType.byte)) 3 := ⟨tw816, tw20, by decide, by decide +kernel⟩
/-! J7_copyOfRange_39247 -/
theorem dJ7_copyOfRange_39247_0 : decode cJ7_copyOfRange_39247 0 = .ok (.iload_n 1, 1) := by decide +kernel
theorem dJ7_copyOfRange_39247_1 : decode cJ7_copyOfRange_39247 1 = .ok (.ifCond .ne 9, 3) := by decide +kernel
theorem dJ7_copyOfRange_39247_4 : decode cJ7_copyOfRange_39247 4 = .ok (.iload_n 2, 1) := by decide +kernel
theorem dJ7_copyOfRange_39247_5 : decode cJ7_copyOfRange_39247 5 = .ok (.aload_n 0, 1) := by decide +kernel
theorem dJ7_copyOfRange_39247_6 : decode cJ7_copyOfRange_39247 6 = .ok (.arraylength, 1) := by decide +kernel
theorem dJ7_copyOfRange_39247_7 : decode cJ7_copyOfRange_39247 7 = .ok (.if_icmp .eq 10, 3) := by decide +kernel
theorem dJ7_copyOfRange_39247_10 : decode cJ7_copyOfRange_39247 10 = .ok (.aload_n 0, 1) := by decide +kernel
theorem dJ7_copyOfRange_39247_11 : decode cJ7_copyOfRange_39247 11 = .ok (.iload_n 1, 1) := by decide +kernel
theorem dJ7_copyOfRange_39247_12 : decode cJ7_copyOfRange_39247 12 = .ok (.iload_n 2, 1) := by decide +kernel
theorem dJ7_copyOfRange_39247_13 : decode cJ7_copyOfRange_39247 13 = .ok (.invokestatic 339, 3) := by decide +kernel
theorem dJ7_copyOfRange_39247_16 : decode cJ7_copyOfRange_39247 16 = .ok (.areturn, 1) := by decide +kernel
theorem dJ7_copyOfRange_39247_17 : decode cJ7_copyOfRange_39247 17 = .ok (.aload_n 0, 1) := by decide +kernel
theorem dJ7_copyOfRange_39247_18 : decode cJ7_copyOfRange_39247 18 = .ok (.invokevirtual 310, 3) := by decide +kernel
theorem dJ7_copyOfRange_39247_21 : decode cJ7_copyOfRange_39247 21 = .ok (.checkcast 311, 3) := by decide +kernel
theorem dJ7_copyOfRange_39247_24 : decode cJ7_copyOfRange_39247 24 = .ok (.areturn, 1) := by decide +kernel
def J7_copyOfRange_39247_10  (x0 : Option Nat) (x1 : Int32) (x2 : Int32) : MM (Option Nat) :=
  mb (J7_copyOfRangeByte_39247 x0 x1 x2) fun v1 =>
  mr v1
def J7_copyOfRange_39247 (a0 : Option Nat) (a1 : Int32) (a2 : Int32) : MM (Option Nat) :=
  if a1 = 0 then (mb (aN a0) fun v1 =>
  if a2 = v1 then (mb (cln a0) fun v2 =>
  mb (aBn v2) fun _ =>
  mr v2) else ((J7_copyOfRange_39247_10 a0 a1 a2))) else ((J7_copyOfRange_39247_10 a0 a1 a2))
set_option maxRecDepth 100000 in
set_option maxHeartbeats 4000000 in
theorem s_J7_copyOfRange_39247_10 (G : GG)   (x0 : Option Nat) (x1 : Int32) (x2 : Int32) : Sn G yJ7_copyOfRange_39247 cJ7_copyOfRange_39247 3 (some (FieldType.array FieldType.byte)) 2 45 (fun v : Option Nat => some (va_rf v)) (J7_copyOfRange_39247_10  x0 x1 x2) 10 [some (va_rf x0), some (.int x1), some (.int x2)] [] := by
  unfold J7_copyOfRange_39247_10
  refine sn_aload_n (v := x0) (pc' := 11) dJ7_copyOfRange_39247_10 rfl rfl rfl ?_
  refine sn_iload_n (v := x1) (pc' := 12) dJ7_copyOfRange_39247_11 rfl rfl rfl ?_
  refine sn_iload_n (v := x2) (pc' := 13) dJ7_copyOfRange_39247_12 rfl rfl rfl ?_
  refine sn_cS (st := []) (As := [va_rf x0, .int x1, .int x2]) (st2 := (fun v => va_rf v :: [])) (pc' := 16) (c_J7_copyOfRangeByte_39247 G x0 x1 x2) cw_J7_copyOfRangeByte_39247 rfl rfl tw814 tw815 rfl rfl cat_nil rfl (fun _ => rfl) dJ7_copyOfRange_39247_13 rfl (fun v1 => ?_)
  exact sn_aret dJ7_copyOfRange_39247_16 rfl (Or.inr ⟨_, rfl⟩)
set_option maxRecDepth 100000 in
set_option maxHeartbeats 4000000 in
theorem s_J7_copyOfRange_39247 (G : GG) (a0 : Option Nat) (a1 : Int32) (a2 : Int32) : Sn G yJ7_copyOfRange_39247 cJ7_copyOfRange_39247 3 (some (FieldType.array FieldType.byte)) 2 45 (fun v : Option Nat => some (va_rf v)) (J7_copyOfRange_39247 a0 a1 a2) 0 [some (va_rf a0), some (.int a1), some (.int a2)] [] := by
  unfold J7_copyOfRange_39247
  refine sn_iload_n (v := a1) (pc' := 1) dJ7_copyOfRange_39247_0 rfl rfl rfl ?_
  refine sn_if_ne (pt := 10) (pf := 4) dJ7_copyOfRange_39247_1 rfl rfl ?_ ?_
  · refine sn_iload_n (v := a2) (pc' := 5) dJ7_copyOfRange_39247_4 rfl rfl rfl ?_
    refine sn_aload_n (v := a0) (pc' := 6) dJ7_copyOfRange_39247_5 rfl rfl rfl ?_
    refine sn_aN (pc' := 7) dJ7_copyOfRange_39247_6 rfl (fun v1 => ?_)
    refine sn_ic_eq (pt := 17) (pf := 10) dJ7_copyOfRange_39247_7 rfl rfl ?_ ?_
    · refine sn_aload_n (v := a0) (pc' := 18) dJ7_copyOfRange_39247_17 rfl rfl rfl ?_
      refine sn_cln (st := []) (pc' := 21) tw615 tw616 tw617 tw618 tw619 nw620 rfl cat_nil (by decide) dJ7_copyOfRange_39247_18 rfl (fun v2 => ?_)
      refine sn_castB (pc' := 24) tw621 dJ7_copyOfRange_39247_21 rfl (fun _ => ?_)
      exact sn_aret dJ7_copyOfRange_39247_24 rfl (Or.inr ⟨_, rfl⟩)
    · exact sn_weak (le_s (le_s (le_s le_e))) (s_J7_copyOfRange_39247_10 G a0 a1 a2)
  · exact sn_weak (le_s (le_s (le_s le_e))) (s_J7_copyOfRange_39247_10 G a0 a1 a2)
theorem c_J7_copyOfRange_39247 (G : GG) (a0 : Option Nat) (a1 : Int32) (a2 : Int32) : Cal G yJ7_copyOfRange_39247 cJ7_copyOfRange_39247 3 (some (FieldType.array FieldType.byte)) 2 45 (fun v : Option Nat => some (va_rf v)) (J7_copyOfRange_39247 a0 a1 a2) [va_rf a0, .int a1, .int a2] :=
  Cal.of (by decide) (cat_q (cat_i (cat_i cat_nil))) rfl (sn_weak (le_s (le_s (le_s le_e))) (s_J7_copyOfRange_39247 G a0 a1 a2))
theorem cw_J7_copyOfRange_39247 : CW yJ7_copyOfRange_39247 cJ7_copyOfRange_39247 3 (some (FieldType.array FieldType.byte)) 3 := ⟨tw813, tw20, by decide, by decide +kernel⟩
/-! J0_init_db425 -/
theorem dJ0_init_db425_0 : decode cJ0_init_db425 0 = .ok (.aload_n 0, 1) := by decide +kernel
theorem dJ0_init_db425_1 : decode cJ0_init_db425 1 = .ok (.invokespecial 1, 3) := by decide +kernel
theorem dJ0_init_db425_4 : decode cJ0_init_db425 4 = .ok (.aload_n 1, 1) := by decide +kernel
theorem dJ0_init_db425_5 : decode cJ0_init_db425 5 = .ok (.invokevirtual 552, 3) := by decide +kernel
theorem dJ0_init_db425_8 : decode cJ0_init_db425 8 = .ok (.astore_n 3, 1) := by decide +kernel
theorem dJ0_init_db425_9 : decode cJ0_init_db425 9 = .ok (.aload_n 1, 1) := by decide +kernel
theorem dJ0_init_db425_10 : decode cJ0_init_db425 10 = .ok (.invokevirtual 549, 3) := by decide +kernel
theorem dJ0_init_db425_13 : decode cJ0_init_db425 13 = .ok (.istore 4, 2) := by decide +kernel
theorem dJ0_init_db425_15 : decode cJ0_init_db425 15 = .ok (.aload_n 1, 1) := by decide +kernel
theorem dJ0_init_db425_16 : decode cJ0_init_db425 16 = .ok (.invokevirtual 1047, 3) := by decide +kernel
theorem dJ0_init_db425_19 : decode cJ0_init_db425 19 = .ok (.ifCond .eq 22, 3) := by decide +kernel
theorem dJ0_init_db425_22 : decode cJ0_init_db425 22 = .ok (.aload_n 0, 1) := by decide +kernel
theorem dJ0_init_db425_23 : decode cJ0_init_db425 23 = .ok (.iconst 0, 1) := by decide +kernel
theorem dJ0_init_db425_24 : decode cJ0_init_db425 24 = .ok (.putfield 15, 3) := by decide +kernel
theorem dJ0_init_db425_27 : decode cJ0_init_db425 27 = .ok (.aload_n 0, 1) := by decide +kernel
theorem dJ0_init_db425_28 : decode cJ0_init_db425 28 = .ok (.aload_n 3, 1) := by decide +kernel
theorem dJ0_init_db425_29 : decode cJ0_init_db425 29 = .ok (.iconst 0, 1) := by decide +kernel
theorem dJ0_init_db425_30 : decode cJ0_init_db425 30 = .ok (.iload 4, 2) := by decide +kernel
theorem dJ0_init_db425_32 : decode cJ0_init_db425 32 = .ok (.invokestatic 54, 3) := by decide +kernel
theorem dJ0_init_db425_35 : decode cJ0_init_db425 35 = .ok (.putfield 9, 3) := by decide +kernel
theorem dJ0_init_db425_38 : decode cJ0_init_db425 38 = .ok (.goto 59, 3) := by decide +kernel
theorem dJ0_init_db425_97 : decode cJ0_init_db425 97 = .ok (.return_, 1) := by decide +kernel
def J0_init_db425 (this : Nat) (a1 : Option Nat) (a2 : Option Nat) : MM Unit :=
  wn (some this) fun _ =>
  mb (wc 1 a1 fun t => J5_getValue_6d5f1 t ) fun v1 =>
  mb (wc 1 a1 fun t => J4_length_8abf5 t ) fun v2 =>
  mb (wc 1 a1 fun t => J5_isLatin1_aae02 t ) fun v3 =>
  if v3 = 0 then (mf) else (mb (pB 0 (some this) 1 (0 : Int32)) fun _ =>
  mb (J7_copyOfRange_39247 v1 (0 : Int32) v2) fun v4 =>
  mb (pR 0 (some this) 0 v4) fun _ =>
  mr ())
set_option maxRecDepth 100000 in
set_option maxHeartbeats 4000000 in
theorem s_J0_init_db425 (G : GG) (this : Nat) (a1 : Option Nat) (a2 : Option Nat) : Sn G yJ0_init_db425 cJ0_init_db425 5 none 3 67 (fun _ : Unit => none) (J0_init_db425 this a1 a2) 0 [some (va_rf (some this)), some (va_rf a1), some (va_rf a2), none, none] [] := by
  unfold J0_init_db425
  refine sn_aload_n (v := (some this)) (pc' := 1) dJ0_init_db425_0 rfl rfl rfl ?_
  refine sn_oI (pc' := 4) rfl tw803 tw33 tw34 cat_nil rfl dJ0_init_db425_1 rfl ?_
  refine sn_aload_n (v := a1) (pc' := 5) dJ0_init_db425_4 rfl rfl rfl ?_
  refine sn_cV (r := a1) (st := []) (As := []) (st2 := (fun v => va_rf v :: [])) (pc' := 8) ci_1 (fun t => c_J5_getValue_6d5f1 G t ) cw_J5_getValue_6d5f1 rfl rfl tw804 tw807 tw805 rfl rfl cat_nil rfl (fun _ => rfl) dJ0_init_db425_5 rfl (fun v1 => ?_)
  refine sn_astore_n (v := v1) (L' := [some (va_rf (some this)), some (va_rf a1), some (va_rf a2), some (va_rf v1), none]) (pc' := 9) dJ0_init_db425_8 rfl rfl rfl rfl ?_
  refine sn_aload_n (v := a1) (pc' := 10) dJ0_init_db425_9 rfl rfl rfl ?_
  refine sn_cO (r := a1) (st := []) (As := []) (st2 := (fun v => .int v :: [])) (pc' := 13) ci_1 (y1 := yJ5_length_8abf5) (fun t => c_J4_length_8abf5 G t ) cw_J4_length_8abf5 rfl rfl tw809 tw1775 tw1776 tw775 tw780 tw779 (by decide) (by decide +kernel) rfl rfl cat_nil rfl (fun _ => rfl) dJ0_init_db425_10 rfl (fun v2 => ?_)
  refine sn_istore (v := v2) (L' := [some (va_rf (some this)), some (va_rf a1), some (va_rf a2), some (va_rf v1), some (.int v2)]) (pc' := 15) dJ0_init_db425_13 rfl rfl rfl ?_
  refine sn_aload_n (v := a1) (pc' := 16) dJ0_init_db425_15 rfl rfl rfl ?_
  refine sn_cV (r := a1) (st := []) (As := []) (st2 := (fun v => .int v :: [])) (pc' := 19) ci_1 (fun t => c_J5_isLatin1_aae02 G t ) cw_J5_isLatin1_aae02 rfl rfl tw810 tw629 tw627 rfl rfl cat_nil rfl (fun _ => rfl) dJ0_init_db425_16 rfl (fun v3 => ?_)
  refine sn_if_eq (pt := 41) (pf := 22) dJ0_init_db425_19 rfl rfl ?_ ?_
  · exact sn_mf
  · refine sn_aload_n (v := (some this)) (pc' := 23) dJ0_init_db425_22 rfl rfl rfl ?_
    refine sn_iconst (v := (0 : Int32)) (pc' := 24) dJ0_init_db425_23 rfl (by decide) ?_
    refine sn_pB (k := 1) (pc' := 27) ci_0 rfl (Or.inl tw831) (Or.inr ⟨rfl, rfl, rfl, tw831⟩) rfl dJ0_init_db425_24 rfl (fun _ => ?_)
    refine sn_aload_n (v := (some this)) (pc' := 28) dJ0_init_db425_27 rfl rfl rfl ?_
    refine sn_aload_n (v := v1) (pc' := 29) dJ0_init_db425_28 rfl rfl rfl ?_
    refine sn_iconst (v := (0 : Int32)) (pc' := 30) dJ0_init_db425_29 rfl (by decide) ?_
    refine sn_iload (v := v2) (pc' := 32) dJ0_init_db425_30 rfl rfl ?_
    refine sn_cS (st := [va_rf (some this)]) (As := [va_rf v1, .int (0 : Int32), .int v2]) (st2 := (fun v => va_rf v :: [va_rf (some this)])) (pc' := 35) (c_J7_copyOfRange_39247 G v1 (0 : Int32) v2) cw_J7_copyOfRange_39247 rfl rfl tw811 tw812 rfl rfl (cat_q cat_nil) rfl (fun _ => rfl) dJ0_init_db425_32 rfl (fun v4 => ?_)
    refine sn_pR (k := 0) (pc' := 38) ci_0 rfl (Or.inl tw830) (Or.inr ⟨rfl, rfl, rfl, tw830⟩) (Or.inr ⟨_, rfl⟩) dJ0_init_db425_35 rfl (fun _ => ?_)
    refine sn_goto (pc' := 97) dJ0_init_db425_38 rfl ?_
    exact sn_vret dJ0_init_db425_97 rfl
theorem c_J0_init_db425 (G : GG) (this : Nat) (a1 : Option Nat) (a2 : Option Nat) : Cal G yJ0_init_db425 cJ0_init_db425 5 none 3 67 (fun _ : Unit => none) (J0_init_db425 this a1 a2) [.ref this, va_rf a1, va_rf a2] :=
  Cal.of (by decide) (cat_t (cat_q (cat_q cat_nil))) rfl (sn_weak (le_s (le_s (le_s (le_z (le_z le_e))))) (s_J0_init_db425 G this a1 a2))
theorem cw_J0_init_db425 : CW yJ0_init_db425 cJ0_init_db425 5 none 2 := ⟨tw802, tw13, by decide, by decide +kernel⟩
/-! J0_init_81219 -/
theorem dJ0_init_81219_0 : decode cJ0_init_81219 0 = .ok (.aload_n 0, 1) := by decide +kernel
theorem dJ0_init_81219_1 : decode cJ0_init_81219 1 = .ok (.aload_n 1, 1) := by decide +kernel
theorem dJ0_init_81219_2 : decode cJ0_init_81219 2 = .ok (.aconst_null, 1) := by decide +kernel
theorem dJ0_init_81219_3 : decode cJ0_init_81219 3 = .ok (.invokespecial 489, 3) := by decide +kernel
theorem dJ0_init_81219_6 : decode cJ0_init_81219 6 = .ok (.return_, 1) := by decide +kernel
def J0_init_81219 (this : Nat) (a1 : Option Nat) : MM Unit :=
  mb (wn (some this) fun t => J0_init_db425 t a1 none) fun _ =>
  mr ()
set_option maxRecDepth 100000 in
set_option maxHeartbeats 4000000 in
theorem s_J0_init_81219 (G : GG) (this : Nat) (a1 : Option Nat) : Sn G yJ0_init_81219 cJ0_init_81219 2 none 4 91 (fun _ : Unit => none) (J0_init_81219 this a1) 0 [some (va_rf (some this)), some (va_rf a1)] [] := by
  unfold J0_init_81219
  refine sn_aload_n (v := (some this)) (pc' := 1) dJ0_init_81219_0 rfl rfl rfl ?_
  refine sn_aload_n (v := a1) (pc' := 2) dJ0_init_81219_1 rfl rfl rfl ?_
  refine sn_null (pc' := 3) dJ0_init_81219_2 rfl ?_
  refine sn_cI (r := (some this)) (st := []) (As := [va_rf a1, va_rf none]) (st2 := (fun _ => [])) (pc' := 6) (fun t => c_J0_init_db425 G t a1 none) cw_J0_init_db425 rfl rfl (Or.inl tw800) tw801 rfl rfl rfl cat_nil rfl (fun _ => rfl) dJ0_init_81219_3 rfl (fun _ => ?_)
  exact sn_vret dJ0_init_81219_6 rfl
theorem c_J0_init_81219 (G : GG) (this : Nat) (a1 : Option Nat) : Cal G yJ0_init_81219 cJ0_init_81219 2 none 4 91 (fun _ : Unit => none) (J0_init_81219 this a1) [.ref this, va_rf a1] :=
  Cal.of (by decide) (cat_t (cat_q cat_nil)) rfl (sn_weak (le_s (le_s le_e)) (s_J0_init_81219 G this a1))
theorem cw_J0_init_81219 : CW yJ0_init_81219 cJ0_init_81219 2 none 1 := ⟨tw799, tw13, by decide, by decide +kernel⟩
/-! J4_toString_0e30d -/
theorem dJ4_toString_0e30d_0 : decode cJ4_toString_0e30d 0 = .ok (.new 18, 3) := by decide +kernel
theorem dJ4_toString_0e30d_3 : decode cJ4_toString_0e30d 3 = .ok (.dup, 1) := by decide +kernel
theorem dJ4_toString_0e30d_4 : decode cJ4_toString_0e30d 4 = .ok (.aload_n 0, 1) := by decide +kernel
theorem dJ4_toString_0e30d_5 : decode cJ4_toString_0e30d 5 = .ok (.invokespecial 137, 3) := by decide +kernel
theorem dJ4_toString_0e30d_8 : decode cJ4_toString_0e30d 8 = .ok (.areturn, 1) := by decide +kernel
def J4_toString_0e30d (this : Nat) : MM (Option Nat) :=
  mb (nO 0 4 [.null, .int 0, .int 0, .int 0]) fun v1 =>
  mb (wn v1 fun t => J0_init_81219 t (some this)) fun _ =>
  mr v1
set_option maxRecDepth 100000 in
set_option maxHeartbeats 4000000 in
theorem s_J4_toString_0e30d (G : GG) (this : Nat) : Sn G yJ4_toString_0e30d cJ4_toString_0e30d 1 (some (FieldType.object "java/lang/String")) 5 112 (fun v : Option Nat => some (va_rf v)) (J4_toString_0e30d this) 0 [some (va_rf (some this))] [] := by
  unfold J4_toString_0e30d
  refine sn_nO (pc' := 3) ci_0 tw795 tw796 tw13 (by decide +kernel) dJ4_toString_0e30d_0 rfl (fun v1 => ?_)
  refine sn_dup (pc' := 4) dJ4_toString_0e30d_3 rfl (cat_rf _) ?_
  refine sn_aload_n (v := (some this)) (pc' := 5) dJ4_toString_0e30d_4 rfl rfl rfl ?_
  refine sn_cI (r := v1) (st := [va_rf v1]) (As := [va_rf (some this)]) (st2 := (fun _ => [va_rf v1])) (pc' := 8) (fun t => c_J0_init_81219 G t (some this)) cw_J0_init_81219 rfl rfl (Or.inl tw797) tw798 rfl rfl rfl (cat_q cat_nil) rfl (fun _ => rfl) dJ4_toString_0e30d_5 rfl (fun _ => ?_)
  exact sn_aret dJ4_toString_0e30d_8 rfl (Or.inl ⟨_, rfl⟩)
theorem c_J4_toString_0e30d (G : GG) (this : Nat) : Cal G yJ4_toString_0e30d cJ4_toString_0e30d 1 (some (FieldType.object "java/lang/String")) 5 112 (fun v : Option Nat => some (va_rf v)) (J4_toString_0e30d this) [.ref this] :=
  Cal.of (by decide) (cat_t cat_nil) rfl (sn_weak (le_s le_e) (s_J4_toString_0e30d G this))
theorem cw_J4_toString_0e30d : CW yJ4_toString_0e30d cJ4_toString_0e30d 1 (some (FieldType.object "java/lang/String")) 0 := ⟨tw794, tw12, by decide, by decide +kernel⟩
/-! X9_formulaText -/
theorem dX9_formulaText_0 : decode cX9_formulaText 0 = .ok (.aload_n 0, 1) := by decide +kernel
theorem dX9_formulaText_1 : decode cX9_formulaText 1 = .ok (.getfield 12, 3) := by decide +kernel
theorem dX9_formulaText_4 : decode cX9_formulaText 4 = .ok (.iconst 0, 1) := by decide +kernel
theorem dX9_formulaText_5 : decode cX9_formulaText 5 = .ok (.invokevirtual 18, 3) := by decide +kernel
theorem dX9_formulaText_8 : decode cX9_formulaText 8 = .ok (.iconst 0, 1) := by decide +kernel
theorem dX9_formulaText_9 : decode cX9_formulaText 9 = .ok (.istore_n 2, 1) := by decide +kernel
theorem dX9_formulaText_10 : decode cX9_formulaText 10 = .ok (.iconst 0, 1) := by decide +kernel
theorem dX9_formulaText_11 : decode cX9_formulaText 11 = .ok (.istore_n 3, 1) := by decide +kernel
theorem dX9_formulaText_12 : decode cX9_formulaText 12 = .ok (.iload_n 3, 1) := by decide +kernel
theorem dX9_formulaText_13 : decode cX9_formulaText 13 = .ok (.aload_n 1, 1) := by decide +kernel
theorem dX9_formulaText_14 : decode cX9_formulaText 14 = .ok (.getfield 30, 3) := by decide +kernel
theorem dX9_formulaText_17 : decode cX9_formulaText 17 = .ok (.if_icmp .ge 28, 3) := by decide +kernel
theorem dX9_formulaText_20 : decode cX9_formulaText 20 = .ok (.aload_n 1, 1) := by decide +kernel
theorem dX9_formulaText_21 : decode cX9_formulaText 21 = .ok (.iload_n 3, 1) := by decide +kernel
theorem dX9_formulaText_22 : decode cX9_formulaText 22 = .ok (.invokestatic 36, 3) := by decide +kernel
theorem dX9_formulaText_25 : decode cX9_formulaText 25 = .ok (.ifCond .ne 14, 3) := by decide +kernel
theorem dX9_formulaText_28 : decode cX9_formulaText 28 = .ok (.aload_n 0, 1) := by decide +kernel
theorem dX9_formulaText_29 : decode cX9_formulaText 29 = .ok (.aload_n 1, 1) := by decide +kernel
theorem dX9_formulaText_30 : decode cX9_formulaText 30 = .ok (.iload_n 2, 1) := by decide +kernel
theorem dX9_formulaText_31 : decode cX9_formulaText 31 = .ok (.iload_n 3, 1) := by decide +kernel
theorem dX9_formulaText_32 : decode cX9_formulaText 32 = .ok (.invokevirtual 40, 3) := by decide +kernel
theorem dX9_formulaText_35 : decode cX9_formulaText 35 = .ok (.iload_n 3, 1) := by decide +kernel
theorem dX9_formulaText_36 : decode cX9_formulaText 36 = .ok (.iconst 1, 1) := by decide +kernel
theorem dX9_formulaText_37 : decode cX9_formulaText 37 = .ok (.iadd, 1) := by decide +kernel
theorem dX9_formulaText_38 : decode cX9_formulaText 38 = .ok (.istore_n 2, 1) := by decide +kernel
theorem dX9_formulaText_39 : decode cX9_formulaText 39 = .ok (.iinc 3 1, 3) := by decide +kernel
theorem dX9_formulaText_42 : decode cX9_formulaText 42 = .ok (.goto (-30), 3) := by decide +kernel
theorem dX9_formulaText_45 : decode cX9_formulaText 45 = .ok (.aload_n 0, 1) := by decide +kernel
theorem dX9_formulaText_46 : decode cX9_formulaText 46 = .ok (.getfield 12, 3) := by decide +kernel
theorem dX9_formulaText_49 : decode cX9_formulaText 49 = .ok (.invokevirtual 26, 3) := by decide +kernel
theorem dX9_formulaText_52 : decode cX9_formulaText 52 = .ok (.areturn, 1) := by decide +kernel
def X9_formulaText_39 (k12 : Nat → Option Nat → Int32 → Int32 → MM (Option Nat)) (this : Nat) (x1 : Option Nat) (x2 : Int32) (x3 : Int32) : MM (Option Nat) :=
  (k12 this x1 x2 (x3 + (1 : Int32)))
def X9_formulaText_45  (this : Nat) : MM (Option Nat) :=
  mb (gR 10 (some this) 0) fun v1 =>
  mb (wc 1 v1 fun t => J4_toString_0e30d t ) fun v2 =>
  mr v2
def X9_formulaText_12_st  (k12 : Nat → Option Nat → Int32 → Int32 → MM (Option Nat)) (this : Nat) (x1 : Option Nat) (x2 : Int32) (x3 : Int32) : MM (Option Nat) :=
  mb (gI 7 x1 4) fun v1 =>
  if v1 ≤ x3 then ((X9_formulaText_45 this)) else (mb (X9_goesOn x1 x3) fun v2 =>
  if v2 = 0 then (mb (wc 10 (some this) fun t => X9_writeGroup t x1 x2 x3) fun _ =>
  (X9_formulaText_39 k12 this x1 (x3 + (1 : Int32)) x3)) else ((X9_formulaText_39 k12 this x1 x2 x3)))
def X9_formulaText_12  : Nat → Nat → Option Nat → Int32 → Int32 → MM (Option Nat)
  | 0 => fun _ _ _ _ => mf
  | n + 1 => fun this x1 x2 x3 => X9_formulaText_12_st  (X9_formulaText_12  n) this x1 x2 x3
def X9_formulaText (this : Nat) (a1 : Option Nat) : MM (Option Nat) :=
  mb (gR 10 (some this) 0) fun v1 =>
  mb (wc 1 v1 fun t => J4_setLength_d00df t (0 : Int32)) fun _ =>
  (X9_formulaText_12 LFU this a1 (0 : Int32) (0 : Int32))
set_option maxRecDepth 100000 in
set_option maxHeartbeats 4000000 in
theorem s_X9_formulaText_39 (G : GG) (k12 : Nat → Option Nat → Int32 → Int32 → MM (Option Nat)) (hk12 : ∀ (this : Nat) (x1 : Option Nat) (x2 : Int32) (x3 : Int32), Sn G yX9_formulaText cX9_formulaText 4 (some (FieldType.object "java/lang/String")) 9 203 (fun v : Option Nat => some (va_rf v)) (k12 this x1 x2 x3) 12 [some (va_rf (some this)), some (va_rf x1), some (.int x2), some (.int x3)] []) (this : Nat) (x1 : Option Nat) (x2 : Int32) (x3 : Int32) : Sn G yX9_formulaText cX9_formulaText 4 (some (FieldType.object "java/lang/String")) 9 203 (fun v : Option Nat => some (va_rf v)) (X9_formulaText_39 k12 this x1 x2 x3) 39 [some (va_rf (some this)), some (va_rf x1), some (.int x2), some (.int x3)] [] := by
  unfold X9_formulaText_39
  refine sn_iinc (v := x3) (w := 1) (L' := [some (va_rf (some this)), some (va_rf x1), some (.int x2), some (.int (x3 + (1 : Int32)))]) (pc' := 42) dX9_formulaText_39 rfl rfl rfl (by decide) rfl ?_
  refine sn_goto (pc' := 12) dX9_formulaText_42 rfl ?_
  exact sn_weak (le_s (le_s (le_s (le_s le_e)))) (hk12 this x1 x2 (x3 + (1 : Int32)))
set_option maxRecDepth 100000 in
set_option maxHeartbeats 4000000 in
theorem s_X9_formulaText_45 (G : GG)   (this : Nat) : Sn G yX9_formulaText cX9_formulaText 4 (some (FieldType.object "java/lang/String")) 9 203 (fun v : Option Nat => some (va_rf v)) (X9_formulaText_45  this) 45 [some (va_rf (some this)), none, none, none] [] := by
  unfold X9_formulaText_45
  refine sn_aload_n (v := (some this)) (pc' := 46) dX9_formulaText_45 rfl rfl rfl ?_
  refine sn_gR (k := 0) (pc' := 49) ci_10 rfl (Or.inl tw265) dX9_formulaText_46 rfl (fun v1 => ?_)
  refine sn_cV (r := v1) (st := []) (As := []) (st2 := (fun v => va_rf v :: [])) (pc' := 52) ci_1 (fun t => c_J4_toString_0e30d G t ) cw_J4_toString_0e30d rfl rfl tw791 tw793 tw792 rfl rfl cat_nil rfl (fun _ => rfl) dX9_formulaText_49 rfl (fun v2 => ?_)
  exact sn_aret dX9_formulaText_52 rfl (Or.inl ⟨_, rfl⟩)
set_option maxRecDepth 100000 in
set_option maxHeartbeats 4000000 in
theorem s_X9_formulaText_12_st (G : GG)   (k12 : Nat → Option Nat → Int32 → Int32 → MM (Option Nat)) (hk12 : ∀ (this : Nat) (x1 : Option Nat) (x2 : Int32) (x3 : Int32), Sn G yX9_formulaText cX9_formulaText 4 (some (FieldType.object "java/lang/String")) 9 203 (fun v : Option Nat => some (va_rf v)) (k12 this x1 x2 x3) 12 [some (va_rf (some this)), some (va_rf x1), some (.int x2), some (.int x3)] []) (this : Nat) (x1 : Option Nat) (x2 : Int32) (x3 : Int32) : Sn G yX9_formulaText cX9_formulaText 4 (some (FieldType.object "java/lang/String")) 9 203 (fun v : Option Nat => some (va_rf v)) (X9_formulaText_12_st  k12 this x1 x2 x3) 12 [some (va_rf (some this)), some (va_rf x1), some (.int x2), some (.int x3)] [] := by
  unfold X9_formulaText_12_st
  refine sn_iload_n (v := x3) (pc' := 13) dX9_formulaText_12 rfl rfl rfl ?_
  refine sn_aload_n (v := x1) (pc' := 14) dX9_formulaText_13 rfl rfl rfl ?_
  refine sn_gI (k := 4) (pc' := 17) ci_7 rfl (Or.inr ⟨_, nw192⟩) dX9_formulaText_14 rfl (fun v1 => ?_)
  refine sn_ic_ge (pt := 45) (pf := 20) dX9_formulaText_17 rfl rfl ?_ ?_
  · exact sn_weak (le_s (le_n (le_n (le_n le_e)))) (s_X9_formulaText_45 G this)
  · refine sn_aload_n (v := x1) (pc' := 21) dX9_formulaText_20 rfl rfl rfl ?_
    refine sn_iload_n (v := x3) (pc' := 22) dX9_formulaText_21 rfl rfl rfl ?_
    refine sn_cS (st := []) (As := [va_rf x1, .int x3]) (st2 := (fun v => .int v :: [])) (pc' := 25) (c_X9_goesOn G x1 x3) cw_X9_goesOn rfl rfl tw644 tw645 rfl rfl cat_nil rfl (fun _ => rfl) dX9_formulaText_22 rfl (fun v2 => ?_)
    refine sn_if_ne (pt := 39) (pf := 28) dX9_formulaText_25 rfl rfl ?_ ?_
    · refine sn_aload_n (v := (some this)) (pc' := 29) dX9_formulaText_28 rfl rfl rfl ?_
      refine sn_aload_n (v := x1) (pc' := 30) dX9_formulaText_29 rfl rfl rfl ?_
      refine sn_iload_n (v := x2) (pc' := 31) dX9_formulaText_30 rfl rfl rfl ?_
      refine sn_iload_n (v := x3) (pc' := 32) dX9_formulaText_31 rfl rfl rfl ?_
      refine sn_cV (r := (some this)) (st := []) (As := [va_rf x1, .int x2, .int x3]) (st2 := (fun _ => [])) (pc' := 35) ci_10 (fun t => c_X9_writeGroup G t x1 x2 x3) cw_X9_writeGroup rfl rfl tw652 pw17 tw654 rfl rfl cat_nil rfl (fun _ => rfl) dX9_formulaText_32 rfl (fun _ => ?_)
      refine sn_iload_n (v := x3) (pc' := 36) dX9_formulaText_35 rfl rfl rfl ?_
      refine sn_iconst (v := (1 : Int32)) (pc' := 37) dX9_formulaText_36 rfl (by decide) ?_
      refine sn_iadd (pc' := 38) dX9_formulaText_37 rfl ?_
      refine sn_istore_n (v := (x3 + (1 : Int32))) (L' := [some (va_rf (some this)), some (va_rf x1), some (.int (x3 + (1 : Int32))), some (.int x3)]) (pc' := 39) dX9_formulaText_38 rfl rfl rfl rfl ?_
      exact sn_weak (le_s (le_s (le_s (le_s le_e)))) (s_X9_formulaText_39 G k12 hk12 this x1 (x3 + (1 : Int32)) x3)
    · exact sn_weak (le_s (le_s (le_s (le_s le_e)))) (s_X9_formulaText_39 G k12 hk12 this x1 x2 x3)
set_option maxRecDepth 100000 in
set_option maxHeartbeats 4000000 in
theorem s_X9_formulaText_12 (G : GG)   : ∀ (n : Nat) (this : Nat) (x1 : Option Nat) (x2 : Int32) (x3 : Int32), Sn G yX9_formulaText cX9_formulaText 4 (some (FieldType.object "java/lang/String")) 9 203 (fun v : Option Nat => some (va_rf v)) (X9_formulaText_12  n this x1 x2 x3) 12 [some (va_rf (some this)), some (va_rf x1), some (.int x2), some (.int x3)] [] := by
  intro n
  induction n with
  | zero => intro this x1 x2 x3; exact sn_mf
  | succ n ih => intro this x1 x2 x3; exact s_X9_formulaText_12_st G   (X9_formulaText_12  n) ih this x1 x2 x3
set_option maxRecDepth 100000 in
set_option maxHeartbeats 4000000 in
theorem s_X9_formulaText (G : GG) (this : Nat) (a1 : Option Nat) : Sn G yX9_formulaText cX9_formulaText 4 (some (FieldType.object "java/lang/String")) 9 203 (fun v : Option Nat => some (va_rf v)) (X9_formulaText this a1) 0 [some (va_rf (some this)), some (va_rf a1), none, none] [] := by
  unfold X9_formulaText
  refine sn_aload_n (v := (some this)) (pc' := 1) dX9_formulaText_0 rfl rfl rfl ?_
  refine sn_gR (k := 0) (pc' := 4) ci_10 rfl (Or.inl tw265) dX9_formulaText_1 rfl (fun v1 => ?_)
  refine sn_iconst (v := (0 : Int32)) (pc' := 5) dX9_formulaText_4 rfl (by decide) ?_
  refine sn_cV (r := v1) (st := []) (As := [.int (0 : Int32)]) (st2 := (fun _ => [])) (pc' := 8) ci_1 (fun t => c_J4_setLength_d00df G t (0 : Int32)) cw_J4_setLength_d00df rfl rfl tw588 tw590 tw589 rfl rfl cat_nil rfl (fun _ => rfl) dX9_formulaText_5 rfl (fun _ => ?_)
  refine sn_iconst (v := (0 : Int32)) (pc' := 9) dX9_formulaText_8 rfl (by decide) ?_
  refine sn_istore_n (v := (0 : Int32)) (L' := [some (va_rf (some this)), some (va_rf a1), some (.int (0 : Int32)), none]) (pc' := 10) dX9_formulaText_9 rfl rfl rfl rfl ?_
  refine sn_iconst (v := (0 : Int32)) (pc' := 11) dX9_formulaText_10 rfl (by decide) ?_
  refine sn_istore_n (v := (0 : Int32)) (L' := [some (va_rf (some this)), some (va_rf a1), some (.int (0 : Int32)), some (.int (0 : Int32))]) (pc' := 12) dX9_formulaText_11 rfl rfl rfl rfl ?_
  exact sn_weak (le_s (le_s (le_s (le_s le_e)))) (s_X9_formulaText_12 G LFU this a1 (0 : Int32) (0 : Int32))
theorem c_X9_formulaText (G : GG) (this : Nat) (a1 : Option Nat) : Cal G yX9_formulaText cX9_formulaText 4 (some (FieldType.object "java/lang/String")) 9 203 (fun v : Option Nat => some (va_rf v)) (X9_formulaText this a1) [.ref this, va_rf a1] :=
  Cal.of (by decide) (cat_t (cat_q cat_nil)) rfl (sn_weak (le_s (le_s (le_z (le_z le_e)))) (s_X9_formulaText G this a1))
theorem cw_X9_formulaText : CW yX9_formulaText cX9_formulaText 4 (some (FieldType.object "java/lang/String")) 1 := ⟨tw587, tw10, by decide, by decide +kernel⟩
/-! X6_copyFrom -/
theorem dX6_copyFrom_0 : decode cX6_copyFrom 0 = .ok (.aload_n 1, 1) := by decide +kernel
theorem dX6_copyFrom_1 : decode cX6_copyFrom 1 = .ok (.getfield 9, 3) := by decide +kernel
theorem dX6_copyFrom_4 : decode cX6_copyFrom 4 = .ok (.iconst 0, 1) := by decide +kernel
theorem dX6_copyFrom_5 : decode cX6_copyFrom 5 = .ok (.aload_n 0, 1) := by decide +kernel
theorem dX6_copyFrom_6 : decode cX6_copyFrom 6 = .ok (.getfield 9, 3) := by decide +kernel
theorem dX6_copyFrom_9 : decode cX6_copyFrom 9 = .ok (.iconst 0, 1) := by decide +kernel
theorem dX6_copyFrom_10 : decode cX6_copyFrom 10 = .ok (.bipush 71, 2) := by decide +kernel
theorem dX6_copyFrom_12 : decode cX6_copyFrom 12 = .ok (.invokestatic 41, 3) := by decide +kernel
theorem dX6_copyFrom_15 : decode cX6_copyFrom 15 = .ok (.aload_n 1, 1) := by decide +kernel
theorem dX6_copyFrom_16 : decode cX6_copyFrom 16 = .ok (.getfield 15, 3) := by decide +kernel
theorem dX6_copyFrom_19 : decode cX6_copyFrom 19 = .ok (.iconst 0, 1) := by decide +kernel
theorem dX6_copyFrom_20 : decode cX6_copyFrom 20 = .ok (.aload_n 0, 1) := by decide +kernel
theorem dX6_copyFrom_21 : decode cX6_copyFrom 21 = .ok (.getfield 15, 3) := by decide +kernel
theorem dX6_copyFrom_24 : decode cX6_copyFrom 24 = .ok (.iconst 0, 1) := by decide +kernel
theorem dX6_copyFrom_25 : decode cX6_copyFrom 25 = .ok (.bipush 71, 2) := by decide +kernel
theorem dX6_copyFrom_27 : decode cX6_copyFrom 27 = .ok (.invokestatic 41, 3) := by decide +kernel
theorem dX6_copyFrom_30 : decode cX6_copyFrom 30 = .ok (.aload_n 1, 1) := by decide +kernel
theorem dX6_copyFrom_31 : decode cX6_copyFrom 31 = .ok (.getfield 18, 3) := by decide +kernel
theorem dX6_copyFrom_34 : decode cX6_copyFrom 34 = .ok (.iconst 0, 1) := by decide +kernel
theorem dX6_copyFrom_35 : decode cX6_copyFrom 35 = .ok (.aload_n 0, 1) := by decide +kernel
theorem dX6_copyFrom_36 : decode cX6_copyFrom 36 = .ok (.getfield 18, 3) := by decide +kernel
theorem dX6_copyFrom_39 : decode cX6_copyFrom 39 = .ok (.iconst 0, 1) := by decide +kernel
theorem dX6_copyFrom_40 : decode cX6_copyFrom 40 = .ok (.sipush 852, 3) := by decide +kernel
theorem dX6_copyFrom_43 : decode cX6_copyFrom 43 = .ok (.invokestatic 41, 3) := by decide +kernel
theorem dX6_copyFrom_46 : decode cX6_copyFrom 46 = .ok (.aload_n 1, 1) := by decide +kernel
theorem dX6_copyFrom_47 : decode cX6_copyFrom 47 = .ok (.getfield 22, 3) := by decide +kernel
theorem dX6_copyFrom_50 : decode cX6_copyFrom 50 = .ok (.iconst 0, 1) := by decide +kernel
theorem dX6_copyFrom_51 : decode cX6_copyFrom 51 = .ok (.aload_n 0, 1) := by decide +kernel
theorem dX6_copyFrom_52 : decode cX6_copyFrom 52 = .ok (.getfield 22, 3) := by decide +kernel
theorem dX6_copyFrom_55 : decode cX6_copyFrom 55 = .ok (.iconst 0, 1) := by decide +kernel
theorem dX6_copyFrom_56 : decode cX6_copyFrom 56 = .ok (.sipush 852, 3) := by decide +kernel
theorem dX6_copyFrom_59 : decode cX6_copyFrom 59 = .ok (.invokestatic 41, 3) := by decide +kernel
theorem dX6_copyFrom_62 : decode cX6_copyFrom 62 = .ok (.aload_n 0, 1) := by decide +kernel
theorem dX6_copyFrom_63 : decode cX6_copyFrom 63 = .ok (.aload_n 1, 1) := by decide +kernel
theorem dX6_copyFrom_64 : decode cX6_copyFrom 64 = .ok (.getfield 38, 3) := by decide +kernel
theorem dX6_copyFrom_67 : decode cX6_copyFrom 67 = .ok (.putfield 38, 3) := by decide +kernel
theorem dX6_copyFrom_70 : decode cX6_copyFrom 70 = .ok (.aload_n 0, 1) := by decide +kernel
theorem dX6_copyFrom_71 : decode cX6_copyFrom 71 = .ok (.aload_n 1, 1) := by decide +kernel
theorem dX6_copyFrom_72 : decode cX6_copyFrom 72 = .ok (.getfield 25, 3) := by decide +kernel
theorem dX6_copyFrom_75 : decode cX6_copyFrom 75 = .ok (.putfield 25, 3) := by decide +kernel
theorem dX6_copyFrom_78 : decode cX6_copyFrom 78 = .ok (.return_, 1) := by decide +kernel
def X6_copyFrom (this : Nat) (a1 : Option Nat) : MM Unit :=
  mb (gR 7 a1 0) fun v1 =>
  mb (gR 7 (some this) 0) fun v2 =>
  mb (cpy v1 (0 : Int32) v2 (0 : Int32) (71 : Int32)) fun _ =>
  mb (gR 7 a1 1) fun v3 =>
  mb (gR 7 (some this) 1) fun v4 =>
  mb (cpy v3 (0 : Int32) v4 (0 : Int32) (71 : Int32)) fun _ =>
  mb (gR 7 a1 2) fun v5 =>
  mb (gR 7 (some this) 2) fun v6 =>
  mb (cpy v5 (0 : Int32) v6 (0 : Int32) (852 : Int32)) fun _ =>
  mb (gR 7 a1 3) fun v7 =>
  mb (gR 7 (some this) 3) fun v8 =>
  mb (cpy v7 (0 : Int32) v8 (0 : Int32) (852 : Int32)) fun _ =>
  mb (gI 7 a1 4) fun v9 =>
  mb (pI 7 (some this) 4 v9) fun _ =>
  mb (gI 7 a1 5) fun v10 =>
  mb (pI 7 (some this) 5 v10) fun _ =>
  mr ()
set_option maxRecDepth 100000 in
set_option maxHeartbeats 4000000 in
theorem s_X6_copyFrom (G : GG) (this : Nat) (a1 : Option Nat) : Sn G yX6_copyFrom cX6_copyFrom 2 none 1 18 (fun _ : Unit => none) (X6_copyFrom this a1) 0 [some (va_rf (some this)), some (va_rf a1)] [] := by
  unfold X6_copyFrom
  refine sn_aload_n (v := a1) (pc' := 1) dX6_copyFrom_0 rfl rfl rfl ?_
  refine sn_gR (k := 0) (pc' := 4) ci_7 rfl (Or.inl tw186) dX6_copyFrom_1 rfl (fun v1 => ?_)
  refine sn_iconst (v := (0 : Int32)) (pc' := 5) dX6_copyFrom_4 rfl (by decide) ?_
  refine sn_aload_n (v := (some this)) (pc' := 6) dX6_copyFrom_5 rfl rfl rfl ?_
  refine sn_gR (k := 0) (pc' := 9) ci_7 rfl (Or.inl tw186) dX6_copyFrom_6 rfl (fun v2 => ?_)
  refine sn_iconst (v := (0 : Int32)) (pc' := 10) dX6_copyFrom_9 rfl (by decide) ?_
  refine sn_bipush (v := (71 : Int32)) (pc' := 12) dX6_copyFrom_10 rfl (by decide) ?_
  refine sn_cpy (st := []) (pc' := 15) tw853 tw625 tw624 tw23 rfl cat_nil (by decide) dX6_copyFrom_12 rfl (fun _ => ?_)
  refine sn_aload_n (v := a1) (pc' := 16) dX6_copyFrom_15 rfl rfl rfl ?_
  refine sn_gR (k := 1) (pc' := 19) ci_7 rfl (Or.inl tw187) dX6_copyFrom_16 rfl (fun v3 => ?_)
  refine sn_iconst (v := (0 : Int32)) (pc' := 20) dX6_copyFrom_19 rfl (by decide) ?_
  refine sn_aload_n (v := (some this)) (pc' := 21) dX6_copyFrom_20 rfl rfl rfl ?_
  refine sn_gR (k := 1) (pc' := 24) ci_7 rfl (Or.inl tw187) dX6_copyFrom_21 rfl (fun v4 => ?_)
  refine sn_iconst (v := (0 : Int32)) (pc' := 25) dX6_copyFrom_24 rfl (by decide) ?_
  refine sn_bipush (v := (71 : Int32)) (pc' := 27) dX6_copyFrom_25 rfl (by decide) ?_
  refine sn_cpy (st := []) (pc' := 30) tw853 tw625 tw624 tw23 rfl cat_nil (by decide) dX6_copyFrom_27 rfl (fun _ => ?_)
  refine sn_aload_n (v := a1) (pc' := 31) dX6_copyFrom_30 rfl rfl rfl ?_
  refine sn_gR (k := 2) (pc' := 34) ci_7 rfl (Or.inl tw188) dX6_copyFrom_31 rfl (fun v5 => ?_)
  refine sn_iconst (v := (0 : Int32)) (pc' := 35) dX6_copyFrom_34 rfl (by decide) ?_
  refine sn_aload_n (v := (some this)) (pc' := 36) dX6_copyFrom_35 rfl rfl rfl ?_
  refine sn_gR (k := 2) (pc' := 39) ci_7 rfl (Or.inl tw188) dX6_copyFrom_36 rfl (fun v6 => ?_)
  refine sn_iconst (v := (0 : Int32)) (pc' := 40) dX6_copyFrom_39 rfl (by decide) ?_
  refine sn_sipush (v := (852 : Int32)) (pc' := 43) dX6_copyFrom_40 rfl (by decide) ?_
  refine sn_cpy (st := []) (pc' := 46) tw853 tw625 tw624 tw23 rfl cat_nil (by decide) dX6_copyFrom_43 rfl (fun _ => ?_)
  refine sn_aload_n (v := a1) (pc' := 47) dX6_copyFrom_46 rfl rfl rfl ?_
  refine sn_gR (k := 3) (pc' := 50) ci_7 rfl (Or.inl tw189) dX6_copyFrom_47 rfl (fun v7 => ?_)
  refine sn_iconst (v := (0 : Int32)) (pc' := 51) dX6_copyFrom_50 rfl (by decide) ?_
  refine sn_aload_n (v := (some this)) (pc' := 52) dX6_copyFrom_51 rfl rfl rfl ?_
  refine sn_gR (k := 3) (pc' := 55) ci_7 rfl (Or.inl tw189) dX6_copyFrom_52 rfl (fun v8 => ?_)
  refine sn_iconst (v := (0 : Int32)) (pc' := 56) dX6_copyFrom_55 rfl (by decide) ?_
  refine sn_sipush (v := (852 : Int32)) (pc' := 59) dX6_copyFrom_56 rfl (by decide) ?_
  refine sn_cpy (st := []) (pc' := 62) tw853 tw625 tw624 tw23 rfl cat_nil (by decide) dX6_copyFrom_59 rfl (fun _ => ?_)
  refine sn_aload_n (v := (some this)) (pc' := 63) dX6_copyFrom_62 rfl rfl rfl ?_
  refine sn_aload_n (v := a1) (pc' := 64) dX6_copyFrom_63 rfl rfl rfl ?_
  refine sn_gI (k := 4) (pc' := 67) ci_7 rfl (Or.inl tw191) dX6_copyFrom_64 rfl (fun v9 => ?_)
  refine sn_pI (k := 4) (pc' := 70) ci_7 rfl (Or.inl tw191) (Or.inl rfl) rfl dX6_copyFrom_67 rfl (fun _ => ?_)
  refine sn_aload_n (v := (some this)) (pc' := 71) dX6_copyFrom_70 rfl rfl rfl ?_
  refine sn_aload_n (v := a1) (pc' := 72) dX6_copyFrom_71 rfl rfl rfl ?_
  refine sn_gI (k := 5) (pc' := 75) ci_7 rfl (Or.inl tw194) dX6_copyFrom_72 rfl (fun v10 => ?_)
  refine sn_pI (k := 5) (pc' := 78) ci_7 rfl (Or.inl tw194) (Or.inl rfl) rfl dX6_copyFrom_75 rfl (fun _ => ?_)
  exact sn_vret dX6_copyFrom_78 rfl
theorem c_X6_copyFrom (G : GG) (this : Nat) (a1 : Option Nat) : Cal G yX6_copyFrom cX6_copyFrom 2 none 1 18 (fun _ : Unit => none) (X6_copyFrom this a1) [.ref this, va_rf a1] :=
  Cal.of (by decide) (cat_t (cat_q cat_nil)) rfl (sn_weak (le_s (le_s le_e)) (s_X6_copyFrom G this a1))
theorem cw_X6_copyFrom : CW yX6_copyFrom cX6_copyFrom 2 none 1 := ⟨tw852, tw8, by decide, by decide +kernel⟩
/-! X0_leafCount -/
theorem dX0_leafCount_0 : decode cX0_leafCount 0 = .ok (.aload_n 0, 1) := by decide +kernel
theorem dX0_leafCount_1 : decode cX0_leafCount 1 = .ok (.getfield 27, 3) := by decide +kernel
theorem dX0_leafCount_4 : decode cX0_leafCount 4 = .ok (.getfield 87, 3) := by decide +kernel
theorem dX0_leafCount_7 : decode cX0_leafCount 7 = .ok (.ireturn, 1) := by decide +kernel
def X0_leafCount (this : Nat) : MM Int32 :=
  mb (gR 2 (some this) 2) fun v1 =>
  mb (gI 9 v1 1) fun v2 =>
  mr v2
set_option maxRecDepth 100000 in
set_option maxHeartbeats 4000000 in
theorem s_X0_leafCount (G : GG) (this : Nat) : Sn G yX0_leafCount cX0_leafCount 1 (some FieldType.int) 0 0 (fun v : Int32 => some (.int v)) (X0_leafCount this) 0 [some (va_rf (some this))] [] := by
  unfold X0_leafCount
  refine sn_aload_n (v := (some this)) (pc' := 1) dX0_leafCount_0 rfl rfl rfl ?_
  refine sn_gR (k := 2) (pc' := 4) ci_2 rfl (Or.inl tw883) dX0_leafCount_1 rfl (fun v1 => ?_)
  refine sn_gI (k := 1) (pc' := 7) ci_9 rfl (Or.inr ⟨_, nw54⟩) dX0_leafCount_4 rfl (fun v2 => ?_)
  exact sn_iret dX0_leafCount_7 rfl rfl
theorem c_X0_leafCount (G : GG) (this : Nat) : Cal G yX0_leafCount cX0_leafCount 1 (some FieldType.int) 0 0 (fun v : Int32 => some (.int v)) (X0_leafCount this) [.ref this] :=
  Cal.of (by decide) (cat_t cat_nil) rfl (sn_weak (le_s le_e) (s_X0_leafCount G this))
theorem cw_X0_leafCount : CW yX0_leafCount cX0_leafCount 1 (some FieldType.int) 0 := ⟨tw864, tw21, by decide, by decide +kernel⟩
/-! X6_isCut -/
theorem dX6_isCut_0 : decode cX6_isCut 0 = .ok (.aload_n 0, 1) := by decide +kernel
theorem dX6_isCut_1 : decode cX6_isCut 1 = .ok (.iload_n 1, 1) := by decide +kernel
theorem dX6_isCut_2 : decode cX6_isCut 2 = .ok (.invokevirtual 55, 3) := by decide +kernel
theorem dX6_isCut_5 : decode cX6_isCut 5 = .ok (.bipush 45, 2) := by decide +kernel
theorem dX6_isCut_7 : decode cX6_isCut 7 = .ok (.if_icmp .ne 7, 3) := by decide +kernel
theorem dX6_isCut_10 : decode cX6_isCut 10 = .ok (.iconst 1, 1) := by decide +kernel
theorem dX6_isCut_11 : decode cX6_isCut 11 = .ok (.goto 4, 3) := by decide +kernel
theorem dX6_isCut_14 : decode cX6_isCut 14 = .ok (.iconst 0, 1) := by decide +kernel
theorem dX6_isCut_15 : decode cX6_isCut 15 = .ok (.ireturn, 1) := by decide +kernel
def X6_isCut (this : Nat) (a1 : Int32) : MM Int32 :=
  mb (wc 7 (some this) fun t => X6_fateOf t a1) fun v1 =>
  if v1 = (45 : Int32) then (mr (1 : Int32)) else (mr (0 : Int32))
set_option maxRecDepth 100000 in
set_option maxHeartbeats 4000000 in
theorem s_X6_isCut (G : GG) (this : Nat) (a1 : Int32) : Sn G yX6_isCut cX6_isCut 2 (some FieldType.boolean) 1 21 (fun v : Int32 => some (.int v)) (X6_isCut this a1) 0 [some (va_rf (some this)), some (.int a1)] [] := by
  unfold X6_isCut
  refine sn_aload_n (v := (some this)) (pc' := 1) dX6_isCut_0 rfl rfl rfl ?_
  refine sn_iload_n (v := a1) (pc' := 2) dX6_isCut_1 rfl rfl rfl ?_
  refine sn_cV (r := (some this)) (st := []) (As := [.int a1]) (st2 := (fun v => .int v :: [])) (pc' := 5) ci_7 (fun t => c_X6_fateOf G t a1) cw_X6_fateOf rfl rfl tw869 tw788 tw787 rfl rfl cat_nil rfl (fun _ => rfl) dX6_isCut_2 rfl (fun v1 => ?_)
  refine sn_bipush (v := (45 : Int32)) (pc' := 7) dX6_isCut_5 rfl (by decide) ?_
  refine sn_ic_ne (pt := 14) (pf := 10) dX6_isCut_7 rfl rfl ?_ ?_
  · refine sn_iconst (v := (1 : Int32)) (pc' := 11) dX6_isCut_10 rfl (by decide) ?_
    refine sn_goto (pc' := 15) dX6_isCut_11 rfl ?_
    exact sn_iret dX6_isCut_15 rfl (by decide)
  · refine sn_iconst (v := (0 : Int32)) (pc' := 15) dX6_isCut_14 rfl (by decide) ?_
    exact sn_iret dX6_isCut_15 rfl (by decide)
theorem c_X6_isCut (G : GG) (this : Nat) (a1 : Int32) : Cal G yX6_isCut cX6_isCut 2 (some FieldType.boolean) 1 21 (fun v : Int32 => some (.int v)) (X6_isCut this a1) [.ref this, .int a1] :=
  Cal.of (by decide) (cat_t (cat_i cat_nil)) rfl (sn_weak (le_s (le_s le_e)) (s_X6_isCut G this a1))
theorem cw_X6_isCut : CW yX6_isCut cX6_isCut 2 (some FieldType.boolean) 1 := ⟨tw868, tw8, by decide, by decide +kernel⟩
/-! X6_isReplaced -/
theorem dX6_isReplaced_0 : decode cX6_isReplaced 0 = .ok (.aload_n 0, 1) := by decide +kernel
theorem dX6_isReplaced_1 : decode cX6_isReplaced 1 = .ok (.iload_n 1, 1) := by decide +kernel
theorem dX6_isReplaced_2 : decode cX6_isReplaced 2 = .ok (.invokevirtual 55, 3) := by decide +kernel
theorem dX6_isReplaced_5 : decode cX6_isReplaced 5 = .ok (.bipush 61, 2) := by decide +kernel
theorem dX6_isReplaced_7 : decode cX6_isReplaced 7 = .ok (.if_icmp .ne 7, 3) := by decide +kernel
theorem dX6_isReplaced_10 : decode cX6_isReplaced 10 = .ok (.iconst 1, 1) := by decide +kernel
theorem dX6_isReplaced_11 : decode cX6_isReplaced 11 = .ok (.goto 4, 3) := by decide +kernel
theorem dX6_isReplaced_14 : decode cX6_isReplaced 14 = .ok (.iconst 0, 1) := by decide +kernel
theorem dX6_isReplaced_15 : decode cX6_isReplaced 15 = .ok (.ireturn, 1) := by decide +kernel
def X6_isReplaced (this : Nat) (a1 : Int32) : MM Int32 :=
  mb (wc 7 (some this) fun t => X6_fateOf t a1) fun v1 =>
  if v1 = (61 : Int32) then (mr (1 : Int32)) else (mr (0 : Int32))
set_option maxRecDepth 100000 in
set_option maxHeartbeats 4000000 in
theorem s_X6_isReplaced (G : GG) (this : Nat) (a1 : Int32) : Sn G yX6_isReplaced cX6_isReplaced 2 (some FieldType.boolean) 1 21 (fun v : Int32 => some (.int v)) (X6_isReplaced this a1) 0 [some (va_rf (some this)), some (.int a1)] [] := by
  unfold X6_isReplaced
  refine sn_aload_n (v := (some this)) (pc' := 1) dX6_isReplaced_0 rfl rfl rfl ?_
  refine sn_iload_n (v := a1) (pc' := 2) dX6_isReplaced_1 rfl rfl rfl ?_
  refine sn_cV (r := (some this)) (st := []) (As := [.int a1]) (st2 := (fun v => .int v :: [])) (pc' := 5) ci_7 (fun t => c_X6_fateOf G t a1) cw_X6_fateOf rfl rfl tw869 tw788 tw787 rfl rfl cat_nil rfl (fun _ => rfl) dX6_isReplaced_2 rfl (fun v1 => ?_)
  refine sn_bipush (v := (61 : Int32)) (pc' := 7) dX6_isReplaced_5 rfl (by decide) ?_
  refine sn_ic_ne (pt := 14) (pf := 10) dX6_isReplaced_7 rfl rfl ?_ ?_
  · refine sn_iconst (v := (1 : Int32)) (pc' := 11) dX6_isReplaced_10 rfl (by decide) ?_
    refine sn_goto (pc' := 15) dX6_isReplaced_11 rfl ?_
    exact sn_iret dX6_isReplaced_15 rfl (by decide)
  · refine sn_iconst (v := (0 : Int32)) (pc' := 15) dX6_isReplaced_14 rfl (by decide) ?_
    exact sn_iret dX6_isReplaced_15 rfl (by decide)
theorem c_X6_isReplaced (G : GG) (this : Nat) (a1 : Int32) : Cal G yX6_isReplaced cX6_isReplaced 2 (some FieldType.boolean) 1 21 (fun v : Int32 => some (.int v)) (X6_isReplaced this a1) [.ref this, .int a1] :=
  Cal.of (by decide) (cat_t (cat_i cat_nil)) rfl (sn_weak (le_s (le_s le_e)) (s_X6_isReplaced G this a1))
theorem cw_X6_isReplaced : CW yX6_isReplaced cX6_isReplaced 2 (some FieldType.boolean) 1 := ⟨tw873, tw8, by decide, by decide +kernel⟩
/-! X0_addLeaf -/
theorem dX0_addLeaf_0 : decode cX0_addLeaf 0 = .ok (.aload_n 0, 1) := by decide +kernel
theorem dX0_addLeaf_1 : decode cX0_addLeaf 1 = .ok (.getfield 27, 3) := by decide +kernel
theorem dX0_addLeaf_4 : decode cX0_addLeaf 4 = .ok (.iload_n 1, 1) := by decide +kernel
theorem dX0_addLeaf_5 : decode cX0_addLeaf 5 = .ok (.invokevirtual 84, 3) := by decide +kernel
theorem dX0_addLeaf_8 : decode cX0_addLeaf 8 = .ok (.pop, 1) := by decide +kernel
theorem dX0_addLeaf_9 : decode cX0_addLeaf 9 = .ok (.aload_n 0, 1) := by decide +kernel
theorem dX0_addLeaf_10 : decode cX0_addLeaf 10 = .ok (.getfield 31, 3) := by decide +kernel
theorem dX0_addLeaf_13 : decode cX0_addLeaf 13 = .ok (.iload_n 2, 1) := by decide +kernel
theorem dX0_addLeaf_14 : decode cX0_addLeaf 14 = .ok (.invokevirtual 84, 3) := by decide +kernel
theorem dX0_addLeaf_17 : decode cX0_addLeaf 17 = .ok (.pop, 1) := by decide +kernel
theorem dX0_addLeaf_18 : decode cX0_addLeaf 18 = .ok (.aload_n 0, 1) := by decide +kernel
theorem dX0_addLeaf_19 : decode cX0_addLeaf 19 = .ok (.getfield 34, 3) := by decide +kernel
theorem dX0_addLeaf_22 : decode cX0_addLeaf 22 = .ok (.iload_n 3, 1) := by decide +kernel
theorem dX0_addLeaf_23 : decode cX0_addLeaf 23 = .ok (.invokevirtual 84, 3) := by decide +kernel
theorem dX0_addLeaf_26 : decode cX0_addLeaf 26 = .ok (.pop, 1) := by decide +kernel
theorem dX0_addLeaf_27 : decode cX0_addLeaf 27 = .ok (.aload_n 0, 1) := by decide +kernel
theorem dX0_addLeaf_28 : decode cX0_addLeaf 28 = .ok (.getfield 37, 3) := by decide +kernel
theorem dX0_addLeaf_31 : decode cX0_addLeaf 31 = .ok (.iload 4, 2) := by decide +kernel
theorem dX0_addLeaf_33 : decode cX0_addLeaf 33 = .ok (.invokevirtual 84, 3) := by decide +kernel
theorem dX0_addLeaf_36 : decode cX0_addLeaf 36 = .ok (.pop, 1) := by decide +kernel
theorem dX0_addLeaf_37 : decode cX0_addLeaf 37 = .ok (.return_, 1) := by decide +kernel
def X0_addLeaf (this : Nat) (a1 : Int32) (a2 : Int32) (a3 : Int32) (a4 : Int32) : MM Unit :=
  mb (gR 2 (some this) 2) fun v1 =>
  mb (wc 9 v1 fun t => X8_add t a1) fun v2 =>
  mb (gR 2 (some this) 3) fun v3 =>
  mb (wc 9 v3 fun t => X8_add t a2) fun v4 =>
  mb (gR 2 (some this) 4) fun v5 =>
  mb (wc 9 v5 fun t => X8_add t a3) fun v6 =>
  mb (gR 2 (some this) 5) fun v7 =>
  mb (wc 9 v7 fun t => X8_add t a4) fun v8 =>
  mr ()
set_option maxRecDepth 100000 in
set_option maxHeartbeats 4000000 in
theorem s_X0_addLeaf (G : GG) (this : Nat) (a1 : Int32) (a2 : Int32) (a3 : Int32) (a4 : Int32) : Sn G yX0_addLeaf cX0_addLeaf 5 none 1 21 (fun _ : Unit => none) (X0_addLeaf this a1 a2 a3 a4) 0 [some (va_rf (some this)), some (.int a1), some (.int a2), some (.int a3), some (.int a4)] [] := by
  unfold X0_addLeaf
  refine sn_aload_n (v := (some this)) (pc' := 1) dX0_addLeaf_0 rfl rfl rfl ?_
  refine sn_gR (k := 2) (pc' := 4) ci_2 rfl (Or.inl tw883) dX0_addLeaf_1 rfl (fun v1 => ?_)
  refine sn_iload_n (v := a1) (pc' := 5) dX0_addLeaf_4 rfl rfl rfl ?_
  refine sn_cV (r := v1) (st := []) (As := [.int a1]) (st2 := (fun v => .int v :: [])) (pc' := 8) ci_9 (fun t => c_X8_add G t a1) cw_X8_add rfl rfl tw878 tw484 tw483 rfl rfl cat_nil rfl (fun _ => rfl) dX0_addLeaf_5 rfl (fun v2 => ?_)
  refine sn_pop (pc' := 9) dX0_addLeaf_8 rfl rfl ?_
  refine sn_aload_n (v := (some this)) (pc' := 10) dX0_addLeaf_9 rfl rfl rfl ?_
  refine sn_gR (k := 3) (pc' := 13) ci_2 rfl (Or.inl tw884) dX0_addLeaf_10 rfl (fun v3 => ?_)
  refine sn_iload_n (v := a2) (pc' := 14) dX0_addLeaf_13 rfl rfl rfl ?_
  refine sn_cV (r := v3) (st := []) (As := [.int a2]) (st2 := (fun v => .int v :: [])) (pc' := 17) ci_9 (fun t => c_X8_add G t a2) cw_X8_add rfl rfl tw878 tw484 tw483 rfl rfl cat_nil rfl (fun _ => rfl) dX0_addLeaf_14 rfl (fun v4 => ?_)
  refine sn_pop (pc' := 18) dX0_addLeaf_17 rfl rfl ?_
  refine sn_aload_n (v := (some this)) (pc' := 19) dX0_addLeaf_18 rfl rfl rfl ?_
  refine sn_gR (k := 4) (pc' := 22) ci_2 rfl (Or.inl tw886) dX0_addLeaf_19 rfl (fun v5 => ?_)
  refine sn_iload_n (v := a3) (pc' := 23) dX0_addLeaf_22 rfl rfl rfl ?_
  refine sn_cV (r := v5) (st := []) (As := [.int a3]) (st2 := (fun v => .int v :: [])) (pc' := 26) ci_9 (fun t => c_X8_add G t a3) cw_X8_add rfl rfl tw878 tw484 tw483 rfl rfl cat_nil rfl (fun _ => rfl) dX0_addLeaf_23 rfl (fun v6 => ?_)
  refine sn_pop (pc' := 27) dX0_addLeaf_26 rfl rfl ?_
  refine sn_aload_n (v := (some this)) (pc' := 28) dX0_addLeaf_27 rfl rfl rfl ?_
  refine sn_gR (k := 5) (pc' := 31) ci_2 rfl (Or.inl tw887) dX0_addLeaf_28 rfl (fun v7 => ?_)
  refine sn_iload (v := a4) (pc' := 33) dX0_addLeaf_31 rfl rfl ?_
  refine sn_cV (r := v7) (st := []) (As := [.int a4]) (st2 := (fun v => .int v :: [])) (pc' := 36) ci_9 (fun t => c_X8_add G t a4) cw_X8_add rfl rfl tw878 tw484 tw483 rfl rfl cat_nil rfl (fun _ => rfl) dX0_addLeaf_33 rfl (fun v8 => ?_)
  refine sn_pop (pc' := 37) dX0_addLeaf_36 rfl rfl ?_
  exact sn_vret dX0_addLeaf_37 rfl
theorem c_X0_addLeaf (G : GG) (this : Nat) (a1 : Int32) (a2 : Int32) (a3 : Int32) (a4 : Int32) : Cal G yX0_addLeaf cX0_addLeaf 5 none 1 21 (fun _ : Unit => none) (X0_addLeaf this a1 a2 a3 a4) [.ref this, .int a1, .int a2, .int a3, .int a4] :=
  Cal.of (by decide) (cat_t (cat_i (cat_i (cat_i (cat_i cat_nil))))) rfl (sn_weak (le_s (le_s (le_s (le_s (le_s le_e))))) (s_X0_addLeaf G this a1 a2 a3 a4))
theorem cw_X0_addLeaf : CW yX0_addLeaf cX0_addLeaf 5 none 4 := ⟨tw877, tw21, by decide, by decide +kernel⟩
/-! X0_setOut -/
theorem dX0_setOut_0 : decode cX0_setOut 0 = .ok (.aload_n 0, 1) := by decide +kernel
theorem dX0_setOut_1 : decode cX0_setOut 1 = .ok (.getfield 12, 3) := by decide +kernel
theorem dX0_setOut_4 : decode cX0_setOut 4 = .ok (.iload_n 1, 1) := by decide +kernel
theorem dX0_setOut_5 : decode cX0_setOut 5 = .ok (.invokevirtual 55, 3) := by decide +kernel
theorem dX0_setOut_8 : decode cX0_setOut 8 = .ok (.istore_n 2, 1) := by decide +kernel
theorem dX0_setOut_9 : decode cX0_setOut 9 = .ok (.iconst 1, 1) := by decide +kernel
theorem dX0_setOut_10 : decode cX0_setOut 10 = .ok (.istore_n 3, 1) := by decide +kernel
theorem dX0_setOut_11 : decode cX0_setOut 11 = .ok (.iload_n 3, 1) := by decide +kernel
theorem dX0_setOut_12 : decode cX0_setOut 12 = .ok (.aload_n 0, 1) := by decide +kernel
theorem dX0_setOut_13 : decode cX0_setOut 13 = .ok (.getfield 12, 3) := by decide +kernel
theorem dX0_setOut_16 : decode cX0_setOut 16 = .ok (.iload_n 2, 1) := by decide +kernel
theorem dX0_setOut_17 : decode cX0_setOut 17 = .ok (.invokevirtual 59, 3) := by decide +kernel
theorem dX0_setOut_20 : decode cX0_setOut 20 = .ok (.if_icmp .gt 114, 3) := by decide +kernel
theorem dX0_setOut_23 : decode cX0_setOut 23 = .ok (.aload_n 0, 1) := by decide +kernel
theorem dX0_setOut_24 : decode cX0_setOut 24 = .ok (.getfield 12, 3) := by decide +kernel
theorem dX0_setOut_27 : decode cX0_setOut 27 = .ok (.iload_n 2, 1) := by decide +kernel
theorem dX0_setOut_28 : decode cX0_setOut 28 = .ok (.iload_n 3, 1) := by decide +kernel
theorem dX0_setOut_29 : decode cX0_setOut 29 = .ok (.invokevirtual 62, 3) := by decide +kernel
theorem dX0_setOut_32 : decode cX0_setOut 32 = .ok (.istore 4, 2) := by decide +kernel
theorem dX0_setOut_34 : decode cX0_setOut 34 = .ok (.iload 4, 2) := by decide +kernel
theorem dX0_setOut_36 : decode cX0_setOut 36 = .ok (.ifCond .lt 24, 3) := by decide +kernel
theorem dX0_setOut_39 : decode cX0_setOut 39 = .ok (.iload 4, 2) := by decide +kernel
theorem dX0_setOut_41 : decode cX0_setOut 41 = .ok (.aload_n 0, 1) := by decide +kernel
theorem dX0_setOut_42 : decode cX0_setOut 42 = .ok (.getfield 18, 3) := by decide +kernel
theorem dX0_setOut_45 : decode cX0_setOut 45 = .ok (.arraylength, 1) := by decide +kernel
theorem dX0_setOut_46 : decode cX0_setOut 46 = .ok (.if_icmp .ge 14, 3) := by decide +kernel
theorem dX0_setOut_49 : decode cX0_setOut 49 = .ok (.aload_n 0, 1) := by decide +kernel
theorem dX0_setOut_50 : decode cX0_setOut 50 = .ok (.getfield 18, 3) := by decide +kernel
theorem dX0_setOut_53 : decode cX0_setOut 53 = .ok (.iload 4, 2) := by decide +kernel
theorem dX0_setOut_55 : decode cX0_setOut 55 = .ok (.aload_n 0, 1) := by decide +kernel
theorem dX0_setOut_56 : decode cX0_setOut 56 = .ok (.invokevirtual 66, 3) := by decide +kernel
theorem dX0_setOut_59 : decode cX0_setOut 59 = .ok (.iastore, 1) := by decide +kernel
theorem dX0_setOut_60 : decode cX0_setOut 60 = .ok (.aload_n 0, 1) := by decide +kernel
theorem dX0_setOut_61 : decode cX0_setOut 61 = .ok (.getfield 12, 3) := by decide +kernel
theorem dX0_setOut_64 : decode cX0_setOut 64 = .ok (.iload 4, 2) := by decide +kernel
theorem dX0_setOut_66 : decode cX0_setOut 66 = .ok (.invokevirtual 70, 3) := by decide +kernel
theorem dX0_setOut_69 : decode cX0_setOut 69 = .ok (.ifCond .ne 27, 3) := by decide +kernel
theorem dX0_setOut_72 : decode cX0_setOut 72 = .ok (.aload_n 0, 1) := by decide +kernel
theorem dX0_setOut_73 : decode cX0_setOut 73 = .ok (.iload_n 1, 1) := by decide +kernel
theorem dX0_setOut_74 : decode cX0_setOut 74 = .ok (.iload_n 3, 1) := by decide +kernel
theorem dX0_setOut_75 : decode cX0_setOut 75 = .ok (.aload_n 0, 1) := by decide +kernel
theorem dX0_setOut_76 : decode cX0_setOut 76 = .ok (.getfield 12, 3) := by decide +kernel
theorem dX0_setOut_79 : decode cX0_setOut 79 = .ok (.iload 4, 2) := by decide +kernel
theorem dX0_setOut_81 : decode cX0_setOut 81 = .ok (.invokevirtual 74, 3) := by decide +kernel
theorem dX0_setOut_84 : decode cX0_setOut 84 = .ok (.ifCond .eq 7, 3) := by decide +kernel
theorem dX0_setOut_87 : decode cX0_setOut 87 = .ok (.iconst 1, 1) := by decide +kernel
theorem dX0_setOut_88 : decode cX0_setOut 88 = .ok (.goto 4, 3) := by decide +kernel
theorem dX0_setOut_91 : decode cX0_setOut 91 = .ok (.iconst 0, 1) := by decide +kernel
theorem dX0_setOut_92 : decode cX0_setOut 92 = .ok (.iconst 0, 1) := by decide +kernel
theorem dX0_setOut_93 : decode cX0_setOut 93 = .ok (.invokevirtual 77, 3) := by decide +kernel
theorem dX0_setOut_96 : decode cX0_setOut 96 = .ok (.iconst 1, 1) := by decide +kernel
theorem dX0_setOut_97 : decode cX0_setOut 97 = .ok (.istore 5, 2) := by decide +kernel
theorem dX0_setOut_99 : decode cX0_setOut 99 = .ok (.iload 5, 2) := by decide +kernel
theorem dX0_setOut_101 : decode cX0_setOut 101 = .ok (.aload_n 0, 1) := by decide +kernel
theorem dX0_setOut_102 : decode cX0_setOut 102 = .ok (.getfield 12, 3) := by decide +kernel
theorem dX0_setOut_105 : decode cX0_setOut 105 = .ok (.iload 4, 2) := by decide +kernel
theorem dX0_setOut_107 : decode cX0_setOut 107 = .ok (.invokevirtual 81, 3) := by decide +kernel
theorem dX0_setOut_110 : decode cX0_setOut 110 = .ok (.if_icmp .gt 18, 3) := by decide +kernel
theorem dX0_setOut_113 : decode cX0_setOut 113 = .ok (.aload_n 0, 1) := by decide +kernel
theorem dX0_setOut_114 : decode cX0_setOut 114 = .ok (.iload_n 1, 1) := by decide +kernel
theorem dX0_setOut_115 : decode cX0_setOut 115 = .ok (.iload_n 3, 1) := by decide +kernel
theorem dX0_setOut_116 : decode cX0_setOut 116 = .ok (.iconst 2, 1) := by decide +kernel
theorem dX0_setOut_117 : decode cX0_setOut 117 = .ok (.iload 5, 2) := by decide +kernel
theorem dX0_setOut_119 : decode cX0_setOut 119 = .ok (.invokevirtual 77, 3) := by decide +kernel
theorem dX0_setOut_122 : decode cX0_setOut 122 = .ok (.iinc 5 1, 3) := by decide +kernel
theorem dX0_setOut_125 : decode cX0_setOut 125 = .ok (.goto (-26), 3) := by decide +kernel
theorem dX0_setOut_128 : decode cX0_setOut 128 = .ok (.iinc 3 1, 3) := by decide +kernel
theorem dX0_setOut_131 : decode cX0_setOut 131 = .ok (.goto (-120), 3) := by decide +kernel
theorem dX0_setOut_134 : decode cX0_setOut 134 = .ok (.return_, 1) := by decide +kernel
def X0_setOut_128 (k11 : Nat → Int32 → Int32 → Int32 → MM Unit) (this : Nat) (x1 : Int32) (x2 : Int32) (x3 : Int32) : MM Unit :=
  (k11 this x1 x2 (x3 + (1 : Int32)))
def X0_setOut_99_st (k11 : Nat → Int32 → Int32 → Int32 → MM Unit) (k99 : Nat → Int32 → Int32 → Int32 → Int32 → Int32 → MM Unit) (this : Nat) (x1 : Int32) (x2 : Int32) (x3 : Int32) (x4 : Int32) (x5 : Int32) : MM Unit :=
  mb (gR 2 (some this) 0) fun v1 =>
  mb (wc 7 v1 fun t => X6_insertedAt t x4) fun v2 =>
  if v2 < x5 then ((X0_setOut_128 k11 this x1 x2 x3)) else (mb (wc 2 (some this) fun t => X0_addLeaf t x1 x3 (2 : Int32) x5) fun _ =>
  (k99 this x1 x2 x3 x4 (x5 + (1 : Int32))))
def X0_setOut_99 (k11 : Nat → Int32 → Int32 → Int32 → MM Unit) : Nat → Nat → Int32 → Int32 → Int32 → Int32 → Int32 → MM Unit
  | 0 => fun _ _ _ _ _ _ => mf
  | n + 1 => fun this x1 x2 x3 x4 x5 => X0_setOut_99_st k11 (X0_setOut_99 k11 n) this x1 x2 x3 x4 x5
def X0_setOut_96 (k11 : Nat → Int32 → Int32 → Int32 → MM Unit) (this : Nat) (x1 : Int32) (x2 : Int32) (x3 : Int32) (x4 : Int32) : MM Unit :=
  (X0_setOut_99 k11 LFU this x1 x2 x3 x4 (1 : Int32))
def X0_setOut_92 (k11 : Nat → Int32 → Int32 → Int32 → MM Unit) (this : Nat) (x1 : Int32) (x2 : Int32) (x3 : Int32) (x4 : Int32) (y0 : Int32) (y1 : Int32) (y2 : Int32) : MM Unit :=
  mb (wc 2 (some this) fun t => X0_addLeaf t y2 y1 y0 (0 : Int32)) fun _ =>
  (X0_setOut_96 k11 this x1 x2 x3 x4)
def X0_setOut_60 (k11 : Nat → Int32 → Int32 → Int32 → MM Unit) (this : Nat) (x1 : Int32) (x2 : Int32) (x3 : Int32) (x4 : Int32) : MM Unit :=
  mb (gR 2 (some this) 0) fun v1 =>
  mb (wc 7 v1 fun t => X6_isCut t x4) fun v2 =>
  if v2 = 0 then (mb (gR 2 (some this) 0) fun v3 =>
  mb (wc 7 v3 fun t => X6_isReplaced t x4) fun v4 =>
  if v4 = 0 then ((X0_setOut_92 k11 this x1 x2 x3 x4 (0 : Int32) x3 x1)) else ((X0_setOut_92 k11 this x1 x2 x3 x4 (1 : Int32) x3 x1))) else ((X0_setOut_96 k11 this x1 x2 x3 x4))
def X0_setOut_11_st  (k11 : Nat → Int32 → Int32 → Int32 → MM Unit) (this : Nat) (x1 : Int32) (x2 : Int32) (x3 : Int32) : MM Unit :=
  mb (gR 2 (some this) 0) fun v1 =>
  mb (wc 7 v1 fun t => X6_sizeOf t x2) fun v2 =>
  if v2 < x3 then (mr ()) else (mb (gR 2 (some this) 0) fun v3 =>
  mb (wc 7 v3 fun t => X6_slotOf t x2 x3) fun v4 =>
  if v4 < 0 then ((X0_setOut_60 k11 this x1 x2 x3 v4)) else (mb (gR 2 (some this) 1) fun v5 =>
  mb (aN v5) fun v6 =>
  if v6 ≤ v4 then ((X0_setOut_60 k11 this x1 x2 x3 v4)) else (mb (gR 2 (some this) 1) fun v7 =>
  mb (wc 2 (some this) fun t => X0_leafCount t ) fun v8 =>
  mb (sI v7 v4 v8) fun _ =>
  (X0_setOut_60 k11 this x1 x2 x3 v4))))
def X0_setOut_11  : Nat → Nat → Int32 → Int32 → Int32 → MM Unit
  | 0 => fun _ _ _ _ => mf
  | n + 1 => fun this x1 x2 x3 => X0_setOut_11_st  (X0_setOut_11  n) this x1 x2 x3
def X0_setOut (this : Nat) (a1 : Int32) : MM Unit :=
  mb (gR 2 (some this) 0) fun v1 =>
  mb (wc 7 v1 fun t => X6_signOf t a1) fun v2 =>
  (X0_setOut_11 LFU this a1 v2 (1 : Int32))
set_option maxRecDepth 100000 in
set_option maxHeartbeats 4000000 in
theorem s_X0_setOut_128 (G : GG) (k11 : Nat → Int32 → Int32 → Int32 → MM Unit) (hk11 : ∀ (this : Nat) (x1 : Int32) (x2 : Int32) (x3 : Int32), Sn G yX0_setOut cX0_setOut 6 none 2 45 (fun _ : Unit => none) (k11 this x1 x2 x3) 11 [some (va_rf (some this)), some (.int x1), some (.int x2), some (.int x3), none, none] []) (this : Nat) (x1 : Int32) (x2 : Int32) (x3 : Int32) : Sn G yX0_setOut cX0_setOut 6 none 2 45 (fun _ : Unit => none) (X0_setOut_128 k11 this x1 x2 x3) 128 [some (va_rf (some this)), some (.int x1), some (.int x2), some (.int x3), none, none] [] := by
  unfold X0_setOut_128
  refine sn_iinc (v := x3) (w := 1) (L' := [some (va_rf (some this)), some (.int x1), some (.int x2), some (.int (x3 + (1 : Int32))), none, none]) (pc' := 131) dX0_setOut_128 rfl rfl rfl (by decide) rfl ?_
  refine sn_goto (pc' := 11) dX0_setOut_131 rfl ?_
  exact sn_weak (le_s (le_s (le_s (le_s (le_n (le_n le_e)))))) (hk11 this x1 x2 (x3 + (1 : Int32)))
set_option maxRecDepth 100000 in
set_option maxHeartbeats 4000000 in
theorem s_X0_setOut_99_st (G : GG) (k11 : Nat → Int32 → Int32 → Int32 → MM Unit) (hk11 : ∀ (this : Nat) (x1 : Int32) (x2 : Int32) (x3 : Int32), Sn G yX0_setOut cX0_setOut 6 none 2 45 (fun _ : Unit => none) (k11 this x1 x2 x3) 11 [some (va_rf (some this)), some (.int x1), some (.int x2), some (.int x3), none, none] []) (k99 : Nat → Int32 → Int32 → Int32 → Int32 → Int32 → MM Unit) (hk99 : ∀ (this : Nat) (x1 : Int32) (x2 : Int32) (x3 : Int32) (x4 : Int32) (x5 : Int32), Sn G yX0_setOut cX0_setOut 6 none 2 45 (fun _ : Unit => none) (k99 this x1 x2 x3 x4 x5) 99 [some (va_rf (some this)), some (.int x1), some (.int x2), some (.int x3), some (.int x4), some (.int x5)] []) (this : Nat) (x1 : Int32) (x2 : Int32) (x3 : Int32) (x4 : Int32) (x5 : Int32) : Sn G yX0_setOut cX0_setOut 6 none 2 45 (fun _ : Unit => none) (X0_setOut_99_st k11 k99 this x1 x2 x3 x4 x5) 99 [some (va_rf (some this)), some (.int x1), some (.int x2), some (.int x3), some (.int x4), some (.int x5)] [] := by
  unfold X0_setOut_99_st
  refine sn_iload (v := x5) (pc' := 101) dX0_setOut_99 rfl rfl ?_
  refine sn_aload_n (v := (some this)) (pc' := 102) dX0_setOut_101 rfl rfl rfl ?_
  refine sn_gR (k := 0) (pc' := 105) ci_2 rfl (Or.inl tw880) dX0_setOut_102 rfl (fun v1 => ?_)
  refine sn_iload (v := x4) (pc' := 107) dX0_setOut_105 rfl rfl ?_
  refine sn_cV (r := v1) (st := [.int x5]) (As := [.int x4]) (st2 := (fun v => .int v :: [.int x5])) (pc' := 110) ci_7 (fun t => c_X6_insertedAt G t x4) cw_X6_insertedAt rfl rfl tw879 tw577 tw576 rfl rfl (cat_i cat_nil) rfl (fun _ => rfl) dX0_setOut_107 rfl (fun v2 => ?_)
  refine sn_ic_gt (pt := 128) (pf := 113) dX0_setOut_110 rfl rfl ?_ ?_
  · exact sn_weak (le_s (le_s (le_s (le_s (le_n (le_n le_e)))))) (s_X0_setOut_128 G k11 hk11 this x1 x2 x3)
  · refine sn_aload_n (v := (some this)) (pc' := 114) dX0_setOut_113 rfl rfl rfl ?_
    refine sn_iload_n (v := x1) (pc' := 115) dX0_setOut_114 rfl rfl rfl ?_
    refine sn_iload_n (v := x3) (pc' := 116) dX0_setOut_115 rfl rfl rfl ?_
    refine sn_iconst (v := (2 : Int32)) (pc' := 117) dX0_setOut_116 rfl (by decide) ?_
    refine sn_iload (v := x5) (pc' := 119) dX0_setOut_117 rfl rfl ?_
    refine sn_cV (r := (some this)) (st := []) (As := [.int x1, .int x3, .int (2 : Int32), .int x5]) (st2 := (fun _ => [])) (pc' := 122) ci_2 (fun t => c_X0_addLeaf G t x1 x3 (2 : Int32) x5) cw_X0_addLeaf rfl rfl tw874 pw21 tw876 rfl rfl cat_nil rfl (fun _ => rfl) dX0_setOut_119 rfl (fun _ => ?_)
    refine sn_iinc (v := x5) (w := 1) (L' := [some (va_rf (some this)), some (.int x1), some (.int x2), some (.int x3), some (.int x4), some (.int (x5 + (1 : Int32)))]) (pc' := 125) dX0_setOut_122 rfl rfl rfl (by decide) rfl ?_
    refine sn_goto (pc' := 99) dX0_setOut_125 rfl ?_
    exact sn_weak (le_s (le_s (le_s (le_s (le_s (le_s le_e)))))) (hk99 this x1 x2 x3 x4 (x5 + (1 : Int32)))
set_option maxRecDepth 100000 in
set_option maxHeartbeats 4000000 in
theorem s_X0_setOut_99 (G : GG) (k11 : Nat → Int32 → Int32 → Int32 → MM Unit) (hk11 : ∀ (this : Nat) (x1 : Int32) (x2 : Int32) (x3 : Int32), Sn G yX0_setOut cX0_setOut 6 none 2 45 (fun _ : Unit => none) (k11 this x1 x2 x3) 11 [some (va_rf (some this)), some (.int x1), some (.int x2), some (.int x3), none, none] []) : ∀ (n : Nat) (this : Nat) (x1 : Int32) (x2 : Int32) (x3 : Int32) (x4 : Int32) (x5 : Int32), Sn G yX0_setOut cX0_setOut 6 none 2 45 (fun _ : Unit => none) (X0_setOut_99 k11 n this x1 x2 x3 x4 x5) 99 [some (va_rf (some this)), some (.int x1), some (.int x2), some (.int x3), some (.int x4), some (.int x5)] [] := by
  intro n
  induction n with
  | zero => intro this x1 x2 x3 x4 x5; exact sn_mf
  | succ n ih => intro this x1 x2 x3 x4 x5; exact s_X0_setOut_99_st G k11 hk11 (X0_setOut_99 k11 n) ih this x1 x2 x3 x4 x5
set_option maxRecDepth 100000 in
set_option maxHeartbeats 4000000 in
theorem s_X0_setOut_96 (G : GG) (k11 : Nat → Int32 → Int32 → Int32 → MM Unit) (hk11 : ∀ (this : Nat) (x1 : Int32) (x2 : Int32) (x3 : Int32), Sn G yX0_setOut cX0_setOut 6 none 2 45 (fun _ : Unit => none) (k11 this x1 x2 x3) 11 [some (va_rf (some this)), some (.int x1), some (.int x2), some (.int x3), none, none] []) (this : Nat) (x1 : Int32) (x2 : Int32) (x3 : Int32) (x4 : Int32) : Sn G yX0_setOut cX0_setOut 6 none 2 45 (fun _ : Unit => none) (X0_setOut_96 k11 this x1 x2 x3 x4) 96 [some (va_rf (some this)), some (.int x1), some (.int x2), some (.int x3), some (.int x4), none] [] := by
  unfold X0_setOut_96
  refine sn_iconst (v := (1 : Int32)) (pc' := 97) dX0_setOut_96 rfl (by decide) ?_
  refine sn_istore (v := (1 : Int32)) (L' := [some (va_rf (some this)), some (.int x1), some (.int x2), some (.int x3), some (.int x4), some (.int (1 : Int32))]) (pc' := 99) dX0_setOut_97 rfl rfl rfl ?_
  exact sn_weak (le_s (le_s (le_s (le_s (le_s (le_s le_e)))))) (s_X0_setOut_99 G k11 hk11 LFU this x1 x2 x3 x4 (1 : Int32))
set_option maxRecDepth 100000 in
set_option maxHeartbeats 4000000 in
theorem s_X0_setOut_92 (G : GG) (k11 : Nat → Int32 → Int32 → Int32 → MM Unit) (hk11 : ∀ (this : Nat) (x1 : Int32) (x2 : Int32) (x3 : Int32), Sn G yX0_setOut cX0_setOut 6 none 2 45 (fun _ : Unit => none) (k11 this x1 x2 x3) 11 [some (va_rf (some this)), some (.int x1), some (.int x2), some (.int x3), none, none] []) (this : Nat) (x1 : Int32) (x2 : Int32) (x3 : Int32) (x4 : Int32) (y0 : Int32) (y1 : Int32) (y2 : Int32) : Sn G yX0_setOut cX0_setOut 6 none 2 45 (fun _ : Unit => none) (X0_setOut_92 k11 this x1 x2 x3 x4 y0 y1 y2) 92 [some (va_rf (some this)), some (.int x1), some (.int x2), some (.int x3), some (.int x4), none] [.int y0, .int y1, .int y2, va_rf (some this)] := by
  unfold X0_setOut_92
  refine sn_iconst (v := (0 : Int32)) (pc' := 93) dX0_setOut_92 rfl (by decide) ?_
  refine sn_cV (r := (some this)) (st := []) (As := [.int y2, .int y1, .int y0, .int (0 : Int32)]) (st2 := (fun _ => [])) (pc' := 96) ci_2 (fun t => c_X0_addLeaf G t y2 y1 y0 (0 : Int32)) cw_X0_addLeaf rfl rfl tw874 pw21 tw876 rfl rfl cat_nil rfl (fun _ => rfl) dX0_setOut_93 rfl (fun _ => ?_)
  exact sn_weak (le_s (le_s (le_s (le_s (le_s (le_n le_e)))))) (s_X0_setOut_96 G k11 hk11 this x1 x2 x3 x4)
set_option maxRecDepth 100000 in
set_option maxHeartbeats 4000000 in
theorem s_X0_setOut_60 (G : GG) (k11 : Nat → Int32 → Int32 → Int32 → MM Unit) (hk11 : ∀ (this : Nat) (x1 : Int32) (x2 : Int32) (x3 : Int32), Sn G yX0_setOut cX0_setOut 6 none 2 45 (fun _ : Unit => none) (k11 this x1 x2 x3) 11 [some (va_rf (some this)), some (.int x1), some (.int x2), some (.int x3), none, none] []) (this : Nat) (x1 : Int32) (x2 : Int32) (x3 : Int32) (x4 : Int32) : Sn G yX0_setOut cX0_setOut 6 none 2 45 (fun _ : Unit => none) (X0_setOut_60 k11 this x1 x2 x3 x4) 60 [some (va_rf (some this)), some (.int x1), some (.int x2), some (.int x3), some (.int x4), none] [] := by
  unfold X0_setOut_60
  refine sn_aload_n (v := (some this)) (pc' := 61) dX0_setOut_60 rfl rfl rfl ?_
  refine sn_gR (k := 0) (pc' := 64) ci_2 rfl (Or.inl tw880) dX0_setOut_61 rfl (fun v1 => ?_)
  refine sn_iload (v := x4) (pc' := 66) dX0_setOut_64 rfl rfl ?_
  refine sn_cV (r := v1) (st := []) (As := [.int x4]) (st2 := (fun v => .int v :: [])) (pc' := 69) ci_7 (fun t => c_X6_isCut G t x4) cw_X6_isCut rfl rfl tw865 tw867 tw866 rfl rfl cat_nil rfl (fun _ => rfl) dX0_setOut_66 rfl (fun v2 => ?_)
  refine sn_if_ne (pt := 96) (pf := 72) dX0_setOut_69 rfl rfl ?_ ?_
  · refine sn_aload_n (v := (some this)) (pc' := 73) dX0_setOut_72 rfl rfl rfl ?_
    refine sn_iload_n (v := x1) (pc' := 74) dX0_setOut_73 rfl rfl rfl ?_
    refine sn_iload_n (v := x3) (pc' := 75) dX0_setOut_74 rfl rfl rfl ?_
    refine sn_aload_n (v := (some this)) (pc' := 76) dX0_setOut_75 rfl rfl rfl ?_
    refine sn_gR (k := 0) (pc' := 79) ci_2 rfl (Or.inl tw880) dX0_setOut_76 rfl (fun v3 => ?_)
    refine sn_iload (v := x4) (pc' := 81) dX0_setOut_79 rfl rfl ?_
    refine sn_cV (r := v3) (st := [.int x3, .int x1, va_rf (some this)]) (As := [.int x4]) (st2 := (fun v => .int v :: [.int x3, .int x1, va_rf (some this)])) (pc' := 84) ci_7 (fun t => c_X6_isReplaced G t x4) cw_X6_isReplaced rfl rfl tw870 tw872 tw871 rfl rfl (cat_i (cat_i (cat_q cat_nil))) rfl (fun _ => rfl) dX0_setOut_81 rfl (fun v4 => ?_)
    refine sn_if_eq (pt := 91) (pf := 87) dX0_setOut_84 rfl rfl ?_ ?_
    · refine sn_iconst (v := (0 : Int32)) (pc' := 92) dX0_setOut_91 rfl (by decide) ?_
      exact sn_weak (le_s (le_s (le_s (le_s (le_s (le_n le_e)))))) (s_X0_setOut_92 G k11 hk11 this x1 x2 x3 x4 (0 : Int32) x3 x1)
    · refine sn_iconst (v := (1 : Int32)) (pc' := 88) dX0_setOut_87 rfl (by decide) ?_
      refine sn_goto (pc' := 92) dX0_setOut_88 rfl ?_
      exact sn_weak (le_s (le_s (le_s (le_s (le_s (le_n le_e)))))) (s_X0_setOut_92 G k11 hk11 this x1 x2 x3 x4 (1 : Int32) x3 x1)
  · exact sn_weak (le_s (le_s (le_s (le_s (le_s (le_n le_e)))))) (s_X0_setOut_96 G k11 hk11 this x1 x2 x3 x4)
set_option maxRecDepth 100000 in
set_option maxHeartbeats 4000000 in
theorem s_X0_setOut_11_st (G : GG)   (k11 : Nat → Int32 → Int32 → Int32 → MM Unit) (hk11 : ∀ (this : Nat) (x1 : Int32) (x2 : Int32) (x3 : Int32), Sn G yX0_setOut cX0_setOut 6 none 2 45 (fun _ : Unit => none) (k11 this x1 x2 x3) 11 [some (va_rf (some this)), some (.int x1), some (.int x2), some (.int x3), none, none] []) (this : Nat) (x1 : Int32) (x2 : Int32) (x3 : Int32) : Sn G yX0_setOut cX0_setOut 6 none 2 45 (fun _ : Unit => none) (X0_setOut_11_st  k11 this x1 x2 x3) 11 [some (va_rf (some this)), some (.int x1), some (.int x2), some (.int x3), none, none] [] := by
  unfold X0_setOut_11_st
  refine sn_iload_n (v := x3) (pc' := 12) dX0_setOut_11 rfl rfl rfl ?_
  refine sn_aload_n (v := (some this)) (pc' := 13) dX0_setOut_12 rfl rfl rfl ?_
  refine sn_gR (k := 0) (pc' := 16) ci_2 rfl (Or.inl tw880) dX0_setOut_13 rfl (fun v1 => ?_)
  refine sn_iload_n (v := x2) (pc' := 17) dX0_setOut_16 rfl rfl rfl ?_
  refine sn_cV (r := v1) (st := [.int x3]) (As := [.int x2]) (st2 := (fun v => .int v :: [.int x3])) (pc' := 20) ci_7 (fun t => c_X6_sizeOf G t x2) cw_X6_sizeOf rfl rfl tw859 tw539 tw538 rfl rfl (cat_i cat_nil) rfl (fun _ => rfl) dX0_setOut_17 rfl (fun v2 => ?_)
  refine sn_ic_gt (pt := 134) (pf := 23) dX0_setOut_20 rfl rfl ?_ ?_
  · exact sn_vret dX0_setOut_134 rfl
  · refine sn_aload_n (v := (some this)) (pc' := 24) dX0_setOut_23 rfl rfl rfl ?_
    refine sn_gR (k := 0) (pc' := 27) ci_2 rfl (Or.inl tw880) dX0_setOut_24 rfl (fun v3 => ?_)
    refine sn_iload_n (v := x2) (pc' := 28) dX0_setOut_27 rfl rfl rfl ?_
    refine sn_iload_n (v := x3) (pc' := 29) dX0_setOut_28 rfl rfl rfl ?_
    refine sn_cV (r := v3) (st := []) (As := [.int x2, .int x3]) (st2 := (fun v => .int v :: [])) (pc' := 32) ci_7 (fun t => c_X6_slotOf G t x2 x3) cw_X6_slotOf rfl rfl tw860 tw560 tw559 rfl rfl cat_nil rfl (fun _ => rfl) dX0_setOut_29 rfl (fun v4 => ?_)
    refine sn_istore (v := v4) (L' := [some (va_rf (some this)), some (.int x1), some (.int x2), some (.int x3), some (.int v4), none]) (pc' := 34) dX0_setOut_32 rfl rfl rfl ?_
    refine sn_iload (v := v4) (pc' := 36) dX0_setOut_34 rfl rfl ?_
    refine sn_if_lt (pt := 60) (pf := 39) dX0_setOut_36 rfl rfl ?_ ?_
    · exact sn_weak (le_s (le_s (le_s (le_s (le_s (le_n le_e)))))) (s_X0_setOut_60 G k11 hk11 this x1 x2 x3 v4)
    · refine sn_iload (v := v4) (pc' := 41) dX0_setOut_39 rfl rfl ?_
      refine sn_aload_n (v := (some this)) (pc' := 42) dX0_setOut_41 rfl rfl rfl ?_
      refine sn_gR (k := 1) (pc' := 45) ci_2 rfl (Or.inl tw882) dX0_setOut_42 rfl (fun v5 => ?_)
      refine sn_aN (pc' := 46) dX0_setOut_45 rfl (fun v6 => ?_)
      refine sn_ic_ge (pt := 60) (pf := 49) dX0_setOut_46 rfl rfl ?_ ?_
      · exact sn_weak (le_s (le_s (le_s (le_s (le_s (le_n le_e)))))) (s_X0_setOut_60 G k11 hk11 this x1 x2 x3 v4)
      · refine sn_aload_n (v := (some this)) (pc' := 50) dX0_setOut_49 rfl rfl rfl ?_
        refine sn_gR (k := 1) (pc' := 53) ci_2 rfl (Or.inl tw882) dX0_setOut_50 rfl (fun v7 => ?_)
        refine sn_iload (v := v4) (pc' := 55) dX0_setOut_53 rfl rfl ?_
        refine sn_aload_n (v := (some this)) (pc' := 56) dX0_setOut_55 rfl rfl rfl ?_
        refine sn_cV (r := (some this)) (st := [.int v4, va_rf v7]) (As := []) (st2 := (fun v => .int v :: [.int v4, va_rf v7])) (pc' := 59) ci_2 (fun t => c_X0_leafCount G t ) cw_X0_leafCount rfl rfl tw861 tw863 tw862 rfl rfl (cat_i (cat_q cat_nil)) rfl (fun _ => rfl) dX0_setOut_56 rfl (fun v8 => ?_)
        refine sn_sI (pc' := 60) dX0_setOut_59 rfl (fun _ => ?_)
        exact sn_weak (le_s (le_s (le_s (le_s (le_s (le_n le_e)))))) (s_X0_setOut_60 G k11 hk11 this x1 x2 x3 v4)
set_option maxRecDepth 100000 in
set_option maxHeartbeats 4000000 in
theorem s_X0_setOut_11 (G : GG)   : ∀ (n : Nat) (this : Nat) (x1 : Int32) (x2 : Int32) (x3 : Int32), Sn G yX0_setOut cX0_setOut 6 none 2 45 (fun _ : Unit => none) (X0_setOut_11  n this x1 x2 x3) 11 [some (va_rf (some this)), some (.int x1), some (.int x2), some (.int x3), none, none] [] := by
  intro n
  induction n with
  | zero => intro this x1 x2 x3; exact sn_mf
  | succ n ih => intro this x1 x2 x3; exact s_X0_setOut_11_st G   (X0_setOut_11  n) ih this x1 x2 x3
set_option maxRecDepth 100000 in
set_option maxHeartbeats 4000000 in
theorem s_X0_setOut (G : GG) (this : Nat) (a1 : Int32) : Sn G yX0_setOut cX0_setOut 6 none 2 45 (fun _ : Unit => none) (X0_setOut this a1) 0 [some (va_rf (some this)), some (.int a1), none, none, none, none] [] := by
  unfold X0_setOut
  refine sn_aload_n (v := (some this)) (pc' := 1) dX0_setOut_0 rfl rfl rfl ?_
  refine sn_gR (k := 0) (pc' := 4) ci_2 rfl (Or.inl tw880) dX0_setOut_1 rfl (fun v1 => ?_)
  refine sn_iload_n (v := a1) (pc' := 5) dX0_setOut_4 rfl rfl rfl ?_
  refine sn_cV (r := v1) (st := []) (As := [.int a1]) (st2 := (fun v => .int v :: [])) (pc' := 8) ci_7 (fun t => c_X6_signOf G t a1) cw_X6_signOf rfl rfl tw858 tw649 tw648 rfl rfl cat_nil rfl (fun _ => rfl) dX0_setOut_5 rfl (fun v2 => ?_)
  refine sn_istore_n (v := v2) (L' := [some (va_rf (some this)), some (.int a1), some (.int v2), none, none, none]) (pc' := 9) dX0_setOut_8 rfl rfl rfl rfl ?_
  refine sn_iconst (v := (1 : Int32)) (pc' := 10) dX0_setOut_9 rfl (by decide) ?_
  refine sn_istore_n (v := (1 : Int32)) (L' := [some (va_rf (some this)), some (.int a1), some (.int v2), some (.int (1 : Int32)), none, none]) (pc' := 11) dX0_setOut_10 rfl rfl rfl rfl ?_
  exact sn_weak (le_s (le_s (le_s (le_s (le_n (le_n le_e)))))) (s_X0_setOut_11 G LFU this a1 v2 (1 : Int32))
theorem c_X0_setOut (G : GG) (this : Nat) (a1 : Int32) : Cal G yX0_setOut cX0_setOut 6 none 2 45 (fun _ : Unit => none) (X0_setOut this a1) [.ref this, .int a1] :=
  Cal.of (by decide) (cat_t (cat_i cat_nil)) rfl (sn_weak (le_s (le_s (le_z (le_z (le_z (le_z le_e)))))) (s_X0_setOut G this a1))
theorem cw_X0_setOut : CW yX0_setOut cX0_setOut 6 none 1 := ⟨tw857, tw21, by decide, by decide +kernel⟩
/-! X0_init -/
theorem dX0_init_0 : decode cX0_init 0 = .ok (.aload_n 0, 1) := by decide +kernel
theorem dX0_init_1 : decode cX0_init 1 = .ok (.invokespecial 3, 3) := by decide +kernel
theorem dX0_init_4 : decode cX0_init 4 = .ok (.aload_n 0, 1) := by decide +kernel
theorem dX0_init_5 : decode cX0_init 5 = .ok (.new 9, 3) := by decide +kernel
theorem dX0_init_8 : decode cX0_init 8 = .ok (.dup, 1) := by decide +kernel
theorem dX0_init_9 : decode cX0_init 9 = .ok (.invokespecial 11, 3) := by decide +kernel
theorem dX0_init_12 : decode cX0_init 12 = .ok (.putfield 12, 3) := by decide +kernel
theorem dX0_init_15 : decode cX0_init 15 = .ok (.aload_n 0, 1) := by decide +kernel
theorem dX0_init_16 : decode cX0_init 16 = .ok (.sipush 852, 3) := by decide +kernel
theorem dX0_init_19 : decode cX0_init 19 = .ok (.newarray .int, 2) := by decide +kernel
theorem dX0_init_21 : decode cX0_init 21 = .ok (.putfield 18, 3) := by decide +kernel
theorem dX0_init_24 : decode cX0_init 24 = .ok (.aload_n 0, 1) := by decide +kernel
theorem dX0_init_25 : decode cX0_init 25 = .ok (.new 22, 3) := by decide +kernel
theorem dX0_init_28 : decode cX0_init 28 = .ok (.dup, 1) := by decide +kernel
theorem dX0_init_29 : decode cX0_init 29 = .ok (.sipush 400, 3) := by decide +kernel
theorem dX0_init_32 : decode cX0_init 32 = .ok (.invokespecial 24, 3) := by decide +kernel
theorem dX0_init_35 : decode cX0_init 35 = .ok (.putfield 27, 3) := by decide +kernel
theorem dX0_init_38 : decode cX0_init 38 = .ok (.aload_n 0, 1) := by decide +kernel
theorem dX0_init_39 : decode cX0_init 39 = .ok (.new 22, 3) := by decide +kernel
theorem dX0_init_42 : decode cX0_init 42 = .ok (.dup, 1) := by decide +kernel
theorem dX0_init_43 : decode cX0_init 43 = .ok (.sipush 400, 3) := by decide +kernel
theorem dX0_init_46 : decode cX0_init 46 = .ok (.invokespecial 24, 3) := by decide +kernel
theorem dX0_init_49 : decode cX0_init 49 = .ok (.putfield 31, 3) := by decide +kernel
theorem dX0_init_52 : decode cX0_init 52 = .ok (.aload_n 0, 1) := by decide +kernel
theorem dX0_init_53 : decode cX0_init 53 = .ok (.new 22, 3) := by decide +kernel
theorem dX0_init_56 : decode cX0_init 56 = .ok (.dup, 1) := by decide +kernel
theorem dX0_init_57 : decode cX0_init 57 = .ok (.sipush 400, 3) := by decide +kernel
theorem dX0_init_60 : decode cX0_init 60 = .ok (.invokespecial 24, 3) := by decide +kernel
theorem dX0_init_63 : decode cX0_init 63 = .ok (.putfield 34, 3) := by decide +kernel
theorem dX0_init_66 : decode cX0_init 66 = .ok (.aload_n 0, 1) := by decide +kernel
theorem dX0_init_67 : decode cX0_init 67 = .ok (.new 22, 3) := by decide +kernel
theorem dX0_init_70 : decode cX0_init 70 = .ok (.dup, 1) := by decide +kernel
theorem dX0_init_71 : decode cX0_init 71 = .ok (.sipush 400, 3) := by decide +kernel
theorem dX0_init_74 : decode cX0_init 74 = .ok (.invokespecial 24, 3) := by decide +kernel
theorem dX0_init_77 : decode cX0_init 77 = .ok (.putfield 37, 3) := by decide +kernel
theorem dX0_init_80 : decode cX0_init 80 = .ok (.aload_n 0, 1) := by decide +kernel
theorem dX0_init_81 : decode cX0_init 81 = .ok (.aload_n 2, 1) := by decide +kernel
theorem dX0_init_82 : decode cX0_init 82 = .ok (.putfield 40, 3) := by decide +kernel
theorem dX0_init_85 : decode cX0_init 85 = .ok (.aload_n 0, 1) := by decide +kernel
theorem dX0_init_86 : decode cX0_init 86 = .ok (.getfield 12, 3) := by decide +kernel
theorem dX0_init_89 : decode cX0_init 89 = .ok (.aload_n 1, 1) := by decide +kernel
theorem dX0_init_90 : decode cX0_init 90 = .ok (.invokevirtual 44, 3) := by decide +kernel
theorem dX0_init_93 : decode cX0_init 93 = .ok (.iconst 0, 1) := by decide +kernel
theorem dX0_init_94 : decode cX0_init 94 = .ok (.istore_n 3, 1) := by decide +kernel
theorem dX0_init_95 : decode cX0_init 95 = .ok (.iload_n 3, 1) := by decide +kernel
theorem dX0_init_96 : decode cX0_init 96 = .ok (.aload_n 0, 1) := by decide +kernel
theorem dX0_init_97 : decode cX0_init 97 = .ok (.getfield 12, 3) := by decide +kernel
theorem dX0_init_100 : decode cX0_init 100 = .ok (.getfield 48, 3) := by decide +kernel
theorem dX0_init_103 : decode cX0_init 103 = .ok (.if_icmp .ge 14, 3) := by decide +kernel
theorem dX0_init_106 : decode cX0_init 106 = .ok (.aload_n 0, 1) := by decide +kernel
theorem dX0_init_107 : decode cX0_init 107 = .ok (.iload_n 3, 1) := by decide +kernel
theorem dX0_init_108 : decode cX0_init 108 = .ok (.invokevirtual 52, 3) := by decide +kernel
theorem dX0_init_111 : decode cX0_init 111 = .ok (.iinc 3 1, 3) := by decide +kernel
theorem dX0_init_114 : decode cX0_init 114 = .ok (.goto (-19), 3) := by decide +kernel
theorem dX0_init_117 : decode cX0_init 117 = .ok (.return_, 1) := by decide +kernel
def X0_init_95_st  (k95 : Nat → Int32 → MM Unit) (this : Nat) (x3 : Int32) : MM Unit :=
  mb (gR 2 (some this) 0) fun v1 =>
  mb (gI 7 v1 4) fun v2 =>
  if v2 ≤ x3 then (mr ()) else (mb (wc 2 (some this) fun t => X0_setOut t x3) fun _ =>
  (k95 this (x3 + (1 : Int32))))
def X0_init_95  : Nat → Nat → Int32 → MM Unit
  | 0 => fun _ _ => mf
  | n + 1 => fun this x3 => X0_init_95_st  (X0_init_95  n) this x3
def X0_init (this : Nat) (a1 : Option Nat) (a2 : Option Nat) : MM Unit :=
  wn (some this) fun _ =>
  mb (nO 7 6 [.null, .null, .null, .null, .int 0, .int 0]) fun v1 =>
  mb (wn v1 fun t => X6_init t ) fun _ =>
  mb (pR 2 (some this) 0 v1) fun _ =>
  mb (nA 0 (852 : Int32)) fun v2 =>
  mb (pR 2 (some this) 1 v2) fun _ =>
  mb (nO 9 2 [.null, .int 0]) fun v3 =>
  mb (wn v3 fun t => X8_init t (400 : Int32)) fun _ =>
  mb (pR 2 (some this) 2 v3) fun _ =>
  mb (nO 9 2 [.null, .int 0]) fun v4 =>
  mb (wn v4 fun t => X8_init t (400 : Int32)) fun _ =>
  mb (pR 2 (some this) 3 v4) fun _ =>
  mb (nO 9 2 [.null, .int 0]) fun v5 =>
  mb (wn v5 fun t => X8_init t (400 : Int32)) fun _ =>
  mb (pR 2 (some this) 4 v5) fun _ =>
  mb (nO 9 2 [.null, .int 0]) fun v6 =>
  mb (wn v6 fun t => X8_init t (400 : Int32)) fun _ =>
  mb (pR 2 (some this) 5 v6) fun _ =>
  mb (pR 2 (some this) 6 a2) fun _ =>
  mb (gR 2 (some this) 0) fun v7 =>
  mb (wc 7 v7 fun t => X6_copyFrom t a1) fun _ =>
  (X0_init_95 LFU this (0 : Int32))
set_option maxRecDepth 100000 in
set_option maxHeartbeats 4000000 in
theorem s_X0_init_95_st (G : GG)   (k95 : Nat → Int32 → MM Unit) (hk95 : ∀ (this : Nat) (x3 : Int32), Sn G yX0_init cX0_init 4 none 3 70 (fun _ : Unit => none) (k95 this x3) 95 [some (va_rf (some this)), none, none, some (.int x3)] []) (this : Nat) (x3 : Int32) : Sn G yX0_init cX0_init 4 none 3 70 (fun _ : Unit => none) (X0_init_95_st  k95 this x3) 95 [some (va_rf (some this)), none, none, some (.int x3)] [] := by
  unfold X0_init_95_st
  refine sn_iload_n (v := x3) (pc' := 96) dX0_init_95 rfl rfl rfl ?_
  refine sn_aload_n (v := (some this)) (pc' := 97) dX0_init_96 rfl rfl rfl ?_
  refine sn_gR (k := 0) (pc' := 100) ci_2 rfl (Or.inl tw880) dX0_init_97 rfl (fun v1 => ?_)
  refine sn_gI (k := 4) (pc' := 103) ci_7 rfl (Or.inr ⟨_, nw190⟩) dX0_init_100 rfl (fun v2 => ?_)
  refine sn_ic_ge (pt := 117) (pf := 106) dX0_init_103 rfl rfl ?_ ?_
  · exact sn_vret dX0_init_117 rfl
  · refine sn_aload_n (v := (some this)) (pc' := 107) dX0_init_106 rfl rfl rfl ?_
    refine sn_iload_n (v := x3) (pc' := 108) dX0_init_107 rfl rfl rfl ?_
    refine sn_cV (r := (some this)) (st := []) (As := [.int x3]) (st2 := (fun _ => [])) (pc' := 111) ci_2 (fun t => c_X0_setOut G t x3) cw_X0_setOut rfl rfl tw854 pw20 tw856 rfl rfl cat_nil rfl (fun _ => rfl) dX0_init_108 rfl (fun _ => ?_)
    refine sn_iinc (v := x3) (w := 1) (L' := [some (va_rf (some this)), none, none, some (.int (x3 + (1 : Int32)))]) (pc' := 114) dX0_init_111 rfl rfl rfl (by decide) rfl ?_
    refine sn_goto (pc' := 95) dX0_init_114 rfl ?_
    exact sn_weak (le_s (le_n (le_n (le_s le_e)))) (hk95 this (x3 + (1 : Int32)))
set_option maxRecDepth 100000 in
set_option maxHeartbeats 4000000 in
theorem s_X0_init_95 (G : GG)   : ∀ (n : Nat) (this : Nat) (x3 : Int32), Sn G yX0_init cX0_init 4 none 3 70 (fun _ : Unit => none) (X0_init_95  n this x3) 95 [some (va_rf (some this)), none, none, some (.int x3)] [] := by
  intro n
  induction n with
  | zero => intro this x3; exact sn_mf
  | succ n ih => intro this x3; exact s_X0_init_95_st G   (X0_init_95  n) ih this x3
set_option maxRecDepth 100000 in
set_option maxHeartbeats 4000000 in
theorem s_X0_init (G : GG) (this : Nat) (a1 : Option Nat) (a2 : Option Nat) : Sn G yX0_init cX0_init 4 none 3 70 (fun _ : Unit => none) (X0_init this a1 a2) 0 [some (va_rf (some this)), some (va_rf a1), some (va_rf a2), none] [] := by
  unfold X0_init
  refine sn_aload_n (v := (some this)) (pc' := 1) dX0_init_0 rfl rfl rfl ?_
  refine sn_oI (pc' := 4) rfl tw844 tw33 tw34 cat_nil rfl dX0_init_1 rfl ?_
  refine sn_aload_n (v := (some this)) (pc' := 5) dX0_init_4 rfl rfl rfl ?_
  refine sn_nO (pc' := 8) ci_7 tw845 tw181 tw8 (by decide +kernel) dX0_init_5 rfl (fun v1 => ?_)
  refine sn_dup (pc' := 9) dX0_init_8 rfl (cat_rf _) ?_
  refine sn_cI (r := v1) (st := [va_rf v1, va_rf (some this)]) (As := []) (st2 := (fun _ => [va_rf v1, va_rf (some this)])) (pc' := 12) (fun t => c_X6_init G t ) cw_X6_init rfl rfl (Or.inr ⟨_, nw846⟩) tw183 rfl rfl rfl (cat_q (cat_q cat_nil)) rfl (fun _ => rfl) dX0_init_9 rfl (fun _ => ?_)
  refine sn_pR (k := 0) (pc' := 15) ci_2 rfl (Or.inl tw880) (Or.inr ⟨rfl, rfl, rfl, tw880⟩) (Or.inl ⟨_, rfl⟩) dX0_init_12 rfl (fun _ => ?_)
  refine sn_aload_n (v := (some this)) (pc' := 16) dX0_init_15 rfl rfl rfl ?_
  refine sn_sipush (v := (852 : Int32)) (pc' := 19) dX0_init_16 rfl (by decide) ?_
  refine sn_nA (t := 0) (pc' := 21) rfl rfl tw64 dX0_init_19 rfl (fun v2 => ?_)
  refine sn_pR (k := 1) (pc' := 24) ci_2 rfl (Or.inl tw882) (Or.inr ⟨rfl, rfl, rfl, tw882⟩) (Or.inr ⟨_, rfl⟩) dX0_init_21 rfl (fun _ => ?_)
  refine sn_aload_n (v := (some this)) (pc' := 25) dX0_init_24 rfl rfl rfl ?_
  refine sn_nO (pc' := 28) ci_9 tw847 tw42 tw3 (by decide +kernel) dX0_init_25 rfl (fun v3 => ?_)
  refine sn_dup (pc' := 29) dX0_init_28 rfl (cat_rf _) ?_
  refine sn_sipush (v := (400 : Int32)) (pc' := 32) dX0_init_29 rfl (by decide) ?_
  refine sn_cI (r := v3) (st := [va_rf v3, va_rf (some this)]) (As := [.int (400 : Int32)]) (st2 := (fun _ => [va_rf v3, va_rf (some this)])) (pc' := 35) (fun t => c_X8_init G t (400 : Int32)) cw_X8_init rfl rfl (Or.inl tw848) tw44 rfl rfl rfl (cat_q (cat_q cat_nil)) rfl (fun _ => rfl) dX0_init_32 rfl (fun _ => ?_)
  refine sn_pR (k := 2) (pc' := 38) ci_2 rfl (Or.inl tw883) (Or.inr ⟨rfl, rfl, rfl, tw883⟩) (Or.inl ⟨_, rfl⟩) dX0_init_35 rfl (fun _ => ?_)
  refine sn_aload_n (v := (some this)) (pc' := 39) dX0_init_38 rfl rfl rfl ?_
  refine sn_nO (pc' := 42) ci_9 tw847 tw42 tw3 (by decide +kernel) dX0_init_39 rfl (fun v4 => ?_)
  refine sn_dup (pc' := 43) dX0_init_42 rfl (cat_rf _) ?_
  refine sn_sipush (v := (400 : Int32)) (pc' := 46) dX0_init_43 rfl (by decide) ?_
  refine sn_cI (r := v4) (st := [va_rf v4, va_rf (some this)]) (As := [.int (400 : Int32)]) (st2 := (fun _ => [va_rf v4, va_rf (some this)])) (pc' := 49) (fun t => c_X8_init G t (400 : Int32)) cw_X8_init rfl rfl (Or.inl tw848) tw44 rfl rfl rfl (cat_q (cat_q cat_nil)) rfl (fun _ => rfl) dX0_init_46 rfl (fun _ => ?_)
  refine sn_pR (k := 3) (pc' := 52) ci_2 rfl (Or.inl tw884) (Or.inr ⟨rfl, rfl, rfl, tw884⟩) (Or.inl ⟨_, rfl⟩) dX0_init_49 rfl (fun _ => ?_)
  refine sn_aload_n (v := (some this)) (pc' := 53) dX0_init_52 rfl rfl rfl ?_
  refine sn_nO (pc' := 56) ci_9 tw847 tw42 tw3 (by decide +kernel) dX0_init_53 rfl (fun v5 => ?_)
  refine sn_dup (pc' := 57) dX0_init_56 rfl (cat_rf _) ?_
  refine sn_sipush (v := (400 : Int32)) (pc' := 60) dX0_init_57 rfl (by decide) ?_
  refine sn_cI (r := v5) (st := [va_rf v5, va_rf (some this)]) (As := [.int (400 : Int32)]) (st2 := (fun _ => [va_rf v5, va_rf (some this)])) (pc' := 63) (fun t => c_X8_init G t (400 : Int32)) cw_X8_init rfl rfl (Or.inl tw848) tw44 rfl rfl rfl (cat_q (cat_q cat_nil)) rfl (fun _ => rfl) dX0_init_60 rfl (fun _ => ?_)
  refine sn_pR (k := 4) (pc' := 66) ci_2 rfl (Or.inl tw886) (Or.inr ⟨rfl, rfl, rfl, tw886⟩) (Or.inl ⟨_, rfl⟩) dX0_init_63 rfl (fun _ => ?_)
  refine sn_aload_n (v := (some this)) (pc' := 67) dX0_init_66 rfl rfl rfl ?_
  refine sn_nO (pc' := 70) ci_9 tw847 tw42 tw3 (by decide +kernel) dX0_init_67 rfl (fun v6 => ?_)
  refine sn_dup (pc' := 71) dX0_init_70 rfl (cat_rf _) ?_
  refine sn_sipush (v := (400 : Int32)) (pc' := 74) dX0_init_71 rfl (by decide) ?_
  refine sn_cI (r := v6) (st := [va_rf v6, va_rf (some this)]) (As := [.int (400 : Int32)]) (st2 := (fun _ => [va_rf v6, va_rf (some this)])) (pc' := 77) (fun t => c_X8_init G t (400 : Int32)) cw_X8_init rfl rfl (Or.inl tw848) tw44 rfl rfl rfl (cat_q (cat_q cat_nil)) rfl (fun _ => rfl) dX0_init_74 rfl (fun _ => ?_)
  refine sn_pR (k := 5) (pc' := 80) ci_2 rfl (Or.inl tw887) (Or.inr ⟨rfl, rfl, rfl, tw887⟩) (Or.inl ⟨_, rfl⟩) dX0_init_77 rfl (fun _ => ?_)
  refine sn_aload_n (v := (some this)) (pc' := 81) dX0_init_80 rfl rfl rfl ?_
  refine sn_aload_n (v := a2) (pc' := 82) dX0_init_81 rfl rfl rfl ?_
  refine sn_pR (k := 6) (pc' := 85) ci_2 rfl (Or.inl tw889) (Or.inr ⟨rfl, rfl, rfl, tw889⟩) (Or.inl ⟨_, rfl⟩) dX0_init_82 rfl (fun _ => ?_)
  refine sn_aload_n (v := (some this)) (pc' := 86) dX0_init_85 rfl rfl rfl ?_
  refine sn_gR (k := 0) (pc' := 89) ci_2 rfl (Or.inl tw880) dX0_init_86 rfl (fun v7 => ?_)
  refine sn_aload_n (v := a1) (pc' := 90) dX0_init_89 rfl rfl rfl ?_
  refine sn_cV (r := v7) (st := []) (As := [va_rf a1]) (st2 := (fun _ => [])) (pc' := 93) ci_7 (fun t => c_X6_copyFrom G t a1) cw_X6_copyFrom rfl rfl tw849 tw851 tw850 rfl rfl cat_nil rfl (fun _ => rfl) dX0_init_90 rfl (fun _ => ?_)
  refine sn_iconst (v := (0 : Int32)) (pc' := 94) dX0_init_93 rfl (by decide) ?_
  refine sn_istore_n (v := (0 : Int32)) (L' := [some (va_rf (some this)), some (va_rf a1), some (va_rf a2), some (.int (0 : Int32))]) (pc' := 95) dX0_init_94 rfl rfl rfl rfl ?_
  exact sn_weak (le_s (le_n (le_n (le_s le_e)))) (s_X0_init_95 G LFU this (0 : Int32))
theorem c_X0_init (G : GG) (this : Nat) (a1 : Option Nat) (a2 : Option Nat) : Cal G yX0_init cX0_init 4 none 3 70 (fun _ : Unit => none) (X0_init this a1 a2) [.ref this, va_rf a1, va_rf a2] :=
  Cal.of (by decide) (cat_t (cat_q (cat_q cat_nil))) rfl (sn_weak (le_s (le_s (le_s (le_z le_e)))) (s_X0_init G this a1 a2))
theorem cw_X0_init : CW yX0_init cX0_init 4 none 2 := ⟨tw843, tw21, by decide, by decide +kernel⟩
/-! X11_closeBook -/
theorem dX11_closeBook_0 : decode cX11_closeBook 0 = .ok (.aload_n 0, 1) := by decide +kernel
theorem dX11_closeBook_1 : decode cX11_closeBook 1 = .ok (.getfield 12, 3) := by decide +kernel
theorem dX11_closeBook_4 : decode cX11_closeBook 4 = .ok (.iconst 0, 1) := by decide +kernel
theorem dX11_closeBook_5 : decode cX11_closeBook 5 = .ok (.invokevirtual 85, 3) := by decide +kernel
theorem dX11_closeBook_8 : decode cX11_closeBook 8 = .ok (.iload_n 1, 1) := by decide +kernel
theorem dX11_closeBook_9 : decode cX11_closeBook 9 = .ok (.ifCond .eq 9, 3) := by decide +kernel
theorem dX11_closeBook_12 : decode cX11_closeBook 12 = .ok (.aload_n 0, 1) := by decide +kernel
theorem dX11_closeBook_13 : decode cX11_closeBook 13 = .ok (.iload_n 1, 1) := by decide +kernel
theorem dX11_closeBook_14 : decode cX11_closeBook 14 = .ok (.invokevirtual 71, 3) := by decide +kernel
theorem dX11_closeBook_17 : decode cX11_closeBook 17 = .ok (.ireturn, 1) := by decide +kernel
theorem dX11_closeBook_18 : decode cX11_closeBook 18 = .ok (.aload_n 0, 1) := by decide +kernel
theorem dX11_closeBook_19 : decode cX11_closeBook 19 = .ok (.getfield 137, 3) := by decide +kernel
theorem dX11_closeBook_22 : decode cX11_closeBook 22 = .ok (.aload_n 0, 1) := by decide +kernel
theorem dX11_closeBook_23 : decode cX11_closeBook 23 = .ok (.getfield 57, 3) := by decide +kernel
theorem dX11_closeBook_26 : decode cX11_closeBook 26 = .ok (.arraylength, 1) := by decide +kernel
theorem dX11_closeBook_27 : decode cX11_closeBook 27 = .ok (.if_icmp .lt 10, 3) := by decide +kernel
theorem dX11_closeBook_30 : decode cX11_closeBook 30 = .ok (.aload_n 0, 1) := by decide +kernel
theorem dX11_closeBook_31 : decode cX11_closeBook 31 = .ok (.bipush 9, 2) := by decide +kernel
theorem dX11_closeBook_33 : decode cX11_closeBook 33 = .ok (.invokevirtual 71, 3) := by decide +kernel
theorem dX11_closeBook_36 : decode cX11_closeBook 36 = .ok (.ireturn, 1) := by decide +kernel
theorem dX11_closeBook_37 : decode cX11_closeBook 37 = .ok (.aload_n 0, 1) := by decide +kernel
theorem dX11_closeBook_38 : decode cX11_closeBook 38 = .ok (.getfield 57, 3) := by decide +kernel
theorem dX11_closeBook_41 : decode cX11_closeBook 41 = .ok (.aload_n 0, 1) := by decide +kernel
theorem dX11_closeBook_42 : decode cX11_closeBook 42 = .ok (.getfield 137, 3) := by decide +kernel
theorem dX11_closeBook_45 : decode cX11_closeBook 45 = .ok (.new 55, 3) := by decide +kernel
theorem dX11_closeBook_48 : decode cX11_closeBook 48 = .ok (.dup, 1) := by decide +kernel
theorem dX11_closeBook_49 : decode cX11_closeBook 49 = .ok (.aload_n 0, 1) := by decide +kernel
theorem dX11_closeBook_50 : decode cX11_closeBook 50 = .ok (.getfield 28, 3) := by decide +kernel
theorem dX11_closeBook_53 : decode cX11_closeBook 53 = .ok (.aload_n 0, 1) := by decide +kernel
theorem dX11_closeBook_54 : decode cX11_closeBook 54 = .ok (.getfield 51, 3) := by decide +kernel
theorem dX11_closeBook_57 : decode cX11_closeBook 57 = .ok (.aload_n 0, 1) := by decide +kernel
theorem dX11_closeBook_58 : decode cX11_closeBook 58 = .ok (.getfield 28, 3) := by decide +kernel
theorem dX11_closeBook_61 : decode cX11_closeBook 61 = .ok (.invokevirtual 268, 3) := by decide +kernel
theorem dX11_closeBook_64 : decode cX11_closeBook 64 = .ok (.invokespecial 272, 3) := by decide +kernel
theorem dX11_closeBook_67 : decode cX11_closeBook 67 = .ok (.aastore, 1) := by decide +kernel
theorem dX11_closeBook_68 : decode cX11_closeBook 68 = .ok (.aload_n 0, 1) := by decide +kernel
theorem dX11_closeBook_69 : decode cX11_closeBook 69 = .ok (.aload_n 0, 1) := by decide +kernel
theorem dX11_closeBook_70 : decode cX11_closeBook 70 = .ok (.dup, 1) := by decide +kernel
theorem dX11_closeBook_71 : decode cX11_closeBook 71 = .ok (.getfield 137, 3) := by decide +kernel
theorem dX11_closeBook_74 : decode cX11_closeBook 74 = .ok (.dup_x1, 1) := by decide +kernel
theorem dX11_closeBook_75 : decode cX11_closeBook 75 = .ok (.iconst 1, 1) := by decide +kernel
theorem dX11_closeBook_76 : decode cX11_closeBook 76 = .ok (.iadd, 1) := by decide +kernel
theorem dX11_closeBook_77 : decode cX11_closeBook 77 = .ok (.putfield 137, 3) := by decide +kernel
theorem dX11_closeBook_80 : decode cX11_closeBook 80 = .ok (.invokevirtual 82, 3) := by decide +kernel
theorem dX11_closeBook_83 : decode cX11_closeBook 83 = .ok (.ireturn, 1) := by decide +kernel
def X11_closeBook (this : Nat) (a1 : Int32) : MM Int32 :=
  mb (gR 12 (some this) 0) fun v1 =>
  mb (wc 11 v1 fun t => X10_cutTo t (0 : Int32)) fun _ =>
  if a1 = 0 then (mb (gI 12 (some this) 8) fun v2 =>
  mb (gR 12 (some this) 6) fun v3 =>
  mb (aN v3) fun v4 =>
  if v2 < v4 then (mb (gR 12 (some this) 6) fun v5 =>
  mb (gI 12 (some this) 8) fun v6 =>
  mb (nO 2 7 [.null, .null, .null, .null, .null, .null, .null]) fun v7 =>
  mb (gR 12 (some this) 2) fun v8 =>
  mb (gR 12 (some this) 5) fun v9 =>
  mb (gR 12 (some this) 2) fun v10 =>
  mb (wc 10 v9 fun t => X9_formulaText t v10) fun v11 =>
  mb (wn v7 fun t => X0_init t v8 v11) fun _ =>
  mb (sR v5 v6 v7) fun _ =>
  mb (gI 12 (some this) 8) fun v12 =>
  mb (pI 12 (some this) 8 (v12 + (1 : Int32))) fun _ =>
  mb (wc 12 (some this) fun t => X11_answer t v12) fun v13 =>
  mr v13) else (mb (wc 12 (some this) fun t => X11_refuse t (9 : Int32)) fun v14 =>
  mr v14)) else (mb (wc 12 (some this) fun t => X11_refuse t a1) fun v15 =>
  mr v15)
set_option maxRecDepth 100000 in
set_option maxHeartbeats 4000000 in
theorem s_X11_closeBook (G : GG) (this : Nat) (a1 : Int32) : Sn G yX11_closeBook cX11_closeBook 2 (some FieldType.int) 10 226 (fun v : Int32 => some (.int v)) (X11_closeBook this a1) 0 [some (va_rf (some this)), some (.int a1)] [] := by
  unfold X11_closeBook
  refine sn_aload_n (v := (some this)) (pc' := 1) dX11_closeBook_0 rfl rfl rfl ?_
  refine sn_gR (k := 0) (pc' := 4) ci_12 rfl (Or.inl tw273) dX11_closeBook_1 rfl (fun v1 => ?_)
  refine sn_iconst (v := (0 : Int32)) (pc' := 5) dX11_closeBook_4 rfl (by decide) ?_
  refine sn_cV (r := v1) (st := []) (As := [.int (0 : Int32)]) (st2 := (fun _ => [])) (pc' := 8) ci_11 (fun t => c_X10_cutTo G t (0 : Int32)) cw_X10_cutTo rfl rfl tw334 tw336 tw335 rfl rfl cat_nil rfl (fun _ => rfl) dX11_closeBook_5 rfl (fun _ => ?_)
  refine sn_iload_n (v := a1) (pc' := 9) dX11_closeBook_8 rfl rfl rfl ?_
  refine sn_if_eq (pt := 18) (pf := 12) dX11_closeBook_9 rfl rfl ?_ ?_
  · refine sn_aload_n (v := (some this)) (pc' := 19) dX11_closeBook_18 rfl rfl rfl ?_
    refine sn_gI (k := 8) (pc' := 22) ci_12 rfl (Or.inl tw281) dX11_closeBook_19 rfl (fun v2 => ?_)
    refine sn_aload_n (v := (some this)) (pc' := 23) dX11_closeBook_22 rfl rfl rfl ?_
    refine sn_gR (k := 6) (pc' := 26) ci_12 rfl (Or.inl tw279) dX11_closeBook_23 rfl (fun v3 => ?_)
    refine sn_aN (pc' := 27) dX11_closeBook_26 rfl (fun v4 => ?_)
    refine sn_ic_lt (pt := 37) (pf := 30) dX11_closeBook_27 rfl rfl ?_ ?_
    · refine sn_aload_n (v := (some this)) (pc' := 38) dX11_closeBook_37 rfl rfl rfl ?_
      refine sn_gR (k := 6) (pc' := 41) ci_12 rfl (Or.inl tw279) dX11_closeBook_38 rfl (fun v5 => ?_)
      refine sn_aload_n (v := (some this)) (pc' := 42) dX11_closeBook_41 rfl rfl rfl ?_
      refine sn_gI (k := 8) (pc' := 45) ci_12 rfl (Or.inl tw281) dX11_closeBook_42 rfl (fun v6 => ?_)
      refine sn_nO (pc' := 48) ci_2 tw269 tw583 tw21 (by decide +kernel) dX11_closeBook_45 rfl (fun v7 => ?_)
      refine sn_dup (pc' := 49) dX11_closeBook_48 rfl (cat_rf _) ?_
      refine sn_aload_n (v := (some this)) (pc' := 50) dX11_closeBook_49 rfl rfl rfl ?_
      refine sn_gR (k := 2) (pc' := 53) ci_12 rfl (Or.inl tw275) dX11_closeBook_50 rfl (fun v8 => ?_)
      refine sn_aload_n (v := (some this)) (pc' := 54) dX11_closeBook_53 rfl rfl rfl ?_
      refine sn_gR (k := 5) (pc' := 57) ci_12 rfl (Or.inl tw278) dX11_closeBook_54 rfl (fun v9 => ?_)
      refine sn_aload_n (v := (some this)) (pc' := 58) dX11_closeBook_57 rfl rfl rfl ?_
      refine sn_gR (k := 2) (pc' := 61) ci_12 rfl (Or.inl tw275) dX11_closeBook_58 rfl (fun v10 => ?_)
      refine sn_cV (r := v9) (st := [va_rf v8, va_rf v7, va_rf v7, .int v6, va_rf v5]) (As := [va_rf v10]) (st2 := (fun v => va_rf v :: [va_rf v8, va_rf v7, va_rf v7, .int v6, va_rf v5])) (pc' := 64) ci_10 (fun t => c_X9_formulaText G t v10) cw_X9_formulaText rfl rfl tw584 tw586 tw585 rfl rfl (cat_q (cat_q (cat_q (cat_i (cat_q cat_nil))))) rfl (fun _ => rfl) dX11_closeBook_61 rfl (fun v11 => ?_)
      refine sn_cI (r := v7) (st := [va_rf v7, .int v6, va_rf v5]) (As := [va_rf v8, va_rf v11]) (st2 := (fun _ => [va_rf v7, .int v6, va_rf v5])) (pc' := 67) (fun t => c_X0_init G t v8 v11) cw_X0_init rfl rfl (Or.inl tw841) tw842 rfl rfl rfl (cat_q (cat_i (cat_q cat_nil))) rfl (fun _ => rfl) dX11_closeBook_64 rfl (fun _ => ?_)
      refine sn_sR (pc' := 68) dX11_closeBook_67 rfl (fun _ => ?_)
      refine sn_aload_n (v := (some this)) (pc' := 69) dX11_closeBook_68 rfl rfl rfl ?_
      refine sn_aload_n (v := (some this)) (pc' := 70) dX11_closeBook_69 rfl rfl rfl ?_
      refine sn_dup (pc' := 71) dX11_closeBook_70 rfl (cat_rf _) ?_
      refine sn_gI (k := 8) (pc' := 74) ci_12 rfl (Or.inl tw281) dX11_closeBook_71 rfl (fun v12 => ?_)
      refine sn_dup_x1 (pc' := 75) dX11_closeBook_74 rfl rfl (cat_rf _) ?_
      refine sn_iconst (v := (1 : Int32)) (pc' := 76) dX11_closeBook_75 rfl (by decide) ?_
      refine sn_iadd (pc' := 77) dX11_closeBook_76 rfl ?_
      refine sn_pI (k := 8) (pc' := 80) ci_12 rfl (Or.inl tw281) (Or.inl rfl) rfl dX11_closeBook_77 rfl (fun _ => ?_)
      refine sn_cV (r := (some this)) (st := []) (As := [.int v12]) (st2 := (fun v => .int v :: [])) (pc' := 83) ci_12 (fun t => c_X11_answer G t v12) cw_X11_answer rfl rfl tw326 pw1 tw328 rfl rfl cat_nil rfl (fun _ => rfl) dX11_closeBook_80 rfl (fun v13 => ?_)
      exact sn_iret dX11_closeBook_83 rfl rfl
    · refine sn_aload_n (v := (some this)) (pc' := 31) dX11_closeBook_30 rfl rfl rfl ?_
      refine sn_bipush (v := (9 : Int32)) (pc' := 33) dX11_closeBook_31 rfl (by decide) ?_
      refine sn_cV (r := (some this)) (st := []) (As := [.int (9 : Int32)]) (st2 := (fun v => .int v :: [])) (pc' := 36) ci_12 (fun t => c_X11_refuse G t (9 : Int32)) cw_X11_refuse rfl rfl tw318 pw0 tw320 rfl rfl cat_nil rfl (fun _ => rfl) dX11_closeBook_33 rfl (fun v14 => ?_)
      exact sn_iret dX11_closeBook_36 rfl rfl
  · refine sn_aload_n (v := (some this)) (pc' := 13) dX11_closeBook_12 rfl rfl rfl ?_
    refine sn_iload_n (v := a1) (pc' := 14) dX11_closeBook_13 rfl rfl rfl ?_
    refine sn_cV (r := (some this)) (st := []) (As := [.int a1]) (st2 := (fun v => .int v :: [])) (pc' := 17) ci_12 (fun t => c_X11_refuse G t a1) cw_X11_refuse rfl rfl tw318 pw0 tw320 rfl rfl cat_nil rfl (fun _ => rfl) dX11_closeBook_14 rfl (fun v15 => ?_)
    exact sn_iret dX11_closeBook_17 rfl rfl
theorem c_X11_closeBook (G : GG) (this : Nat) (a1 : Int32) : Cal G yX11_closeBook cX11_closeBook 2 (some FieldType.int) 10 226 (fun v : Int32 => some (.int v)) (X11_closeBook this a1) [.ref this, .int a1] :=
  Cal.of (by decide) (cat_t (cat_i cat_nil)) rfl (sn_weak (le_s (le_s le_e)) (s_X11_closeBook G this a1))
theorem cw_X11_closeBook : CW yX11_closeBook cX11_closeBook 2 (some FieldType.int) 1 := ⟨tw582, tw1, by decide, by decide +kernel⟩
/-! X11_book -/
theorem dX11_book_0 : decode cX11_book 0 = .ok (.aload_n 0, 1) := by decide +kernel
theorem dX11_book_1 : decode cX11_book 1 = .ok (.iconst 0, 1) := by decide +kernel
theorem dX11_book_2 : decode cX11_book 2 = .ok (.putfield 88, 3) := by decide +kernel
theorem dX11_book_5 : decode cX11_book 5 = .ok (.aload_n 0, 1) := by decide +kernel
theorem dX11_book_6 : decode cX11_book 6 = .ok (.getfield 21, 3) := by decide +kernel
theorem dX11_book_9 : decode cX11_book 9 = .ok (.invokevirtual 91, 3) := by decide +kernel
theorem dX11_book_12 : decode cX11_book 12 = .ok (.ifCond .eq 10, 3) := by decide +kernel
theorem dX11_book_15 : decode cX11_book 15 = .ok (.aload_n 0, 1) := by decide +kernel
theorem dX11_book_16 : decode cX11_book 16 = .ok (.invokevirtual 95, 3) := by decide +kernel
theorem dX11_book_19 : decode cX11_book 19 = .ok (.goto 4, 3) := by decide +kernel
theorem dX11_book_22 : decode cX11_book 22 = .ok (.iconst 2, 1) := by decide +kernel
theorem dX11_book_23 : decode cX11_book 23 = .ok (.istore_n 1, 1) := by decide +kernel
theorem dX11_book_24 : decode cX11_book 24 = .ok (.aload_n 0, 1) := by decide +kernel
theorem dX11_book_25 : decode cX11_book 25 = .ok (.iload_n 1, 1) := by decide +kernel
theorem dX11_book_26 : decode cX11_book 26 = .ok (.invokevirtual 99, 3) := by decide +kernel
theorem dX11_book_29 : decode cX11_book 29 = .ok (.ireturn, 1) := by decide +kernel
def X11_book_23  (this : Nat) (y0 : Int32) : MM Int32 :=
  mb (wc 12 (some this) fun t => X11_closeBook t y0) fun v1 =>
  mr v1
def X11_book (this : Nat) : MM Int32 :=
  mb (pI 12 (some this) 10 (0 : Int32)) fun _ =>
  mb (gR 12 (some this) 1) fun v1 =>
  mb (wc 8 v1 fun t => X7_readsFormula t ) fun v2 =>
  if v2 = 0 then ((X11_book_23 this (2 : Int32))) else (mb (wc 12 (some this) fun t => X11_draftFormula t ) fun v3 =>
  (X11_book_23 this v3))
set_option maxRecDepth 100000 in
set_option maxHeartbeats 4000000 in
theorem s_X11_book_23 (G : GG)   (this : Nat) (y0 : Int32) : Sn G yX11_book cX11_book 2 (some FieldType.int) 11 247 (fun v : Int32 => some (.int v)) (X11_book_23  this y0) 23 [some (va_rf (some this)), none] [.int y0] := by
  unfold X11_book_23
  refine sn_istore_n (v := y0) (L' := [some (va_rf (some this)), some (.int y0)]) (pc' := 24) dX11_book_23 rfl rfl rfl rfl ?_
  refine sn_aload_n (v := (some this)) (pc' := 25) dX11_book_24 rfl rfl rfl ?_
  refine sn_iload_n (v := y0) (pc' := 26) dX11_book_25 rfl rfl rfl ?_
  refine sn_cV (r := (some this)) (st := []) (As := [.int y0]) (st2 := (fun v => .int v :: [])) (pc' := 29) ci_12 (fun t => c_X11_closeBook G t y0) cw_X11_closeBook rfl rfl tw579 pw16 tw581 rfl rfl cat_nil rfl (fun _ => rfl) dX11_book_26 rfl (fun v1 => ?_)
  exact sn_iret dX11_book_29 rfl rfl
set_option maxRecDepth 100000 in
set_option maxHeartbeats 4000000 in
theorem s_X11_book (G : GG) (this : Nat) : Sn G yX11_book cX11_book 2 (some FieldType.int) 11 247 (fun v : Int32 => some (.int v)) (X11_book this) 0 [some (va_rf (some this)), none] [] := by
  unfold X11_book
  refine sn_aload_n (v := (some this)) (pc' := 1) dX11_book_0 rfl rfl rfl ?_
  refine sn_iconst (v := (0 : Int32)) (pc' := 2) dX11_book_1 rfl (by decide) ?_
  refine sn_pI (k := 10) (pc' := 5) ci_12 rfl (Or.inl tw283) (Or.inl rfl) rfl dX11_book_2 rfl (fun _ => ?_)
  refine sn_aload_n (v := (some this)) (pc' := 6) dX11_book_5 rfl rfl rfl ?_
  refine sn_gR (k := 1) (pc' := 9) ci_12 rfl (Or.inl tw274) dX11_book_6 rfl (fun v1 => ?_)
  refine sn_cV (r := v1) (st := []) (As := []) (st2 := (fun v => .int v :: [])) (pc' := 12) ci_8 (fun t => c_X7_readsFormula G t ) cw_X7_readsFormula rfl rfl tw342 tw344 tw343 rfl rfl cat_nil rfl (fun _ => rfl) dX11_book_9 rfl (fun v2 => ?_)
  refine sn_if_eq (pt := 22) (pf := 15) dX11_book_12 rfl rfl ?_ ?_
  · refine sn_iconst (v := (2 : Int32)) (pc' := 23) dX11_book_22 rfl (by decide) ?_
    exact sn_weak (le_s (le_n le_e)) (s_X11_book_23 G this (2 : Int32))
  · refine sn_aload_n (v := (some this)) (pc' := 16) dX11_book_15 rfl rfl rfl ?_
    refine sn_cV (r := (some this)) (st := []) (As := []) (st2 := (fun v => .int v :: [])) (pc' := 19) ci_12 (fun t => c_X11_draftFormula G t ) cw_X11_draftFormula rfl rfl tw516 pw13 tw518 rfl rfl cat_nil rfl (fun _ => rfl) dX11_book_16 rfl (fun v3 => ?_)
    refine sn_goto (pc' := 23) dX11_book_19 rfl ?_
    exact sn_weak (le_s (le_n le_e)) (s_X11_book_23 G this v3)
theorem c_X11_book (G : GG) (this : Nat) : Cal G yX11_book cX11_book 2 (some FieldType.int) 11 247 (fun v : Int32 => some (.int v)) (X11_book this) [.ref this] :=
  Cal.of (by decide) (cat_t cat_nil) rfl (sn_weak (le_s (le_z le_e)) (s_X11_book G this))
theorem cw_X11_book : CW yX11_book cX11_book 2 (some FieldType.int) 0 := ⟨tw341, tw1, by decide, by decide +kernel⟩
/-! X11_bookAt -/
theorem dX11_bookAt_0 : decode cX11_bookAt 0 = .ok (.iload_n 1, 1) := by decide +kernel
theorem dX11_bookAt_1 : decode cX11_bookAt 1 = .ok (.ifCond .lt 20, 3) := by decide +kernel
theorem dX11_bookAt_4 : decode cX11_bookAt 4 = .ok (.iload_n 1, 1) := by decide +kernel
theorem dX11_bookAt_5 : decode cX11_bookAt 5 = .ok (.aload_n 0, 1) := by decide +kernel
theorem dX11_bookAt_6 : decode cX11_bookAt 6 = .ok (.getfield 137, 3) := by decide +kernel
theorem dX11_bookAt_9 : decode cX11_bookAt 9 = .ok (.if_icmp .ge 12, 3) := by decide +kernel
theorem dX11_bookAt_12 : decode cX11_bookAt 12 = .ok (.iload_n 1, 1) := by decide +kernel
theorem dX11_bookAt_13 : decode cX11_bookAt 13 = .ok (.aload_n 0, 1) := by decide +kernel
theorem dX11_bookAt_14 : decode cX11_bookAt 14 = .ok (.getfield 57, 3) := by decide +kernel
theorem dX11_bookAt_17 : decode cX11_bookAt 17 = .ok (.arraylength, 1) := by decide +kernel
theorem dX11_bookAt_18 : decode cX11_bookAt 18 = .ok (.if_icmp .lt 7, 3) := by decide +kernel
theorem dX11_bookAt_21 : decode cX11_bookAt 21 = .ok (.aconst_null, 1) := by decide +kernel
theorem dX11_bookAt_22 : decode cX11_bookAt 22 = .ok (.goto 9, 3) := by decide +kernel
theorem dX11_bookAt_25 : decode cX11_bookAt 25 = .ok (.aload_n 0, 1) := by decide +kernel
theorem dX11_bookAt_26 : decode cX11_bookAt 26 = .ok (.getfield 57, 3) := by decide +kernel
theorem dX11_bookAt_29 : decode cX11_bookAt 29 = .ok (.iload_n 1, 1) := by decide +kernel
theorem dX11_bookAt_30 : decode cX11_bookAt 30 = .ok (.aaload, 1) := by decide +kernel
theorem dX11_bookAt_31 : decode cX11_bookAt 31 = .ok (.areturn, 1) := by decide +kernel
def X11_bookAt (this : Nat) (a1 : Int32) : MM (Option Nat) :=
  if a1 < 0 then (mr none) else (mb (gI 12 (some this) 8) fun v1 =>
  if v1 ≤ a1 then (mr none) else (mb (gR 12 (some this) 6) fun v2 =>
  mb (aN v2) fun v3 =>
  if a1 < v3 then (mb (gR 12 (some this) 6) fun v4 =>
  mb (aR v4 a1) fun v5 =>
  mr v5) else (mr none)))
set_option maxRecDepth 100000 in
set_option maxHeartbeats 4000000 in
theorem s_X11_bookAt (G : GG) (this : Nat) (a1 : Int32) : Sn G yX11_bookAt cX11_bookAt 2 (some (FieldType.object "LeafFormula$Book")) 0 0 (fun v : Option Nat => some (va_rf v)) (X11_bookAt this a1) 0 [some (va_rf (some this)), some (.int a1)] [] := by
  unfold X11_bookAt
  refine sn_iload_n (v := a1) (pc' := 1) dX11_bookAt_0 rfl rfl rfl ?_
  refine sn_if_lt (pt := 21) (pf := 4) dX11_bookAt_1 rfl rfl ?_ ?_
  · refine sn_null (pc' := 22) dX11_bookAt_21 rfl ?_
    refine sn_goto (pc' := 31) dX11_bookAt_22 rfl ?_
    exact sn_aret dX11_bookAt_31 rfl (Or.inl ⟨_, rfl⟩)
  · refine sn_iload_n (v := a1) (pc' := 5) dX11_bookAt_4 rfl rfl rfl ?_
    refine sn_aload_n (v := (some this)) (pc' := 6) dX11_bookAt_5 rfl rfl rfl ?_
    refine sn_gI (k := 8) (pc' := 9) ci_12 rfl (Or.inl tw281) dX11_bookAt_6 rfl (fun v1 => ?_)
    refine sn_ic_ge (pt := 21) (pf := 12) dX11_bookAt_9 rfl rfl ?_ ?_
    · refine sn_null (pc' := 22) dX11_bookAt_21 rfl ?_
      refine sn_goto (pc' := 31) dX11_bookAt_22 rfl ?_
      exact sn_aret dX11_bookAt_31 rfl (Or.inl ⟨_, rfl⟩)
    · refine sn_iload_n (v := a1) (pc' := 13) dX11_bookAt_12 rfl rfl rfl ?_
      refine sn_aload_n (v := (some this)) (pc' := 14) dX11_bookAt_13 rfl rfl rfl ?_
      refine sn_gR (k := 6) (pc' := 17) ci_12 rfl (Or.inl tw279) dX11_bookAt_14 rfl (fun v2 => ?_)
      refine sn_aN (pc' := 18) dX11_bookAt_17 rfl (fun v3 => ?_)
      refine sn_ic_lt (pt := 25) (pf := 21) dX11_bookAt_18 rfl rfl ?_ ?_
      · refine sn_aload_n (v := (some this)) (pc' := 26) dX11_bookAt_25 rfl rfl rfl ?_
        refine sn_gR (k := 6) (pc' := 29) ci_12 rfl (Or.inl tw279) dX11_bookAt_26 rfl (fun v4 => ?_)
        refine sn_iload_n (v := a1) (pc' := 30) dX11_bookAt_29 rfl rfl rfl ?_
        refine sn_aR (pc' := 31) dX11_bookAt_30 rfl (fun v5 => ?_)
        exact sn_aret dX11_bookAt_31 rfl (Or.inl ⟨_, rfl⟩)
      · refine sn_null (pc' := 22) dX11_bookAt_21 rfl ?_
        refine sn_goto (pc' := 31) dX11_bookAt_22 rfl ?_
        exact sn_aret dX11_bookAt_31 rfl (Or.inl ⟨_, rfl⟩)
theorem c_X11_bookAt (G : GG) (this : Nat) (a1 : Int32) : Cal G yX11_bookAt cX11_bookAt 2 (some (FieldType.object "LeafFormula$Book")) 0 0 (fun v : Option Nat => some (va_rf v)) (X11_bookAt this a1) [.ref this, .int a1] :=
  Cal.of (by decide) (cat_t (cat_i cat_nil)) rfl (sn_weak (le_s (le_s le_e)) (s_X11_bookAt G this a1))
theorem cw_X11_bookAt : CW yX11_bookAt cX11_bookAt 2 (some (FieldType.object "LeafFormula$Book")) 1 := ⟨tw913, tw1, by decide, by decide +kernel⟩
/-! X7_readsChanges -/
theorem dX7_readsChanges_0 : decode cX7_readsChanges 0 = .ok (.aload_n 0, 1) := by decide +kernel
theorem dX7_readsChanges_1 : decode cX7_readsChanges 1 = .ok (.invokevirtual 33, 3) := by decide +kernel
theorem dX7_readsChanges_4 : decode cX7_readsChanges 4 = .ok (.aload_n 0, 1) := by decide +kernel
theorem dX7_readsChanges_5 : decode cX7_readsChanges 5 = .ok (.invokevirtual 44, 3) := by decide +kernel
theorem dX7_readsChanges_8 : decode cX7_readsChanges 8 = .ok (.ifCond .eq 15, 3) := by decide +kernel
theorem dX7_readsChanges_11 : decode cX7_readsChanges 11 = .ok (.aload_n 0, 1) := by decide +kernel
theorem dX7_readsChanges_12 : decode cX7_readsChanges 12 = .ok (.iconst 0, 1) := by decide +kernel
theorem dX7_readsChanges_13 : decode cX7_readsChanges 13 = .ok (.invokevirtual 47, 3) := by decide +kernel
theorem dX7_readsChanges_16 : decode cX7_readsChanges 16 = .ok (.ifCond .eq 7, 3) := by decide +kernel
theorem dX7_readsChanges_19 : decode cX7_readsChanges 19 = .ok (.iconst 1, 1) := by decide +kernel
theorem dX7_readsChanges_20 : decode cX7_readsChanges 20 = .ok (.goto 4, 3) := by decide +kernel
theorem dX7_readsChanges_23 : decode cX7_readsChanges 23 = .ok (.iconst 0, 1) := by decide +kernel
theorem dX7_readsChanges_24 : decode cX7_readsChanges 24 = .ok (.ireturn, 1) := by decide +kernel
def X7_readsChanges (this : Nat) : MM Int32 :=
  mb (wc 8 (some this) fun t => X7_begin t ) fun _ =>
  mb (wc 8 (some this) fun t => X7_readsChangeList t ) fun v1 =>
  if v1 = 0 then (mr (0 : Int32)) else (mb (wc 8 (some this) fun t => X7_takes t (0 : Int32)) fun v2 =>
  if v2 = 0 then (mr (0 : Int32)) else (mr (1 : Int32)))
set_option maxRecDepth 100000 in
set_option maxHeartbeats 4000000 in
theorem s_X7_readsChanges (G : GG) (this : Nat) : Sn G yX7_readsChanges cX7_readsChanges 1 (some FieldType.boolean) 8 184 (fun v : Int32 => some (.int v)) (X7_readsChanges this) 0 [some (va_rf (some this))] [] := by
  unfold X7_readsChanges
  refine sn_aload_n (v := (some this)) (pc' := 1) dX7_readsChanges_0 rfl rfl rfl ?_
  refine sn_cV (r := (some this)) (st := []) (As := []) (st2 := (fun _ => [])) (pc' := 4) ci_8 (fun t => c_X7_begin G t ) cw_X7_begin rfl rfl tw346 pw2 tw348 rfl rfl cat_nil rfl (fun _ => rfl) dX7_readsChanges_1 rfl (fun _ => ?_)
  refine sn_aload_n (v := (some this)) (pc' := 5) dX7_readsChanges_4 rfl rfl rfl ?_
  refine sn_cV (r := (some this)) (st := []) (As := []) (st2 := (fun v => .int v :: [])) (pc' := 8) ci_8 (fun t => c_X7_readsChangeList G t ) cw_X7_readsChangeList rfl rfl tw504 pw11 tw506 rfl rfl cat_nil rfl (fun _ => rfl) dX7_readsChanges_5 rfl (fun v1 => ?_)
  refine sn_if_eq (pt := 23) (pf := 11) dX7_readsChanges_8 rfl rfl ?_ ?_
  · refine sn_iconst (v := (0 : Int32)) (pc' := 24) dX7_readsChanges_23 rfl (by decide) ?_
    exact sn_iret dX7_readsChanges_24 rfl (by decide)
  · refine sn_aload_n (v := (some this)) (pc' := 12) dX7_readsChanges_11 rfl rfl rfl ?_
    refine sn_iconst (v := (0 : Int32)) (pc' := 13) dX7_readsChanges_12 rfl (by decide) ?_
    refine sn_cV (r := (some this)) (st := []) (As := [.int (0 : Int32)]) (st2 := (fun v => .int v :: [])) (pc' := 16) ci_8 (fun t => c_X7_takes G t (0 : Int32)) cw_X7_takes rfl rfl tw491 pw9 tw493 rfl rfl cat_nil rfl (fun _ => rfl) dX7_readsChanges_13 rfl (fun v2 => ?_)
    refine sn_if_eq (pt := 23) (pf := 19) dX7_readsChanges_16 rfl rfl ?_ ?_
    · refine sn_iconst (v := (0 : Int32)) (pc' := 24) dX7_readsChanges_23 rfl (by decide) ?_
      exact sn_iret dX7_readsChanges_24 rfl (by decide)
    · refine sn_iconst (v := (1 : Int32)) (pc' := 20) dX7_readsChanges_19 rfl (by decide) ?_
      refine sn_goto (pc' := 24) dX7_readsChanges_20 rfl ?_
      exact sn_iret dX7_readsChanges_24 rfl (by decide)
theorem c_X7_readsChanges (G : GG) (this : Nat) : Cal G yX7_readsChanges cX7_readsChanges 1 (some FieldType.boolean) 8 184 (fun v : Int32 => some (.int v)) (X7_readsChanges this) [.ref this] :=
  Cal.of (by decide) (cat_t cat_nil) rfl (sn_weak (le_s le_e) (s_X7_readsChanges G this))
theorem cw_X7_readsChanges : CW yX7_readsChanges cX7_readsChanges 1 (some FieldType.boolean) 0 := ⟨tw917, tw5, by decide, by decide +kernel⟩
/-! X11_draftChanges -/
theorem dX11_draftChanges_0 : decode cX11_draftChanges 0 = .ok (.aload_n 0, 1) := by decide +kernel
theorem dX11_draftChanges_1 : decode cX11_draftChanges 1 = .ok (.getfield 28, 3) := by decide +kernel
theorem dX11_draftChanges_4 : decode cX11_draftChanges 4 = .ok (.aload_n 1, 1) := by decide +kernel
theorem dX11_draftChanges_5 : decode cX11_draftChanges 5 = .ok (.getfield 143, 3) := by decide +kernel
theorem dX11_draftChanges_8 : decode cX11_draftChanges 8 = .ok (.invokevirtual 252, 3) := by decide +kernel
theorem dX11_draftChanges_11 : decode cX11_draftChanges 11 = .ok (.aload_n 0, 1) := by decide +kernel
theorem dX11_draftChanges_12 : decode cX11_draftChanges 12 = .ok (.aload_n 0, 1) := by decide +kernel
theorem dX11_draftChanges_13 : decode cX11_draftChanges 13 = .ok (.getfield 21, 3) := by decide +kernel
theorem dX11_draftChanges_16 : decode cX11_draftChanges 16 = .ok (.getfield 126, 3) := by decide +kernel
theorem dX11_draftChanges_19 : decode cX11_draftChanges 19 = .ok (.iconst 0, 1) := by decide +kernel
theorem dX11_draftChanges_20 : decode cX11_draftChanges 20 = .ok (.aload_n 0, 1) := by decide +kernel
theorem dX11_draftChanges_21 : decode cX11_draftChanges 21 = .ok (.getfield 21, 3) := by decide +kernel
theorem dX11_draftChanges_24 : decode cX11_draftChanges 24 = .ok (.getfield 126, 3) := by decide +kernel
theorem dX11_draftChanges_27 : decode cX11_draftChanges 27 = .ok (.invokevirtual 256, 3) := by decide +kernel
theorem dX11_draftChanges_30 : decode cX11_draftChanges 30 = .ok (.aload_n 0, 1) := by decide +kernel
theorem dX11_draftChanges_31 : decode cX11_draftChanges 31 = .ok (.getfield 28, 3) := by decide +kernel
theorem dX11_draftChanges_34 : decode cX11_draftChanges 34 = .ok (.invokestatic 261, 3) := by decide +kernel
theorem dX11_draftChanges_37 : decode cX11_draftChanges 37 = .ok (.putfield 88, 3) := by decide +kernel
theorem dX11_draftChanges_40 : decode cX11_draftChanges 40 = .ok (.aload_n 0, 1) := by decide +kernel
theorem dX11_draftChanges_41 : decode cX11_draftChanges 41 = .ok (.invokevirtual 249, 3) := by decide +kernel
theorem dX11_draftChanges_44 : decode cX11_draftChanges 44 = .ok (.ireturn, 1) := by decide +kernel
def X11_draftChanges (this : Nat) (a1 : Option Nat) : MM Int32 :=
  mb (gR 12 (some this) 2) fun v1 =>
  mb (gR 2 a1 0) fun v2 =>
  mb (wc 7 v1 fun t => X6_copyFrom t v2) fun _ =>
  mb (gR 12 (some this) 1) fun v3 =>
  mb (gR 8 v3 2) fun v4 =>
  mb (gR 12 (some this) 1) fun v5 =>
  mb (gR 8 v5 2) fun v6 =>
  mb (wc 6 v6 fun t => X5_amount t ) fun v7 =>
  mb (gR 12 (some this) 2) fun v8 =>
  mb (X3_ofChanges v4 (0 : Int32) v7 v8) fun v9 =>
  mb (pI 12 (some this) 10 v9) fun _ =>
  mb (wc 12 (some this) fun t => X11_refusalOfDraft t ) fun v10 =>
  mr v10
set_option maxRecDepth 100000 in
set_option maxHeartbeats 4000000 in
theorem s_X11_draftChanges (G : GG) (this : Nat) (a1 : Option Nat) : Sn G yX11_draftChanges cX11_draftChanges 2 (some FieldType.int) 3 68 (fun v : Int32 => some (.int v)) (X11_draftChanges this a1) 0 [some (va_rf (some this)), some (va_rf a1)] [] := by
  unfold X11_draftChanges
  refine sn_aload_n (v := (some this)) (pc' := 1) dX11_draftChanges_0 rfl rfl rfl ?_
  refine sn_gR (k := 2) (pc' := 4) ci_12 rfl (Or.inl tw275) dX11_draftChanges_1 rfl (fun v1 => ?_)
  refine sn_aload_n (v := a1) (pc' := 5) dX11_draftChanges_4 rfl rfl rfl ?_
  refine sn_gR (k := 0) (pc' := 8) ci_2 rfl (Or.inr ⟨_, nw881⟩) dX11_draftChanges_5 rfl (fun v2 => ?_)
  refine sn_cV (r := v1) (st := []) (As := [va_rf v2]) (st2 := (fun _ => [])) (pc' := 11) ci_7 (fun t => c_X6_copyFrom G t v2) cw_X6_copyFrom rfl rfl tw922 tw851 tw850 rfl rfl cat_nil rfl (fun _ => rfl) dX11_draftChanges_8 rfl (fun _ => ?_)
  refine sn_aload_n (v := (some this)) (pc' := 12) dX11_draftChanges_11 rfl rfl rfl ?_
  refine sn_aload_n (v := (some this)) (pc' := 13) dX11_draftChanges_12 rfl rfl rfl ?_
  refine sn_gR (k := 1) (pc' := 16) ci_12 rfl (Or.inl tw274) dX11_draftChanges_13 rfl (fun v3 => ?_)
  refine sn_gR (k := 2) (pc' := 19) ci_8 rfl (Or.inr ⟨_, nw162⟩) dX11_draftChanges_16 rfl (fun v4 => ?_)
  refine sn_iconst (v := (0 : Int32)) (pc' := 20) dX11_draftChanges_19 rfl (by decide) ?_
  refine sn_aload_n (v := (some this)) (pc' := 21) dX11_draftChanges_20 rfl rfl rfl ?_
  refine sn_gR (k := 1) (pc' := 24) ci_12 rfl (Or.inl tw274) dX11_draftChanges_21 rfl (fun v5 => ?_)
  refine sn_gR (k := 2) (pc' := 27) ci_8 rfl (Or.inr ⟨_, nw162⟩) dX11_draftChanges_24 rfl (fun v6 => ?_)
  refine sn_cV (r := v6) (st := [.int (0 : Int32), va_rf v4, va_rf (some this)]) (As := []) (st2 := (fun v => .int v :: [.int (0 : Int32), va_rf v4, va_rf (some this)])) (pc' := 30) ci_6 (fun t => c_X5_amount G t ) cw_X5_amount rfl rfl tw923 tw514 tw513 rfl rfl (cat_i (cat_q (cat_q cat_nil))) rfl (fun _ => rfl) dX11_draftChanges_27 rfl (fun v7 => ?_)
  refine sn_aload_n (v := (some this)) (pc' := 31) dX11_draftChanges_30 rfl rfl rfl ?_
  refine sn_gR (k := 2) (pc' := 34) ci_12 rfl (Or.inl tw275) dX11_draftChanges_31 rfl (fun v8 => ?_)
  refine sn_cS (st := [va_rf (some this)]) (As := [va_rf v4, .int (0 : Int32), .int v7, va_rf v8]) (st2 := (fun v => .int v :: [va_rf (some this)])) (pc' := 37) (c_X3_ofChanges G v4 (0 : Int32) v7 v8) cw_X3_ofChanges rfl rfl tw924 tw556 rfl rfl (cat_q cat_nil) rfl (fun _ => rfl) dX11_draftChanges_34 rfl (fun v9 => ?_)
  refine sn_pI (k := 10) (pc' := 40) ci_12 rfl (Or.inl tw283) (Or.inl rfl) rfl dX11_draftChanges_37 rfl (fun _ => ?_)
  refine sn_aload_n (v := (some this)) (pc' := 41) dX11_draftChanges_40 rfl rfl rfl ?_
  refine sn_cV (r := (some this)) (st := []) (As := []) (st2 := (fun v => .int v :: [])) (pc' := 44) ci_12 (fun t => c_X11_refusalOfDraft G t ) cw_X11_refusalOfDraft rfl rfl tw567 pw15 tw569 rfl rfl cat_nil rfl (fun _ => rfl) dX11_draftChanges_41 rfl (fun v10 => ?_)
  exact sn_iret dX11_draftChanges_44 rfl rfl
theorem c_X11_draftChanges (G : GG) (this : Nat) (a1 : Option Nat) : Cal G yX11_draftChanges cX11_draftChanges 2 (some FieldType.int) 3 68 (fun v : Int32 => some (.int v)) (X11_draftChanges this a1) [.ref this, va_rf a1] :=
  Cal.of (by decide) (cat_t (cat_q cat_nil)) rfl (sn_weak (le_s (le_s le_e)) (s_X11_draftChanges G this a1))
theorem cw_X11_draftChanges : CW yX11_draftChanges cX11_draftChanges 2 (some FieldType.int) 1 := ⟨tw921, tw1, by decide, by decide +kernel⟩
/-! X11_change -/
theorem dX11_change_0 : decode cX11_change 0 = .ok (.aload_n 0, 1) := by decide +kernel
theorem dX11_change_1 : decode cX11_change 1 = .ok (.iload_n 1, 1) := by decide +kernel
theorem dX11_change_2 : decode cX11_change 2 = .ok (.invokevirtual 102, 3) := by decide +kernel
theorem dX11_change_5 : decode cX11_change 5 = .ok (.astore_n 2, 1) := by decide +kernel
theorem dX11_change_6 : decode cX11_change 6 = .ok (.aload_n 2, 1) := by decide +kernel
theorem dX11_change_7 : decode cX11_change 7 = .ok (.ifnonnull 9, 3) := by decide +kernel
theorem dX11_change_10 : decode cX11_change 10 = .ok (.aload_n 0, 1) := by decide +kernel
theorem dX11_change_11 : decode cX11_change 11 = .ok (.iconst 1, 1) := by decide +kernel
theorem dX11_change_12 : decode cX11_change 12 = .ok (.invokevirtual 99, 3) := by decide +kernel
theorem dX11_change_15 : decode cX11_change 15 = .ok (.ireturn, 1) := by decide +kernel
theorem dX11_change_16 : decode cX11_change 16 = .ok (.aload_n 0, 1) := by decide +kernel
theorem dX11_change_17 : decode cX11_change 17 = .ok (.iconst 0, 1) := by decide +kernel
theorem dX11_change_18 : decode cX11_change 18 = .ok (.putfield 88, 3) := by decide +kernel
theorem dX11_change_21 : decode cX11_change 21 = .ok (.aload_n 0, 1) := by decide +kernel
theorem dX11_change_22 : decode cX11_change 22 = .ok (.getfield 21, 3) := by decide +kernel
theorem dX11_change_25 : decode cX11_change 25 = .ok (.invokevirtual 106, 3) := by decide +kernel
theorem dX11_change_28 : decode cX11_change 28 = .ok (.ifCond .eq 11, 3) := by decide +kernel
theorem dX11_change_31 : decode cX11_change 31 = .ok (.aload_n 0, 1) := by decide +kernel
theorem dX11_change_32 : decode cX11_change 32 = .ok (.aload_n 2, 1) := by decide +kernel
theorem dX11_change_33 : decode cX11_change 33 = .ok (.invokevirtual 109, 3) := by decide +kernel
theorem dX11_change_36 : decode cX11_change 36 = .ok (.goto 4, 3) := by decide +kernel
theorem dX11_change_39 : decode cX11_change 39 = .ok (.iconst 2, 1) := by decide +kernel
theorem dX11_change_40 : decode cX11_change 40 = .ok (.istore_n 3, 1) := by decide +kernel
theorem dX11_change_41 : decode cX11_change 41 = .ok (.aload_n 0, 1) := by decide +kernel
theorem dX11_change_42 : decode cX11_change 42 = .ok (.iload_n 3, 1) := by decide +kernel
theorem dX11_change_43 : decode cX11_change 43 = .ok (.invokevirtual 99, 3) := by decide +kernel
theorem dX11_change_46 : decode cX11_change 46 = .ok (.ireturn, 1) := by decide +kernel
def X11_change_40  (this : Nat) (y0 : Int32) : MM Int32 :=
  mb (wc 12 (some this) fun t => X11_closeBook t y0) fun v1 =>
  mr v1
def X11_change (this : Nat) (a1 : Int32) : MM Int32 :=
  mb (wc 12 (some this) fun t => X11_bookAt t a1) fun v1 =>
  if v1 = none then (mb (wc 12 (some this) fun t => X11_closeBook t (1 : Int32)) fun v2 =>
  mr v2) else (mb (pI 12 (some this) 10 (0 : Int32)) fun _ =>
  mb (gR 12 (some this) 1) fun v3 =>
  mb (wc 8 v3 fun t => X7_readsChanges t ) fun v4 =>
  if v4 = 0 then ((X11_change_40 this (2 : Int32))) else (mb (wc 12 (some this) fun t => X11_draftChanges t v1) fun v5 =>
  (X11_change_40 this v5)))
set_option maxRecDepth 100000 in
set_option maxHeartbeats 4000000 in
theorem s_X11_change_40 (G : GG)   (this : Nat) (y0 : Int32) : Sn G yX11_change cX11_change 4 (some FieldType.int) 11 247 (fun v : Int32 => some (.int v)) (X11_change_40  this y0) 40 [some (va_rf (some this)), none, none, none] [.int y0] := by
  unfold X11_change_40
  refine sn_istore_n (v := y0) (L' := [some (va_rf (some this)), none, none, some (.int y0)]) (pc' := 41) dX11_change_40 rfl rfl rfl rfl ?_
  refine sn_aload_n (v := (some this)) (pc' := 42) dX11_change_41 rfl rfl rfl ?_
  refine sn_iload_n (v := y0) (pc' := 43) dX11_change_42 rfl rfl rfl ?_
  refine sn_cV (r := (some this)) (st := []) (As := [.int y0]) (st2 := (fun v => .int v :: [])) (pc' := 46) ci_12 (fun t => c_X11_closeBook G t y0) cw_X11_closeBook rfl rfl tw579 pw16 tw581 rfl rfl cat_nil rfl (fun _ => rfl) dX11_change_43 rfl (fun v1 => ?_)
  exact sn_iret dX11_change_46 rfl rfl
set_option maxRecDepth 100000 in
set_option maxHeartbeats 4000000 in
theorem s_X11_change (G : GG) (this : Nat) (a1 : Int32) : Sn G yX11_change cX11_change 4 (some FieldType.int) 11 247 (fun v : Int32 => some (.int v)) (X11_change this a1) 0 [some (va_rf (some this)), some (.int a1), none, none] [] := by
  unfold X11_change
  refine sn_aload_n (v := (some this)) (pc' := 1) dX11_change_0 rfl rfl rfl ?_
  refine sn_iload_n (v := a1) (pc' := 2) dX11_change_1 rfl rfl rfl ?_
  refine sn_cV (r := (some this)) (st := []) (As := [.int a1]) (st2 := (fun v => va_rf v :: [])) (pc' := 5) ci_12 (fun t => c_X11_bookAt G t a1) cw_X11_bookAt rfl rfl tw910 pw22 tw912 rfl rfl cat_nil rfl (fun _ => rfl) dX11_change_2 rfl (fun v1 => ?_)
  refine sn_astore_n (v := v1) (L' := [some (va_rf (some this)), some (.int a1), some (va_rf v1), none]) (pc' := 6) dX11_change_5 rfl rfl rfl rfl ?_
  refine sn_aload_n (v := v1) (pc' := 7) dX11_change_6 rfl rfl rfl ?_
  refine sn_ifnonnull (pt := 16) (pf := 10) dX11_change_7 rfl rfl ?_ ?_
  · refine sn_aload_n (v := (some this)) (pc' := 11) dX11_change_10 rfl rfl rfl ?_
    refine sn_iconst (v := (1 : Int32)) (pc' := 12) dX11_change_11 rfl (by decide) ?_
    refine sn_cV (r := (some this)) (st := []) (As := [.int (1 : Int32)]) (st2 := (fun v => .int v :: [])) (pc' := 15) ci_12 (fun t => c_X11_closeBook G t (1 : Int32)) cw_X11_closeBook rfl rfl tw579 pw16 tw581 rfl rfl cat_nil rfl (fun _ => rfl) dX11_change_12 rfl (fun v2 => ?_)
    exact sn_iret dX11_change_15 rfl rfl
  · refine sn_aload_n (v := (some this)) (pc' := 17) dX11_change_16 rfl rfl rfl ?_
    refine sn_iconst (v := (0 : Int32)) (pc' := 18) dX11_change_17 rfl (by decide) ?_
    refine sn_pI (k := 10) (pc' := 21) ci_12 rfl (Or.inl tw283) (Or.inl rfl) rfl dX11_change_18 rfl (fun _ => ?_)
    refine sn_aload_n (v := (some this)) (pc' := 22) dX11_change_21 rfl rfl rfl ?_
    refine sn_gR (k := 1) (pc' := 25) ci_12 rfl (Or.inl tw274) dX11_change_22 rfl (fun v3 => ?_)
    refine sn_cV (r := v3) (st := []) (As := []) (st2 := (fun v => .int v :: [])) (pc' := 28) ci_8 (fun t => c_X7_readsChanges G t ) cw_X7_readsChanges rfl rfl tw914 tw916 tw915 rfl rfl cat_nil rfl (fun _ => rfl) dX11_change_25 rfl (fun v4 => ?_)
    refine sn_if_eq (pt := 39) (pf := 31) dX11_change_28 rfl rfl ?_ ?_
    · refine sn_iconst (v := (2 : Int32)) (pc' := 40) dX11_change_39 rfl (by decide) ?_
      exact sn_weak (le_s (le_n (le_n (le_n le_e)))) (s_X11_change_40 G this (2 : Int32))
    · refine sn_aload_n (v := (some this)) (pc' := 32) dX11_change_31 rfl rfl rfl ?_
      refine sn_aload_n (v := v1) (pc' := 33) dX11_change_32 rfl rfl rfl ?_
      refine sn_cV (r := (some this)) (st := []) (As := [va_rf v1]) (st2 := (fun v => .int v :: [])) (pc' := 36) ci_12 (fun t => c_X11_draftChanges G t v1) cw_X11_draftChanges rfl rfl tw918 pw23 tw920 rfl rfl cat_nil rfl (fun _ => rfl) dX11_change_33 rfl (fun v5 => ?_)
      refine sn_goto (pc' := 40) dX11_change_36 rfl ?_
      exact sn_weak (le_s (le_n (le_n (le_n le_e)))) (s_X11_change_40 G this v5)
theorem c_X11_change (G : GG) (this : Nat) (a1 : Int32) : Cal G yX11_change cX11_change 4 (some FieldType.int) 11 247 (fun v : Int32 => some (.int v)) (X11_change this a1) [.ref this, .int a1] :=
  Cal.of (by decide) (cat_t (cat_i cat_nil)) rfl (sn_weak (le_s (le_s (le_z (le_z le_e)))) (s_X11_change G this a1))
theorem cw_X11_change : CW yX11_change cX11_change 4 (some FieldType.int) 1 := ⟨tw909, tw1, by decide, by decide +kernel⟩
/-! X7_readsOneName -/
theorem dX7_readsOneName_0 : decode cX7_readsOneName 0 = .ok (.aload_n 0, 1) := by decide +kernel
theorem dX7_readsOneName_1 : decode cX7_readsOneName 1 = .ok (.iconst 1, 1) := by decide +kernel
theorem dX7_readsOneName_2 : decode cX7_readsOneName 2 = .ok (.invokevirtual 47, 3) := by decide +kernel
theorem dX7_readsOneName_5 : decode cX7_readsOneName 5 = .ok (.ifCond .ne 5, 3) := by decide +kernel
theorem dX7_readsOneName_8 : decode cX7_readsOneName 8 = .ok (.iconst 0, 1) := by decide +kernel
theorem dX7_readsOneName_9 : decode cX7_readsOneName 9 = .ok (.ireturn, 1) := by decide +kernel
theorem dX7_readsOneName_10 : decode cX7_readsOneName 10 = .ok (.aload_n 0, 1) := by decide +kernel
theorem dX7_readsOneName_11 : decode cX7_readsOneName 11 = .ok (.getfield 21, 3) := by decide +kernel
theorem dX7_readsOneName_14 : decode cX7_readsOneName 14 = .ok (.getfield 109, 3) := by decide +kernel
theorem dX7_readsOneName_17 : decode cX7_readsOneName 17 = .ok (.aload_n 0, 1) := by decide +kernel
theorem dX7_readsOneName_18 : decode cX7_readsOneName 18 = .ok (.getfield 81, 3) := by decide +kernel
theorem dX7_readsOneName_21 : decode cX7_readsOneName 21 = .ok (.invokevirtual 87, 3) := by decide +kernel
theorem dX7_readsOneName_24 : decode cX7_readsOneName 24 = .ok (.pop, 1) := by decide +kernel
theorem dX7_readsOneName_25 : decode cX7_readsOneName 25 = .ok (.aload_n 0, 1) := by decide +kernel
theorem dX7_readsOneName_26 : decode cX7_readsOneName 26 = .ok (.iconst 2, 1) := by decide +kernel
theorem dX7_readsOneName_27 : decode cX7_readsOneName 27 = .ok (.invokevirtual 47, 3) := by decide +kernel
theorem dX7_readsOneName_30 : decode cX7_readsOneName 30 = .ok (.ifCond .ne 5, 3) := by decide +kernel
theorem dX7_readsOneName_33 : decode cX7_readsOneName 33 = .ok (.iconst 0, 1) := by decide +kernel
theorem dX7_readsOneName_34 : decode cX7_readsOneName 34 = .ok (.ireturn, 1) := by decide +kernel
theorem dX7_readsOneName_35 : decode cX7_readsOneName 35 = .ok (.aload_n 0, 1) := by decide +kernel
theorem dX7_readsOneName_36 : decode cX7_readsOneName 36 = .ok (.getfield 21, 3) := by decide +kernel
theorem dX7_readsOneName_39 : decode cX7_readsOneName 39 = .ok (.getfield 112, 3) := by decide +kernel
theorem dX7_readsOneName_42 : decode cX7_readsOneName 42 = .ok (.aload_n 0, 1) := by decide +kernel
theorem dX7_readsOneName_43 : decode cX7_readsOneName 43 = .ok (.getfield 81, 3) := by decide +kernel
theorem dX7_readsOneName_46 : decode cX7_readsOneName 46 = .ok (.invokevirtual 87, 3) := by decide +kernel
theorem dX7_readsOneName_49 : decode cX7_readsOneName 49 = .ok (.pop, 1) := by decide +kernel
theorem dX7_readsOneName_50 : decode cX7_readsOneName 50 = .ok (.aload_n 0, 1) := by decide +kernel
theorem dX7_readsOneName_51 : decode cX7_readsOneName 51 = .ok (.bipush 43, 2) := by decide +kernel
theorem dX7_readsOneName_53 : decode cX7_readsOneName 53 = .ok (.invokevirtual 40, 3) := by decide +kernel
theorem dX7_readsOneName_56 : decode cX7_readsOneName 56 = .ok (.istore_n 2, 1) := by decide +kernel
theorem dX7_readsOneName_57 : decode cX7_readsOneName 57 = .ok (.iload_n 2, 1) := by decide +kernel
theorem dX7_readsOneName_58 : decode cX7_readsOneName 58 = .ok (.ifCond .eq 13, 3) := by decide +kernel
theorem dX7_readsOneName_61 : decode cX7_readsOneName 61 = .ok (.aload_n 0, 1) := by decide +kernel
theorem dX7_readsOneName_62 : decode cX7_readsOneName 62 = .ok (.iconst 2, 1) := by decide +kernel
theorem dX7_readsOneName_63 : decode cX7_readsOneName 63 = .ok (.invokevirtual 47, 3) := by decide +kernel
theorem dX7_readsOneName_66 : decode cX7_readsOneName 66 = .ok (.ifCond .ne 5, 3) := by decide +kernel
theorem dX7_readsOneName_69 : decode cX7_readsOneName 69 = .ok (.iconst 0, 1) := by decide +kernel
theorem dX7_readsOneName_70 : decode cX7_readsOneName 70 = .ok (.ireturn, 1) := by decide +kernel
theorem dX7_readsOneName_71 : decode cX7_readsOneName 71 = .ok (.aload_n 0, 1) := by decide +kernel
theorem dX7_readsOneName_72 : decode cX7_readsOneName 72 = .ok (.getfield 21, 3) := by decide +kernel
theorem dX7_readsOneName_75 : decode cX7_readsOneName 75 = .ok (.getfield 115, 3) := by decide +kernel
theorem dX7_readsOneName_78 : decode cX7_readsOneName 78 = .ok (.iload_n 2, 1) := by decide +kernel
theorem dX7_readsOneName_79 : decode cX7_readsOneName 79 = .ok (.ifCond .eq 10, 3) := by decide +kernel
theorem dX7_readsOneName_82 : decode cX7_readsOneName 82 = .ok (.aload_n 0, 1) := by decide +kernel
theorem dX7_readsOneName_83 : decode cX7_readsOneName 83 = .ok (.getfield 81, 3) := by decide +kernel
theorem dX7_readsOneName_86 : decode cX7_readsOneName 86 = .ok (.goto 4, 3) := by decide +kernel
theorem dX7_readsOneName_89 : decode cX7_readsOneName 89 = .ok (.iconst (-1), 1) := by decide +kernel
theorem dX7_readsOneName_90 : decode cX7_readsOneName 90 = .ok (.invokevirtual 87, 3) := by decide +kernel
theorem dX7_readsOneName_93 : decode cX7_readsOneName 93 = .ok (.pop, 1) := by decide +kernel
theorem dX7_readsOneName_94 : decode cX7_readsOneName 94 = .ok (.aload_n 0, 1) := by decide +kernel
theorem dX7_readsOneName_95 : decode cX7_readsOneName 95 = .ok (.getfield 21, 3) := by decide +kernel
theorem dX7_readsOneName_98 : decode cX7_readsOneName 98 = .ok (.getfield 118, 3) := by decide +kernel
theorem dX7_readsOneName_101 : decode cX7_readsOneName 101 = .ok (.iload_n 1, 1) := by decide +kernel
theorem dX7_readsOneName_102 : decode cX7_readsOneName 102 = .ok (.invokevirtual 87, 3) := by decide +kernel
theorem dX7_readsOneName_105 : decode cX7_readsOneName 105 = .ok (.pop, 1) := by decide +kernel
theorem dX7_readsOneName_106 : decode cX7_readsOneName 106 = .ok (.iconst 1, 1) := by decide +kernel
theorem dX7_readsOneName_107 : decode cX7_readsOneName 107 = .ok (.ireturn, 1) := by decide +kernel
def X7_readsOneName_90  (this : Nat) (x1 : Int32) (y0 : Int32) (y1 : Option Nat) : MM Int32 :=
  mb (wc 9 y1 fun t => X8_add t y0) fun v1 =>
  mb (gR 8 (some this) 2) fun v2 =>
  mb (gR 6 v2 0) fun v3 =>
  mb (wc 9 v3 fun t => X8_add t x1) fun v4 =>
  mr (1 : Int32)
def X7_readsOneName_71  (this : Nat) (x1 : Int32) (x2 : Int32) : MM Int32 :=
  mb (gR 8 (some this) 2) fun v1 =>
  mb (gR 6 v1 3) fun v2 =>
  if x2 = 0 then ((X7_readsOneName_90 this x1 (-1 : Int32) v2)) else (mb (gI 8 (some this) 4) fun v3 =>
  (X7_readsOneName_90 this x1 v3 v2))
def X7_readsOneName (this : Nat) (a1 : Int32) : MM Int32 :=
  mb (wc 8 (some this) fun t => X7_takes t (1 : Int32)) fun v1 =>
  if v1 = 0 then (mr (0 : Int32)) else (mb (gR 8 (some this) 2) fun v2 =>
  mb (gR 6 v2 1) fun v3 =>
  mb (gI 8 (some this) 4) fun v4 =>
  mb (wc 9 v3 fun t => X8_add t v4) fun v5 =>
  mb (wc 8 (some this) fun t => X7_takes t (2 : Int32)) fun v6 =>
  if v6 = 0 then (mr (0 : Int32)) else (mb (gR 8 (some this) 2) fun v7 =>
  mb (gR 6 v7 2) fun v8 =>
  mb (gI 8 (some this) 4) fun v9 =>
  mb (wc 9 v8 fun t => X8_add t v9) fun v10 =>
  mb (wc 8 (some this) fun t => X7_skips t (43 : Int32)) fun v11 =>
  if v11 = 0 then ((X7_readsOneName_71 this a1 v11)) else (mb (wc 8 (some this) fun t => X7_takes t (2 : Int32)) fun v12 =>
  if v12 = 0 then (mr (0 : Int32)) else ((X7_readsOneName_71 this a1 v11)))))
set_option maxRecDepth 100000 in
set_option maxHeartbeats 4000000 in
theorem s_X7_readsOneName_90 (G : GG)   (this : Nat) (x1 : Int32) (y0 : Int32) (y1 : Option Nat) : Sn G yX7_readsOneName cX7_readsOneName 3 (some FieldType.boolean) 2 42 (fun v : Int32 => some (.int v)) (X7_readsOneName_90  this x1 y0 y1) 90 [some (va_rf (some this)), some (.int x1), none] [.int y0, va_rf y1] := by
  unfold X7_readsOneName_90
  refine sn_cV (r := y1) (st := []) (As := [.int y0]) (st2 := (fun v => .int v :: [])) (pc' := 93) ci_9 (fun t => c_X8_add G t y0) cw_X8_add rfl rfl tw499 tw484 tw483 rfl rfl cat_nil rfl (fun _ => rfl) dX7_readsOneName_90 rfl (fun v1 => ?_)
  refine sn_pop (pc' := 94) dX7_readsOneName_93 rfl rfl ?_
  refine sn_aload_n (v := (some this)) (pc' := 95) dX7_readsOneName_94 rfl rfl rfl ?_
  refine sn_gR (k := 2) (pc' := 98) ci_8 rfl (Or.inl tw160) dX7_readsOneName_95 rfl (fun v2 => ?_)
  refine sn_gR (k := 0) (pc' := 101) ci_6 rfl (Or.inr ⟨_, nw135⟩) dX7_readsOneName_98 rfl (fun v3 => ?_)
  refine sn_iload_n (v := x1) (pc' := 102) dX7_readsOneName_101 rfl rfl rfl ?_
  refine sn_cV (r := v3) (st := []) (As := [.int x1]) (st2 := (fun v => .int v :: [])) (pc' := 105) ci_9 (fun t => c_X8_add G t x1) cw_X8_add rfl rfl tw499 tw484 tw483 rfl rfl cat_nil rfl (fun _ => rfl) dX7_readsOneName_102 rfl (fun v4 => ?_)
  refine sn_pop (pc' := 106) dX7_readsOneName_105 rfl rfl ?_
  refine sn_iconst (v := (1 : Int32)) (pc' := 107) dX7_readsOneName_106 rfl (by decide) ?_
  exact sn_iret dX7_readsOneName_107 rfl (by decide)
set_option maxRecDepth 100000 in
set_option maxHeartbeats 4000000 in
theorem s_X7_readsOneName_71 (G : GG)   (this : Nat) (x1 : Int32) (x2 : Int32) : Sn G yX7_readsOneName cX7_readsOneName 3 (some FieldType.boolean) 2 42 (fun v : Int32 => some (.int v)) (X7_readsOneName_71  this x1 x2) 71 [some (va_rf (some this)), some (.int x1), some (.int x2)] [] := by
  unfold X7_readsOneName_71
  refine sn_aload_n (v := (some this)) (pc' := 72) dX7_readsOneName_71 rfl rfl rfl ?_
  refine sn_gR (k := 2) (pc' := 75) ci_8 rfl (Or.inl tw160) dX7_readsOneName_72 rfl (fun v1 => ?_)
  refine sn_gR (k := 3) (pc' := 78) ci_6 rfl (Or.inr ⟨_, nw147⟩) dX7_readsOneName_75 rfl (fun v2 => ?_)
  refine sn_iload_n (v := x2) (pc' := 79) dX7_readsOneName_78 rfl rfl rfl ?_
  refine sn_if_eq (pt := 89) (pf := 82) dX7_readsOneName_79 rfl rfl ?_ ?_
  · refine sn_iconst (v := (-1 : Int32)) (pc' := 90) dX7_readsOneName_89 rfl (by decide) ?_
    exact sn_weak (le_s (le_s (le_n le_e))) (s_X7_readsOneName_90 G this x1 (-1 : Int32) v2)
  · refine sn_aload_n (v := (some this)) (pc' := 83) dX7_readsOneName_82 rfl rfl rfl ?_
    refine sn_gI (k := 4) (pc' := 86) ci_8 rfl (Or.inl tw164) dX7_readsOneName_83 rfl (fun v3 => ?_)
    refine sn_goto (pc' := 90) dX7_readsOneName_86 rfl ?_
    exact sn_weak (le_s (le_s (le_n le_e))) (s_X7_readsOneName_90 G this x1 v3 v2)
set_option maxRecDepth 100000 in
set_option maxHeartbeats 4000000 in
theorem s_X7_readsOneName (G : GG) (this : Nat) (a1 : Int32) : Sn G yX7_readsOneName cX7_readsOneName 3 (some FieldType.boolean) 2 42 (fun v : Int32 => some (.int v)) (X7_readsOneName this a1) 0 [some (va_rf (some this)), some (.int a1), none] [] := by
  unfold X7_readsOneName
  refine sn_aload_n (v := (some this)) (pc' := 1) dX7_readsOneName_0 rfl rfl rfl ?_
  refine sn_iconst (v := (1 : Int32)) (pc' := 2) dX7_readsOneName_1 rfl (by decide) ?_
  refine sn_cV (r := (some this)) (st := []) (As := [.int (1 : Int32)]) (st2 := (fun v => .int v :: [])) (pc' := 5) ci_8 (fun t => c_X7_takes G t (1 : Int32)) cw_X7_takes rfl rfl tw491 pw9 tw493 rfl rfl cat_nil rfl (fun _ => rfl) dX7_readsOneName_2 rfl (fun v1 => ?_)
  refine sn_if_ne (pt := 10) (pf := 8) dX7_readsOneName_5 rfl rfl ?_ ?_
  · refine sn_iconst (v := (0 : Int32)) (pc' := 9) dX7_readsOneName_8 rfl (by decide) ?_
    exact sn_iret dX7_readsOneName_9 rfl (by decide)
  · refine sn_aload_n (v := (some this)) (pc' := 11) dX7_readsOneName_10 rfl rfl rfl ?_
    refine sn_gR (k := 2) (pc' := 14) ci_8 rfl (Or.inl tw160) dX7_readsOneName_11 rfl (fun v2 => ?_)
    refine sn_gR (k := 1) (pc' := 17) ci_6 rfl (Or.inr ⟨_, nw139⟩) dX7_readsOneName_14 rfl (fun v3 => ?_)
    refine sn_aload_n (v := (some this)) (pc' := 18) dX7_readsOneName_17 rfl rfl rfl ?_
    refine sn_gI (k := 4) (pc' := 21) ci_8 rfl (Or.inl tw164) dX7_readsOneName_18 rfl (fun v4 => ?_)
    refine sn_cV (r := v3) (st := []) (As := [.int v4]) (st2 := (fun v => .int v :: [])) (pc' := 24) ci_9 (fun t => c_X8_add G t v4) cw_X8_add rfl rfl tw499 tw484 tw483 rfl rfl cat_nil rfl (fun _ => rfl) dX7_readsOneName_21 rfl (fun v5 => ?_)
    refine sn_pop (pc' := 25) dX7_readsOneName_24 rfl rfl ?_
    refine sn_aload_n (v := (some this)) (pc' := 26) dX7_readsOneName_25 rfl rfl rfl ?_
    refine sn_iconst (v := (2 : Int32)) (pc' := 27) dX7_readsOneName_26 rfl (by decide) ?_
    refine sn_cV (r := (some this)) (st := []) (As := [.int (2 : Int32)]) (st2 := (fun v => .int v :: [])) (pc' := 30) ci_8 (fun t => c_X7_takes G t (2 : Int32)) cw_X7_takes rfl rfl tw491 pw9 tw493 rfl rfl cat_nil rfl (fun _ => rfl) dX7_readsOneName_27 rfl (fun v6 => ?_)
    refine sn_if_ne (pt := 35) (pf := 33) dX7_readsOneName_30 rfl rfl ?_ ?_
    · refine sn_iconst (v := (0 : Int32)) (pc' := 34) dX7_readsOneName_33 rfl (by decide) ?_
      exact sn_iret dX7_readsOneName_34 rfl (by decide)
    · refine sn_aload_n (v := (some this)) (pc' := 36) dX7_readsOneName_35 rfl rfl rfl ?_
      refine sn_gR (k := 2) (pc' := 39) ci_8 rfl (Or.inl tw160) dX7_readsOneName_36 rfl (fun v7 => ?_)
      refine sn_gR (k := 2) (pc' := 42) ci_6 rfl (Or.inr ⟨_, nw143⟩) dX7_readsOneName_39 rfl (fun v8 => ?_)
      refine sn_aload_n (v := (some this)) (pc' := 43) dX7_readsOneName_42 rfl rfl rfl ?_
      refine sn_gI (k := 4) (pc' := 46) ci_8 rfl (Or.inl tw164) dX7_readsOneName_43 rfl (fun v9 => ?_)
      refine sn_cV (r := v8) (st := []) (As := [.int v9]) (st2 := (fun v => .int v :: [])) (pc' := 49) ci_9 (fun t => c_X8_add G t v9) cw_X8_add rfl rfl tw499 tw484 tw483 rfl rfl cat_nil rfl (fun _ => rfl) dX7_readsOneName_46 rfl (fun v10 => ?_)
      refine sn_pop (pc' := 50) dX7_readsOneName_49 rfl rfl ?_
      refine sn_aload_n (v := (some this)) (pc' := 51) dX7_readsOneName_50 rfl rfl rfl ?_
      refine sn_bipush (v := (43 : Int32)) (pc' := 53) dX7_readsOneName_51 rfl (by decide) ?_
      refine sn_cV (r := (some this)) (st := []) (As := [.int (43 : Int32)]) (st2 := (fun v => .int v :: [])) (pc' := 56) ci_8 (fun t => c_X7_skips G t (43 : Int32)) cw_X7_skips rfl rfl tw500 pw10 tw502 rfl rfl cat_nil rfl (fun _ => rfl) dX7_readsOneName_53 rfl (fun v11 => ?_)
      refine sn_istore_n (v := v11) (L' := [some (va_rf (some this)), some (.int a1), some (.int v11)]) (pc' := 57) dX7_readsOneName_56 rfl rfl rfl rfl ?_
      refine sn_iload_n (v := v11) (pc' := 58) dX7_readsOneName_57 rfl rfl rfl ?_
      refine sn_if_eq (pt := 71) (pf := 61) dX7_readsOneName_58 rfl rfl ?_ ?_
      · exact sn_weak (le_s (le_s (le_s le_e))) (s_X7_readsOneName_71 G this a1 v11)
      · refine sn_aload_n (v := (some this)) (pc' := 62) dX7_readsOneName_61 rfl rfl rfl ?_
        refine sn_iconst (v := (2 : Int32)) (pc' := 63) dX7_readsOneName_62 rfl (by decide) ?_
        refine sn_cV (r := (some this)) (st := []) (As := [.int (2 : Int32)]) (st2 := (fun v => .int v :: [])) (pc' := 66) ci_8 (fun t => c_X7_takes G t (2 : Int32)) cw_X7_takes rfl rfl tw491 pw9 tw493 rfl rfl cat_nil rfl (fun _ => rfl) dX7_readsOneName_63 rfl (fun v12 => ?_)
        refine sn_if_ne (pt := 71) (pf := 69) dX7_readsOneName_66 rfl rfl ?_ ?_
        · refine sn_iconst (v := (0 : Int32)) (pc' := 70) dX7_readsOneName_69 rfl (by decide) ?_
          exact sn_iret dX7_readsOneName_70 rfl (by decide)
        · exact sn_weak (le_s (le_s (le_s le_e))) (s_X7_readsOneName_71 G this a1 v11)
theorem c_X7_readsOneName (G : GG) (this : Nat) (a1 : Int32) : Cal G yX7_readsOneName cX7_readsOneName 3 (some FieldType.boolean) 2 42 (fun v : Int32 => some (.int v)) (X7_readsOneName this a1) [.ref this, .int a1] :=
  Cal.of (by decide) (cat_t (cat_i cat_nil)) rfl (sn_weak (le_s (le_s (le_z le_e))) (s_X7_readsOneName G this a1))
theorem cw_X7_readsOneName : CW yX7_readsOneName cX7_readsOneName 3 (some FieldType.boolean) 1 := ⟨tw936, tw5, by decide, by decide +kernel⟩
/-! X7_readsRow -/
theorem dX7_readsRow_0 : decode cX7_readsRow 0 = .ok (.aload_n 0, 1) := by decide +kernel
theorem dX7_readsRow_1 : decode cX7_readsRow 1 = .ok (.invokevirtual 33, 3) := by decide +kernel
theorem dX7_readsRow_4 : decode cX7_readsRow 4 = .ok (.iconst 0, 1) := by decide +kernel
theorem dX7_readsRow_5 : decode cX7_readsRow 5 = .ok (.istore_n 1, 1) := by decide +kernel
theorem dX7_readsRow_6 : decode cX7_readsRow 6 = .ok (.iload_n 1, 1) := by decide +kernel
theorem dX7_readsRow_7 : decode cX7_readsRow 7 = .ok (.bipush 121, 2) := by decide +kernel
theorem dX7_readsRow_9 : decode cX7_readsRow 9 = .ok (.if_icmp .ge 47, 3) := by decide +kernel
theorem dX7_readsRow_12 : decode cX7_readsRow 12 = .ok (.aload_n 0, 1) := by decide +kernel
theorem dX7_readsRow_13 : decode cX7_readsRow 13 = .ok (.iconst 0, 1) := by decide +kernel
theorem dX7_readsRow_14 : decode cX7_readsRow 14 = .ok (.invokevirtual 50, 3) := by decide +kernel
theorem dX7_readsRow_17 : decode cX7_readsRow 17 = .ok (.ifCond .eq 21, 3) := by decide +kernel
theorem dX7_readsRow_20 : decode cX7_readsRow 20 = .ok (.aload_n 0, 1) := by decide +kernel
theorem dX7_readsRow_21 : decode cX7_readsRow 21 = .ok (.bipush 45, 2) := by decide +kernel
theorem dX7_readsRow_23 : decode cX7_readsRow 23 = .ok (.invokevirtual 40, 3) := by decide +kernel
theorem dX7_readsRow_26 : decode cX7_readsRow 26 = .ok (.ifCond .eq 14, 3) := by decide +kernel
theorem dX7_readsRow_29 : decode cX7_readsRow 29 = .ok (.aload_n 0, 1) := by decide +kernel
theorem dX7_readsRow_30 : decode cX7_readsRow 30 = .ok (.bipush 45, 2) := by decide +kernel
theorem dX7_readsRow_32 : decode cX7_readsRow 32 = .ok (.invokevirtual 50, 3) := by decide +kernel
theorem dX7_readsRow_35 : decode cX7_readsRow 35 = .ok (.ifCond .ne 5, 3) := by decide +kernel
theorem dX7_readsRow_38 : decode cX7_readsRow 38 = .ok (.iconst 0, 1) := by decide +kernel
theorem dX7_readsRow_39 : decode cX7_readsRow 39 = .ok (.ireturn, 1) := by decide +kernel
theorem dX7_readsRow_40 : decode cX7_readsRow 40 = .ok (.aload_n 0, 1) := by decide +kernel
theorem dX7_readsRow_41 : decode cX7_readsRow 41 = .ok (.iconst 0, 1) := by decide +kernel
theorem dX7_readsRow_42 : decode cX7_readsRow 42 = .ok (.invokevirtual 40, 3) := by decide +kernel
theorem dX7_readsRow_45 : decode cX7_readsRow 45 = .ok (.ifCond .eq 5, 3) := by decide +kernel
theorem dX7_readsRow_48 : decode cX7_readsRow 48 = .ok (.iconst 1, 1) := by decide +kernel
theorem dX7_readsRow_49 : decode cX7_readsRow 49 = .ok (.ireturn, 1) := by decide +kernel
theorem dX7_readsRow_50 : decode cX7_readsRow 50 = .ok (.iinc 1 1, 3) := by decide +kernel
theorem dX7_readsRow_53 : decode cX7_readsRow 53 = .ok (.goto (-47), 3) := by decide +kernel
theorem dX7_readsRow_56 : decode cX7_readsRow 56 = .ok (.iconst 0, 1) := by decide +kernel
theorem dX7_readsRow_57 : decode cX7_readsRow 57 = .ok (.ireturn, 1) := by decide +kernel
def X7_readsRow_40 (k6 : Nat → Int32 → MM Int32) (this : Nat) (x1 : Int32) : MM Int32 :=
  mb (wc 8 (some this) fun t => X7_skips t (0 : Int32)) fun v1 =>
  if v1 = 0 then ((k6 this (x1 + (1 : Int32)))) else (mr (1 : Int32))
def X7_readsRow_6_st  (k6 : Nat → Int32 → MM Int32) (this : Nat) (x1 : Int32) : MM Int32 :=
  if (121 : Int32) ≤ x1 then (mr (0 : Int32)) else (mb (wc 8 (some this) fun t => X7_readsOneName t (0 : Int32)) fun v1 =>
  if v1 = 0 then (mr (0 : Int32)) else (mb (wc 8 (some this) fun t => X7_skips t (45 : Int32)) fun v2 =>
  if v2 = 0 then ((X7_readsRow_40 k6 this x1)) else (mb (wc 8 (some this) fun t => X7_readsOneName t (45 : Int32)) fun v3 =>
  if v3 = 0 then (mr (0 : Int32)) else ((X7_readsRow_40 k6 this x1)))))
def X7_readsRow_6  : Nat → Nat → Int32 → MM Int32
  | 0 => fun _ _ => mf
  | n + 1 => fun this x1 => X7_readsRow_6_st  (X7_readsRow_6  n) this x1
def X7_readsRow (this : Nat) : MM Int32 :=
  mb (wc 8 (some this) fun t => X7_begin t ) fun _ =>
  (X7_readsRow_6 LFU this (0 : Int32))
set_option maxRecDepth 100000 in
set_option maxHeartbeats 4000000 in
theorem s_X7_readsRow_40 (G : GG) (k6 : Nat → Int32 → MM Int32) (hk6 : ∀ (this : Nat) (x1 : Int32), Sn G yX7_readsRow cX7_readsRow 2 (some FieldType.boolean) 8 184 (fun v : Int32 => some (.int v)) (k6 this x1) 6 [some (va_rf (some this)), some (.int x1)] []) (this : Nat) (x1 : Int32) : Sn G yX7_readsRow cX7_readsRow 2 (some FieldType.boolean) 8 184 (fun v : Int32 => some (.int v)) (X7_readsRow_40 k6 this x1) 40 [some (va_rf (some this)), some (.int x1)] [] := by
  unfold X7_readsRow_40
  refine sn_aload_n (v := (some this)) (pc' := 41) dX7_readsRow_40 rfl rfl rfl ?_
  refine sn_iconst (v := (0 : Int32)) (pc' := 42) dX7_readsRow_41 rfl (by decide) ?_
  refine sn_cV (r := (some this)) (st := []) (As := [.int (0 : Int32)]) (st2 := (fun v => .int v :: [])) (pc' := 45) ci_8 (fun t => c_X7_skips G t (0 : Int32)) cw_X7_skips rfl rfl tw500 pw10 tw502 rfl rfl cat_nil rfl (fun _ => rfl) dX7_readsRow_42 rfl (fun v1 => ?_)
  refine sn_if_eq (pt := 50) (pf := 48) dX7_readsRow_45 rfl rfl ?_ ?_
  · refine sn_iinc (v := x1) (w := 1) (L' := [some (va_rf (some this)), some (.int (x1 + (1 : Int32)))]) (pc' := 53) dX7_readsRow_50 rfl rfl rfl (by decide) rfl ?_
    refine sn_goto (pc' := 6) dX7_readsRow_53 rfl ?_
    exact sn_weak (le_s (le_s le_e)) (hk6 this (x1 + (1 : Int32)))
  · refine sn_iconst (v := (1 : Int32)) (pc' := 49) dX7_readsRow_48 rfl (by decide) ?_
    exact sn_iret dX7_readsRow_49 rfl (by decide)
set_option maxRecDepth 100000 in
set_option maxHeartbeats 4000000 in
theorem s_X7_readsRow_6_st (G : GG)   (k6 : Nat → Int32 → MM Int32) (hk6 : ∀ (this : Nat) (x1 : Int32), Sn G yX7_readsRow cX7_readsRow 2 (some FieldType.boolean) 8 184 (fun v : Int32 => some (.int v)) (k6 this x1) 6 [some (va_rf (some this)), some (.int x1)] []) (this : Nat) (x1 : Int32) : Sn G yX7_readsRow cX7_readsRow 2 (some FieldType.boolean) 8 184 (fun v : Int32 => some (.int v)) (X7_readsRow_6_st  k6 this x1) 6 [some (va_rf (some this)), some (.int x1)] [] := by
  unfold X7_readsRow_6_st
  refine sn_iload_n (v := x1) (pc' := 7) dX7_readsRow_6 rfl rfl rfl ?_
  refine sn_bipush (v := (121 : Int32)) (pc' := 9) dX7_readsRow_7 rfl (by decide) ?_
  refine sn_ic_ge (pt := 56) (pf := 12) dX7_readsRow_9 rfl rfl ?_ ?_
  · refine sn_iconst (v := (0 : Int32)) (pc' := 57) dX7_readsRow_56 rfl (by decide) ?_
    exact sn_iret dX7_readsRow_57 rfl (by decide)
  · refine sn_aload_n (v := (some this)) (pc' := 13) dX7_readsRow_12 rfl rfl rfl ?_
    refine sn_iconst (v := (0 : Int32)) (pc' := 14) dX7_readsRow_13 rfl (by decide) ?_
    refine sn_cV (r := (some this)) (st := []) (As := [.int (0 : Int32)]) (st2 := (fun v => .int v :: [])) (pc' := 17) ci_8 (fun t => c_X7_readsOneName G t (0 : Int32)) cw_X7_readsOneName rfl rfl tw933 pw24 tw935 rfl rfl cat_nil rfl (fun _ => rfl) dX7_readsRow_14 rfl (fun v1 => ?_)
    refine sn_if_eq (pt := 38) (pf := 20) dX7_readsRow_17 rfl rfl ?_ ?_
    · refine sn_iconst (v := (0 : Int32)) (pc' := 39) dX7_readsRow_38 rfl (by decide) ?_
      exact sn_iret dX7_readsRow_39 rfl (by decide)
    · refine sn_aload_n (v := (some this)) (pc' := 21) dX7_readsRow_20 rfl rfl rfl ?_
      refine sn_bipush (v := (45 : Int32)) (pc' := 23) dX7_readsRow_21 rfl (by decide) ?_
      refine sn_cV (r := (some this)) (st := []) (As := [.int (45 : Int32)]) (st2 := (fun v => .int v :: [])) (pc' := 26) ci_8 (fun t => c_X7_skips G t (45 : Int32)) cw_X7_skips rfl rfl tw500 pw10 tw502 rfl rfl cat_nil rfl (fun _ => rfl) dX7_readsRow_23 rfl (fun v2 => ?_)
      refine sn_if_eq (pt := 40) (pf := 29) dX7_readsRow_26 rfl rfl ?_ ?_
      · exact sn_weak (le_s (le_s le_e)) (s_X7_readsRow_40 G k6 hk6 this x1)
      · refine sn_aload_n (v := (some this)) (pc' := 30) dX7_readsRow_29 rfl rfl rfl ?_
        refine sn_bipush (v := (45 : Int32)) (pc' := 32) dX7_readsRow_30 rfl (by decide) ?_
        refine sn_cV (r := (some this)) (st := []) (As := [.int (45 : Int32)]) (st2 := (fun v => .int v :: [])) (pc' := 35) ci_8 (fun t => c_X7_readsOneName G t (45 : Int32)) cw_X7_readsOneName rfl rfl tw933 pw24 tw935 rfl rfl cat_nil rfl (fun _ => rfl) dX7_readsRow_32 rfl (fun v3 => ?_)
        refine sn_if_ne (pt := 40) (pf := 38) dX7_readsRow_35 rfl rfl ?_ ?_
        · refine sn_iconst (v := (0 : Int32)) (pc' := 39) dX7_readsRow_38 rfl (by decide) ?_
          exact sn_iret dX7_readsRow_39 rfl (by decide)
        · exact sn_weak (le_s (le_s le_e)) (s_X7_readsRow_40 G k6 hk6 this x1)
set_option maxRecDepth 100000 in
set_option maxHeartbeats 4000000 in
theorem s_X7_readsRow_6 (G : GG)   : ∀ (n : Nat) (this : Nat) (x1 : Int32), Sn G yX7_readsRow cX7_readsRow 2 (some FieldType.boolean) 8 184 (fun v : Int32 => some (.int v)) (X7_readsRow_6  n this x1) 6 [some (va_rf (some this)), some (.int x1)] [] := by
  intro n
  induction n with
  | zero => intro this x1; exact sn_mf
  | succ n ih => intro this x1; exact s_X7_readsRow_6_st G   (X7_readsRow_6  n) ih this x1
set_option maxRecDepth 100000 in
set_option maxHeartbeats 4000000 in
theorem s_X7_readsRow (G : GG) (this : Nat) : Sn G yX7_readsRow cX7_readsRow 2 (some FieldType.boolean) 8 184 (fun v : Int32 => some (.int v)) (X7_readsRow this) 0 [some (va_rf (some this)), none] [] := by
  unfold X7_readsRow
  refine sn_aload_n (v := (some this)) (pc' := 1) dX7_readsRow_0 rfl rfl rfl ?_
  refine sn_cV (r := (some this)) (st := []) (As := []) (st2 := (fun _ => [])) (pc' := 4) ci_8 (fun t => c_X7_begin G t ) cw_X7_begin rfl rfl tw346 pw2 tw348 rfl rfl cat_nil rfl (fun _ => rfl) dX7_readsRow_1 rfl (fun _ => ?_)
  refine sn_iconst (v := (0 : Int32)) (pc' := 5) dX7_readsRow_4 rfl (by decide) ?_
  refine sn_istore_n (v := (0 : Int32)) (L' := [some (va_rf (some this)), some (.int (0 : Int32))]) (pc' := 6) dX7_readsRow_5 rfl rfl rfl rfl ?_
  exact sn_weak (le_s (le_s le_e)) (s_X7_readsRow_6 G LFU this (0 : Int32))
theorem c_X7_readsRow (G : GG) (this : Nat) : Cal G yX7_readsRow cX7_readsRow 2 (some FieldType.boolean) 8 184 (fun v : Int32 => some (.int v)) (X7_readsRow this) [.ref this] :=
  Cal.of (by decide) (cat_t cat_nil) rfl (sn_weak (le_s (le_z le_e)) (s_X7_readsRow G this))
theorem cw_X7_readsRow : CW yX7_readsRow cX7_readsRow 2 (some FieldType.boolean) 0 := ⟨tw932, tw5, by decide, by decide +kernel⟩
/-! X0_placeOfSlot -/
theorem dX0_placeOfSlot_0 : decode cX0_placeOfSlot 0 = .ok (.iload_n 1, 1) := by decide +kernel
theorem dX0_placeOfSlot_1 : decode cX0_placeOfSlot 1 = .ok (.ifCond .lt 12, 3) := by decide +kernel
theorem dX0_placeOfSlot_4 : decode cX0_placeOfSlot 4 = .ok (.iload_n 1, 1) := by decide +kernel
theorem dX0_placeOfSlot_5 : decode cX0_placeOfSlot 5 = .ok (.aload_n 0, 1) := by decide +kernel
theorem dX0_placeOfSlot_6 : decode cX0_placeOfSlot 6 = .ok (.getfield 18, 3) := by decide +kernel
theorem dX0_placeOfSlot_9 : decode cX0_placeOfSlot 9 = .ok (.arraylength, 1) := by decide +kernel
theorem dX0_placeOfSlot_10 : decode cX0_placeOfSlot 10 = .ok (.if_icmp .lt 5, 3) := by decide +kernel
theorem dX0_placeOfSlot_13 : decode cX0_placeOfSlot 13 = .ok (.iconst (-1), 1) := by decide +kernel
theorem dX0_placeOfSlot_14 : decode cX0_placeOfSlot 14 = .ok (.ireturn, 1) := by decide +kernel
theorem dX0_placeOfSlot_15 : decode cX0_placeOfSlot 15 = .ok (.aload_n 0, 1) := by decide +kernel
theorem dX0_placeOfSlot_16 : decode cX0_placeOfSlot 16 = .ok (.getfield 18, 3) := by decide +kernel
theorem dX0_placeOfSlot_19 : decode cX0_placeOfSlot 19 = .ok (.iload_n 1, 1) := by decide +kernel
theorem dX0_placeOfSlot_20 : decode cX0_placeOfSlot 20 = .ok (.iaload, 1) := by decide +kernel
theorem dX0_placeOfSlot_21 : decode cX0_placeOfSlot 21 = .ok (.istore_n 3, 1) := by decide +kernel
theorem dX0_placeOfSlot_22 : decode cX0_placeOfSlot 22 = .ok (.aload_n 0, 1) := by decide +kernel
theorem dX0_placeOfSlot_23 : decode cX0_placeOfSlot 23 = .ok (.getfield 12, 3) := by decide +kernel
theorem dX0_placeOfSlot_26 : decode cX0_placeOfSlot 26 = .ok (.iload_n 1, 1) := by decide +kernel
theorem dX0_placeOfSlot_27 : decode cX0_placeOfSlot 27 = .ok (.invokevirtual 70, 3) := by decide +kernel
theorem dX0_placeOfSlot_30 : decode cX0_placeOfSlot 30 = .ok (.istore 4, 2) := by decide +kernel
theorem dX0_placeOfSlot_32 : decode cX0_placeOfSlot 32 = .ok (.iload_n 2, 1) := by decide +kernel
theorem dX0_placeOfSlot_33 : decode cX0_placeOfSlot 33 = .ok (.iconst (-1), 1) := by decide +kernel
theorem dX0_placeOfSlot_34 : decode cX0_placeOfSlot 34 = .ok (.if_icmp .ne 14, 3) := by decide +kernel
theorem dX0_placeOfSlot_37 : decode cX0_placeOfSlot 37 = .ok (.iload 4, 2) := by decide +kernel
theorem dX0_placeOfSlot_39 : decode cX0_placeOfSlot 39 = .ok (.ifCond .eq 7, 3) := by decide +kernel
theorem dX0_placeOfSlot_42 : decode cX0_placeOfSlot 42 = .ok (.iconst (-1), 1) := by decide +kernel
theorem dX0_placeOfSlot_43 : decode cX0_placeOfSlot 43 = .ok (.goto 4, 3) := by decide +kernel
theorem dX0_placeOfSlot_46 : decode cX0_placeOfSlot 46 = .ok (.iload_n 3, 1) := by decide +kernel
theorem dX0_placeOfSlot_47 : decode cX0_placeOfSlot 47 = .ok (.ireturn, 1) := by decide +kernel
theorem dX0_placeOfSlot_48 : decode cX0_placeOfSlot 48 = .ok (.iload_n 2, 1) := by decide +kernel
theorem dX0_placeOfSlot_49 : decode cX0_placeOfSlot 49 = .ok (.iconst 1, 1) := by decide +kernel
theorem dX0_placeOfSlot_50 : decode cX0_placeOfSlot 50 = .ok (.if_icmp .lt 15, 3) := by decide +kernel
theorem dX0_placeOfSlot_53 : decode cX0_placeOfSlot 53 = .ok (.iload_n 2, 1) := by decide +kernel
theorem dX0_placeOfSlot_54 : decode cX0_placeOfSlot 54 = .ok (.aload_n 0, 1) := by decide +kernel
theorem dX0_placeOfSlot_55 : decode cX0_placeOfSlot 55 = .ok (.getfield 12, 3) := by decide +kernel
theorem dX0_placeOfSlot_58 : decode cX0_placeOfSlot 58 = .ok (.iload_n 1, 1) := by decide +kernel
theorem dX0_placeOfSlot_59 : decode cX0_placeOfSlot 59 = .ok (.invokevirtual 81, 3) := by decide +kernel
theorem dX0_placeOfSlot_62 : decode cX0_placeOfSlot 62 = .ok (.if_icmp .le 7, 3) := by decide +kernel
theorem dX0_placeOfSlot_65 : decode cX0_placeOfSlot 65 = .ok (.iconst (-1), 1) := by decide +kernel
theorem dX0_placeOfSlot_66 : decode cX0_placeOfSlot 66 = .ok (.goto 17, 3) := by decide +kernel
theorem dX0_placeOfSlot_69 : decode cX0_placeOfSlot 69 = .ok (.iload_n 3, 1) := by decide +kernel
theorem dX0_placeOfSlot_70 : decode cX0_placeOfSlot 70 = .ok (.iload_n 2, 1) := by decide +kernel
theorem dX0_placeOfSlot_71 : decode cX0_placeOfSlot 71 = .ok (.iadd, 1) := by decide +kernel
theorem dX0_placeOfSlot_72 : decode cX0_placeOfSlot 72 = .ok (.iload 4, 2) := by decide +kernel
theorem dX0_placeOfSlot_74 : decode cX0_placeOfSlot 74 = .ok (.ifCond .eq 7, 3) := by decide +kernel
theorem dX0_placeOfSlot_77 : decode cX0_placeOfSlot 77 = .ok (.iconst 1, 1) := by decide +kernel
theorem dX0_placeOfSlot_78 : decode cX0_placeOfSlot 78 = .ok (.goto 4, 3) := by decide +kernel
theorem dX0_placeOfSlot_81 : decode cX0_placeOfSlot 81 = .ok (.iconst 0, 1) := by decide +kernel
theorem dX0_placeOfSlot_82 : decode cX0_placeOfSlot 82 = .ok (.isub, 1) := by decide +kernel
theorem dX0_placeOfSlot_83 : decode cX0_placeOfSlot 83 = .ok (.ireturn, 1) := by decide +kernel
def X0_placeOfSlot (this : Nat) (a1 : Int32) (a2 : Int32) : MM Int32 :=
  if a1 < 0 then (mr (-1 : Int32)) else (mb (gR 2 (some this) 1) fun v1 =>
  mb (aN v1) fun v2 =>
  if a1 < v2 then (mb (gR 2 (some this) 1) fun v3 =>
  mb (aI v3 a1) fun v4 =>
  mb (gR 2 (some this) 0) fun v5 =>
  mb (wc 7 v5 fun t => X6_isCut t a1) fun v6 =>
  if a2 = (-1 : Int32) then (if v6 = 0 then (mr v4) else (mr (-1 : Int32))) else (if a2 < (1 : Int32) then (mr (-1 : Int32)) else (mb (gR 2 (some this) 0) fun v7 =>
  mb (wc 7 v7 fun t => X6_insertedAt t a1) fun v8 =>
  if a2 ≤ v8 then (if v6 = 0 then (mr ((v4 + a2) - (0 : Int32))) else (mr ((v4 + a2) - (1 : Int32)))) else (mr (-1 : Int32))))) else (mr (-1 : Int32)))
set_option maxRecDepth 100000 in
set_option maxHeartbeats 4000000 in
theorem s_X0_placeOfSlot (G : GG) (this : Nat) (a1 : Int32) (a2 : Int32) : Sn G yX0_placeOfSlot cX0_placeOfSlot 5 (some FieldType.int) 2 42 (fun v : Int32 => some (.int v)) (X0_placeOfSlot this a1 a2) 0 [some (va_rf (some this)), some (.int a1), some (.int a2), none, none] [] := by
  unfold X0_placeOfSlot
  refine sn_iload_n (v := a1) (pc' := 1) dX0_placeOfSlot_0 rfl rfl rfl ?_
  refine sn_if_lt (pt := 13) (pf := 4) dX0_placeOfSlot_1 rfl rfl ?_ ?_
  · refine sn_iconst (v := (-1 : Int32)) (pc' := 14) dX0_placeOfSlot_13 rfl (by decide) ?_
    exact sn_iret dX0_placeOfSlot_14 rfl rfl
  · refine sn_iload_n (v := a1) (pc' := 5) dX0_placeOfSlot_4 rfl rfl rfl ?_
    refine sn_aload_n (v := (some this)) (pc' := 6) dX0_placeOfSlot_5 rfl rfl rfl ?_
    refine sn_gR (k := 1) (pc' := 9) ci_2 rfl (Or.inl tw882) dX0_placeOfSlot_6 rfl (fun v1 => ?_)
    refine sn_aN (pc' := 10) dX0_placeOfSlot_9 rfl (fun v2 => ?_)
    refine sn_ic_lt (pt := 15) (pf := 13) dX0_placeOfSlot_10 rfl rfl ?_ ?_
    · refine sn_aload_n (v := (some this)) (pc' := 16) dX0_placeOfSlot_15 rfl rfl rfl ?_
      refine sn_gR (k := 1) (pc' := 19) ci_2 rfl (Or.inl tw882) dX0_placeOfSlot_16 rfl (fun v3 => ?_)
      refine sn_iload_n (v := a1) (pc' := 20) dX0_placeOfSlot_19 rfl rfl rfl ?_
      refine sn_aI (pc' := 21) dX0_placeOfSlot_20 rfl (fun v4 => ?_)
      refine sn_istore_n (v := v4) (L' := [some (va_rf (some this)), some (.int a1), some (.int a2), some (.int v4), none]) (pc' := 22) dX0_placeOfSlot_21 rfl rfl rfl rfl ?_
      refine sn_aload_n (v := (some this)) (pc' := 23) dX0_placeOfSlot_22 rfl rfl rfl ?_
      refine sn_gR (k := 0) (pc' := 26) ci_2 rfl (Or.inl tw880) dX0_placeOfSlot_23 rfl (fun v5 => ?_)
      refine sn_iload_n (v := a1) (pc' := 27) dX0_placeOfSlot_26 rfl rfl rfl ?_
      refine sn_cV (r := v5) (st := []) (As := [.int a1]) (st2 := (fun v => .int v :: [])) (pc' := 30) ci_7 (fun t => c_X6_isCut G t a1) cw_X6_isCut rfl rfl tw865 tw867 tw866 rfl rfl cat_nil rfl (fun _ => rfl) dX0_placeOfSlot_27 rfl (fun v6 => ?_)
      refine sn_istore (v := v6) (L' := [some (va_rf (some this)), some (.int a1), some (.int a2), some (.int v4), some (.int v6)]) (pc' := 32) dX0_placeOfSlot_30 rfl rfl rfl ?_
      refine sn_iload_n (v := a2) (pc' := 33) dX0_placeOfSlot_32 rfl rfl rfl ?_
      refine sn_iconst (v := (-1 : Int32)) (pc' := 34) dX0_placeOfSlot_33 rfl (by decide) ?_
      refine sn_ic_ne (pt := 48) (pf := 37) dX0_placeOfSlot_34 rfl rfl ?_ ?_
      · refine sn_iload (v := v6) (pc' := 39) dX0_placeOfSlot_37 rfl rfl ?_
        refine sn_if_eq (pt := 46) (pf := 42) dX0_placeOfSlot_39 rfl rfl ?_ ?_
        · refine sn_iload_n (v := v4) (pc' := 47) dX0_placeOfSlot_46 rfl rfl rfl ?_
          exact sn_iret dX0_placeOfSlot_47 rfl rfl
        · refine sn_iconst (v := (-1 : Int32)) (pc' := 43) dX0_placeOfSlot_42 rfl (by decide) ?_
          refine sn_goto (pc' := 47) dX0_placeOfSlot_43 rfl ?_
          exact sn_iret dX0_placeOfSlot_47 rfl rfl
      · refine sn_iload_n (v := a2) (pc' := 49) dX0_placeOfSlot_48 rfl rfl rfl ?_
        refine sn_iconst (v := (1 : Int32)) (pc' := 50) dX0_placeOfSlot_49 rfl (by decide) ?_
        refine sn_ic_lt (pt := 65) (pf := 53) dX0_placeOfSlot_50 rfl rfl ?_ ?_
        · refine sn_iconst (v := (-1 : Int32)) (pc' := 66) dX0_placeOfSlot_65 rfl (by decide) ?_
          refine sn_goto (pc' := 83) dX0_placeOfSlot_66 rfl ?_
          exact sn_iret dX0_placeOfSlot_83 rfl rfl
        · refine sn_iload_n (v := a2) (pc' := 54) dX0_placeOfSlot_53 rfl rfl rfl ?_
          refine sn_aload_n (v := (some this)) (pc' := 55) dX0_placeOfSlot_54 rfl rfl rfl ?_
          refine sn_gR (k := 0) (pc' := 58) ci_2 rfl (Or.inl tw880) dX0_placeOfSlot_55 rfl (fun v7 => ?_)
          refine sn_iload_n (v := a1) (pc' := 59) dX0_placeOfSlot_58 rfl rfl rfl ?_
          refine sn_cV (r := v7) (st := [.int a2]) (As := [.int a1]) (st2 := (fun v => .int v :: [.int a2])) (pc' := 62) ci_7 (fun t => c_X6_insertedAt G t a1) cw_X6_insertedAt rfl rfl tw879 tw577 tw576 rfl rfl (cat_i cat_nil) rfl (fun _ => rfl) dX0_placeOfSlot_59 rfl (fun v8 => ?_)
          refine sn_ic_le (pt := 69) (pf := 65) dX0_placeOfSlot_62 rfl rfl ?_ ?_
          · refine sn_iload_n (v := v4) (pc' := 70) dX0_placeOfSlot_69 rfl rfl rfl ?_
            refine sn_iload_n (v := a2) (pc' := 71) dX0_placeOfSlot_70 rfl rfl rfl ?_
            refine sn_iadd (pc' := 72) dX0_placeOfSlot_71 rfl ?_
            refine sn_iload (v := v6) (pc' := 74) dX0_placeOfSlot_72 rfl rfl ?_
            refine sn_if_eq (pt := 81) (pf := 77) dX0_placeOfSlot_74 rfl rfl ?_ ?_
            · refine sn_iconst (v := (0 : Int32)) (pc' := 82) dX0_placeOfSlot_81 rfl (by decide) ?_
              refine sn_isub (pc' := 83) dX0_placeOfSlot_82 rfl ?_
              exact sn_iret dX0_placeOfSlot_83 rfl rfl
            · refine sn_iconst (v := (1 : Int32)) (pc' := 78) dX0_placeOfSlot_77 rfl (by decide) ?_
              refine sn_goto (pc' := 82) dX0_placeOfSlot_78 rfl ?_
              refine sn_isub (pc' := 83) dX0_placeOfSlot_82 rfl ?_
              exact sn_iret dX0_placeOfSlot_83 rfl rfl
          · refine sn_iconst (v := (-1 : Int32)) (pc' := 66) dX0_placeOfSlot_65 rfl (by decide) ?_
            refine sn_goto (pc' := 83) dX0_placeOfSlot_66 rfl ?_
            exact sn_iret dX0_placeOfSlot_83 rfl rfl
    · refine sn_iconst (v := (-1 : Int32)) (pc' := 14) dX0_placeOfSlot_13 rfl (by decide) ?_
      exact sn_iret dX0_placeOfSlot_14 rfl rfl
theorem c_X0_placeOfSlot (G : GG) (this : Nat) (a1 : Int32) (a2 : Int32) : Cal G yX0_placeOfSlot cX0_placeOfSlot 5 (some FieldType.int) 2 42 (fun v : Int32 => some (.int v)) (X0_placeOfSlot this a1 a2) [.ref this, .int a1, .int a2] :=
  Cal.of (by decide) (cat_t (cat_i (cat_i cat_nil))) rfl (sn_weak (le_s (le_s (le_s (le_z (le_z le_e))))) (s_X0_placeOfSlot G this a1 a2))
theorem cw_X0_placeOfSlot : CW yX0_placeOfSlot cX0_placeOfSlot 5 (some FieldType.int) 2 := ⟨tw953, tw21, by decide, by decide +kernel⟩
/-! X0_placeOf -/
theorem dX0_placeOf_0 : decode cX0_placeOf 0 = .ok (.aload_n 0, 1) := by decide +kernel
theorem dX0_placeOf_1 : decode cX0_placeOf 1 = .ok (.aload_n 0, 1) := by decide +kernel
theorem dX0_placeOf_2 : decode cX0_placeOf 2 = .ok (.getfield 12, 3) := by decide +kernel
theorem dX0_placeOf_5 : decode cX0_placeOf 5 = .ok (.aload_n 1, 1) := by decide +kernel
theorem dX0_placeOf_6 : decode cX0_placeOf 6 = .ok (.getfield 111, 3) := by decide +kernel
theorem dX0_placeOf_9 : decode cX0_placeOf 9 = .ok (.iload_n 2, 1) := by decide +kernel
theorem dX0_placeOf_10 : decode cX0_placeOf 10 = .ok (.invokevirtual 96, 3) := by decide +kernel
theorem dX0_placeOf_13 : decode cX0_placeOf 13 = .ok (.aload_n 1, 1) := by decide +kernel
theorem dX0_placeOf_14 : decode cX0_placeOf 14 = .ok (.getfield 116, 3) := by decide +kernel
theorem dX0_placeOf_17 : decode cX0_placeOf 17 = .ok (.iload_n 2, 1) := by decide +kernel
theorem dX0_placeOf_18 : decode cX0_placeOf 18 = .ok (.invokevirtual 96, 3) := by decide +kernel
theorem dX0_placeOf_21 : decode cX0_placeOf 21 = .ok (.invokevirtual 62, 3) := by decide +kernel
theorem dX0_placeOf_24 : decode cX0_placeOf 24 = .ok (.aload_n 1, 1) := by decide +kernel
theorem dX0_placeOf_25 : decode cX0_placeOf 25 = .ok (.getfield 119, 3) := by decide +kernel
theorem dX0_placeOf_28 : decode cX0_placeOf 28 = .ok (.iload_n 2, 1) := by decide +kernel
theorem dX0_placeOf_29 : decode cX0_placeOf 29 = .ok (.invokevirtual 96, 3) := by decide +kernel
theorem dX0_placeOf_32 : decode cX0_placeOf 32 = .ok (.invokevirtual 108, 3) := by decide +kernel
theorem dX0_placeOf_35 : decode cX0_placeOf 35 = .ok (.ireturn, 1) := by decide +kernel
def X0_placeOf (this : Nat) (a1 : Option Nat) (a2 : Int32) : MM Int32 :=
  mb (gR 2 (some this) 0) fun v1 =>
  mb (gR 6 a1 1) fun v2 =>
  mb (wc 9 v2 fun t => X8_get t a2) fun v3 =>
  mb (gR 6 a1 2) fun v4 =>
  mb (wc 9 v4 fun t => X8_get t a2) fun v5 =>
  mb (wc 7 v1 fun t => X6_slotOf t v3 v5) fun v6 =>
  mb (gR 6 a1 3) fun v7 =>
  mb (wc 9 v7 fun t => X8_get t a2) fun v8 =>
  mb (wc 2 (some this) fun t => X0_placeOfSlot t v6 v8) fun v9 =>
  mr v9
set_option maxRecDepth 100000 in
set_option maxHeartbeats 4000000 in
theorem s_X0_placeOf (G : GG) (this : Nat) (a1 : Option Nat) (a2 : Int32) : Sn G yX0_placeOf cX0_placeOf 3 (some FieldType.int) 3 66 (fun v : Int32 => some (.int v)) (X0_placeOf this a1 a2) 0 [some (va_rf (some this)), some (va_rf a1), some (.int a2)] [] := by
  unfold X0_placeOf
  refine sn_aload_n (v := (some this)) (pc' := 1) dX0_placeOf_0 rfl rfl rfl ?_
  refine sn_aload_n (v := (some this)) (pc' := 2) dX0_placeOf_1 rfl rfl rfl ?_
  refine sn_gR (k := 0) (pc' := 5) ci_2 rfl (Or.inl tw880) dX0_placeOf_2 rfl (fun v1 => ?_)
  refine sn_aload_n (v := a1) (pc' := 6) dX0_placeOf_5 rfl rfl rfl ?_
  refine sn_gR (k := 1) (pc' := 9) ci_6 rfl (Or.inr ⟨_, nw138⟩) dX0_placeOf_6 rfl (fun v2 => ?_)
  refine sn_iload_n (v := a2) (pc' := 10) dX0_placeOf_9 rfl rfl rfl ?_
  refine sn_cV (r := v2) (st := [va_rf v1, va_rf (some this)]) (As := [.int a2]) (st2 := (fun v => .int v :: [va_rf v1, va_rf (some this)])) (pc' := 13) ci_9 (fun t => c_X8_get G t a2) cw_X8_get rfl rfl tw949 tw497 tw496 rfl rfl (cat_q (cat_q cat_nil)) rfl (fun _ => rfl) dX0_placeOf_10 rfl (fun v3 => ?_)
  refine sn_aload_n (v := a1) (pc' := 14) dX0_placeOf_13 rfl rfl rfl ?_
  refine sn_gR (k := 2) (pc' := 17) ci_6 rfl (Or.inr ⟨_, nw142⟩) dX0_placeOf_14 rfl (fun v4 => ?_)
  refine sn_iload_n (v := a2) (pc' := 18) dX0_placeOf_17 rfl rfl rfl ?_
  refine sn_cV (r := v4) (st := [.int v3, va_rf v1, va_rf (some this)]) (As := [.int a2]) (st2 := (fun v => .int v :: [.int v3, va_rf v1, va_rf (some this)])) (pc' := 21) ci_9 (fun t => c_X8_get G t a2) cw_X8_get rfl rfl tw949 tw497 tw496 rfl rfl (cat_i (cat_q (cat_q cat_nil))) rfl (fun _ => rfl) dX0_placeOf_18 rfl (fun v5 => ?_)
  refine sn_cV (r := v1) (st := [va_rf (some this)]) (As := [.int v3, .int v5]) (st2 := (fun v => .int v :: [va_rf (some this)])) (pc' := 24) ci_7 (fun t => c_X6_slotOf G t v3 v5) cw_X6_slotOf rfl rfl tw860 tw560 tw559 rfl rfl (cat_q cat_nil) rfl (fun _ => rfl) dX0_placeOf_21 rfl (fun v6 => ?_)
  refine sn_aload_n (v := a1) (pc' := 25) dX0_placeOf_24 rfl rfl rfl ?_
  refine sn_gR (k := 3) (pc' := 28) ci_6 rfl (Or.inr ⟨_, nw146⟩) dX0_placeOf_25 rfl (fun v7 => ?_)
  refine sn_iload_n (v := a2) (pc' := 29) dX0_placeOf_28 rfl rfl rfl ?_
  refine sn_cV (r := v7) (st := [.int v6, va_rf (some this)]) (As := [.int a2]) (st2 := (fun v => .int v :: [.int v6, va_rf (some this)])) (pc' := 32) ci_9 (fun t => c_X8_get G t a2) cw_X8_get rfl rfl tw949 tw497 tw496 rfl rfl (cat_i (cat_q cat_nil)) rfl (fun _ => rfl) dX0_placeOf_29 rfl (fun v8 => ?_)
  refine sn_cV (r := (some this)) (st := []) (As := [.int v6, .int v8]) (st2 := (fun v => .int v :: [])) (pc' := 35) ci_2 (fun t => c_X0_placeOfSlot G t v6 v8) cw_X0_placeOfSlot rfl rfl tw950 pw26 tw952 rfl rfl cat_nil rfl (fun _ => rfl) dX0_placeOf_32 rfl (fun v9 => ?_)
  exact sn_iret dX0_placeOf_35 rfl rfl
theorem c_X0_placeOf (G : GG) (this : Nat) (a1 : Option Nat) (a2 : Int32) : Cal G yX0_placeOf cX0_placeOf 3 (some FieldType.int) 3 66 (fun v : Int32 => some (.int v)) (X0_placeOf this a1 a2) [.ref this, va_rf a1, .int a2] :=
  Cal.of (by decide) (cat_t (cat_q (cat_i cat_nil))) rfl (sn_weak (le_s (le_s (le_s le_e))) (s_X0_placeOf G this a1 a2))
theorem cw_X0_placeOf : CW yX0_placeOf cX0_placeOf 3 (some FieldType.int) 2 := ⟨tw948, tw21, by decide, by decide +kernel⟩
/-! X5_isJoined -/
theorem dX5_isJoined_0 : decode cX5_isJoined 0 = .ok (.aload_n 0, 1) := by decide +kernel
theorem dX5_isJoined_1 : decode cX5_isJoined 1 = .ok (.getfield 14, 3) := by decide +kernel
theorem dX5_isJoined_4 : decode cX5_isJoined 4 = .ok (.iload_n 1, 1) := by decide +kernel
theorem dX5_isJoined_5 : decode cX5_isJoined 5 = .ok (.invokevirtual 36, 3) := by decide +kernel
theorem dX5_isJoined_8 : decode cX5_isJoined 8 = .ok (.bipush 45, 2) := by decide +kernel
theorem dX5_isJoined_10 : decode cX5_isJoined 10 = .ok (.if_icmp .ne 7, 3) := by decide +kernel
theorem dX5_isJoined_13 : decode cX5_isJoined 13 = .ok (.iconst 1, 1) := by decide +kernel
theorem dX5_isJoined_14 : decode cX5_isJoined 14 = .ok (.goto 4, 3) := by decide +kernel
theorem dX5_isJoined_17 : decode cX5_isJoined 17 = .ok (.iconst 0, 1) := by decide +kernel
theorem dX5_isJoined_18 : decode cX5_isJoined 18 = .ok (.ireturn, 1) := by decide +kernel
def X5_isJoined (this : Nat) (a1 : Int32) : MM Int32 :=
  mb (gR 6 (some this) 0) fun v1 =>
  mb (wc 9 v1 fun t => X8_get t a1) fun v2 =>
  if v2 = (45 : Int32) then (mr (1 : Int32)) else (mr (0 : Int32))
set_option maxRecDepth 100000 in
set_option maxHeartbeats 4000000 in
theorem s_X5_isJoined (G : GG) (this : Nat) (a1 : Int32) : Sn G yX5_isJoined cX5_isJoined 2 (some FieldType.boolean) 1 21 (fun v : Int32 => some (.int v)) (X5_isJoined this a1) 0 [some (va_rf (some this)), some (.int a1)] [] := by
  unfold X5_isJoined
  refine sn_aload_n (v := (some this)) (pc' := 1) dX5_isJoined_0 rfl rfl rfl ?_
  refine sn_gR (k := 0) (pc' := 4) ci_6 rfl (Or.inl tw133) dX5_isJoined_1 rfl (fun v1 => ?_)
  refine sn_iload_n (v := a1) (pc' := 5) dX5_isJoined_4 rfl rfl rfl ?_
  refine sn_cV (r := v1) (st := []) (As := [.int a1]) (st2 := (fun v => .int v :: [])) (pc' := 8) ci_9 (fun t => c_X8_get G t a1) cw_X8_get rfl rfl tw958 tw497 tw496 rfl rfl cat_nil rfl (fun _ => rfl) dX5_isJoined_5 rfl (fun v2 => ?_)
  refine sn_bipush (v := (45 : Int32)) (pc' := 10) dX5_isJoined_8 rfl (by decide) ?_
  refine sn_ic_ne (pt := 17) (pf := 13) dX5_isJoined_10 rfl rfl ?_ ?_
  · refine sn_iconst (v := (1 : Int32)) (pc' := 14) dX5_isJoined_13 rfl (by decide) ?_
    refine sn_goto (pc' := 18) dX5_isJoined_14 rfl ?_
    exact sn_iret dX5_isJoined_18 rfl (by decide)
  · refine sn_iconst (v := (0 : Int32)) (pc' := 18) dX5_isJoined_17 rfl (by decide) ?_
    exact sn_iret dX5_isJoined_18 rfl (by decide)
theorem c_X5_isJoined (G : GG) (this : Nat) (a1 : Int32) : Cal G yX5_isJoined cX5_isJoined 2 (some FieldType.boolean) 1 21 (fun v : Int32 => some (.int v)) (X5_isJoined this a1) [.ref this, .int a1] :=
  Cal.of (by decide) (cat_t (cat_i cat_nil)) rfl (sn_weak (le_s (le_s le_e)) (s_X5_isJoined G this a1))
theorem cw_X5_isJoined : CW yX5_isJoined cX5_isJoined 2 (some FieldType.boolean) 1 := ⟨tw957, tw7, by decide, by decide +kernel⟩
/-! X3_ofRow -/
theorem dX3_ofRow_0 : decode cX3_ofRow 0 = .ok (.iconst 0, 1) := by decide +kernel
theorem dX3_ofRow_1 : decode cX3_ofRow 1 = .ok (.istore_n 2, 1) := by decide +kernel
theorem dX3_ofRow_2 : decode cX3_ofRow 2 = .ok (.iload_n 2, 1) := by decide +kernel
theorem dX3_ofRow_3 : decode cX3_ofRow 3 = .ok (.aload_n 0, 1) := by decide +kernel
theorem dX3_ofRow_4 : decode cX3_ofRow 4 = .ok (.invokevirtual 102, 3) := by decide +kernel
theorem dX3_ofRow_7 : decode cX3_ofRow 7 = .ok (.if_icmp .ge 44, 3) := by decide +kernel
theorem dX3_ofRow_10 : decode cX3_ofRow 10 = .ok (.aload_n 1, 1) := by decide +kernel
theorem dX3_ofRow_11 : decode cX3_ofRow 11 = .ok (.aload_n 0, 1) := by decide +kernel
theorem dX3_ofRow_12 : decode cX3_ofRow 12 = .ok (.iload_n 2, 1) := by decide +kernel
theorem dX3_ofRow_13 : decode cX3_ofRow 13 = .ok (.invokevirtual 106, 3) := by decide +kernel
theorem dX3_ofRow_16 : decode cX3_ofRow 16 = .ok (.istore_n 3, 1) := by decide +kernel
theorem dX3_ofRow_17 : decode cX3_ofRow 17 = .ok (.iload_n 3, 1) := by decide +kernel
theorem dX3_ofRow_18 : decode cX3_ofRow 18 = .ok (.iconst (-1), 1) := by decide +kernel
theorem dX3_ofRow_19 : decode cX3_ofRow 19 = .ok (.if_icmp .eq 23, 3) := by decide +kernel
theorem dX3_ofRow_22 : decode cX3_ofRow 22 = .ok (.aload_n 0, 1) := by decide +kernel
theorem dX3_ofRow_23 : decode cX3_ofRow 23 = .ok (.iload_n 2, 1) := by decide +kernel
theorem dX3_ofRow_24 : decode cX3_ofRow 24 = .ok (.invokevirtual 112, 3) := by decide +kernel
theorem dX3_ofRow_27 : decode cX3_ofRow 27 = .ok (.ifCond .eq 18, 3) := by decide +kernel
theorem dX3_ofRow_30 : decode cX3_ofRow 30 = .ok (.iload_n 3, 1) := by decide +kernel
theorem dX3_ofRow_31 : decode cX3_ofRow 31 = .ok (.aload_n 1, 1) := by decide +kernel
theorem dX3_ofRow_32 : decode cX3_ofRow 32 = .ok (.aload_n 0, 1) := by decide +kernel
theorem dX3_ofRow_33 : decode cX3_ofRow 33 = .ok (.iload_n 2, 1) := by decide +kernel
theorem dX3_ofRow_34 : decode cX3_ofRow 34 = .ok (.iconst 1, 1) := by decide +kernel
theorem dX3_ofRow_35 : decode cX3_ofRow 35 = .ok (.isub, 1) := by decide +kernel
theorem dX3_ofRow_36 : decode cX3_ofRow 36 = .ok (.invokevirtual 106, 3) := by decide +kernel
theorem dX3_ofRow_39 : decode cX3_ofRow 39 = .ok (.if_icmp .gt 6, 3) := by decide +kernel
theorem dX3_ofRow_42 : decode cX3_ofRow 42 = .ok (.bipush 7, 2) := by decide +kernel
theorem dX3_ofRow_44 : decode cX3_ofRow 44 = .ok (.ireturn, 1) := by decide +kernel
theorem dX3_ofRow_45 : decode cX3_ofRow 45 = .ok (.iinc 2 1, 3) := by decide +kernel
theorem dX3_ofRow_48 : decode cX3_ofRow 48 = .ok (.goto (-46), 3) := by decide +kernel
theorem dX3_ofRow_51 : decode cX3_ofRow 51 = .ok (.iconst 0, 1) := by decide +kernel
theorem dX3_ofRow_52 : decode cX3_ofRow 52 = .ok (.ireturn, 1) := by decide +kernel
def X3_ofRow_45 (k2 : Option Nat → Option Nat → Int32 → MM Int32) (x0 : Option Nat) (x1 : Option Nat) (x2 : Int32) : MM Int32 :=
  (k2 x0 x1 (x2 + (1 : Int32)))
def X3_ofRow_2_st  (k2 : Option Nat → Option Nat → Int32 → MM Int32) (x0 : Option Nat) (x1 : Option Nat) (x2 : Int32) : MM Int32 :=
  mb (wc 6 x0 fun t => X5_amount t ) fun v1 =>
  if v1 ≤ x2 then (mr (0 : Int32)) else (mb (wc 2 x1 fun t => X0_placeOf t x0 x2) fun v2 =>
  if v2 = (-1 : Int32) then (mr (7 : Int32)) else (mb (wc 6 x0 fun t => X5_isJoined t x2) fun v3 =>
  if v3 = 0 then ((X3_ofRow_45 k2 x0 x1 x2)) else (mb (wc 2 x1 fun t => X0_placeOf t x0 (x2 - (1 : Int32))) fun v4 =>
  if v4 < v2 then ((X3_ofRow_45 k2 x0 x1 x2)) else (mr (7 : Int32)))))
def X3_ofRow_2  : Nat → Option Nat → Option Nat → Int32 → MM Int32
  | 0 => fun _ _ _ => mf
  | n + 1 => fun x0 x1 x2 => X3_ofRow_2_st  (X3_ofRow_2  n) x0 x1 x2
def X3_ofRow (a0 : Option Nat) (a1 : Option Nat) : MM Int32 :=
  (X3_ofRow_2 LFU a0 a1 (0 : Int32))
set_option maxRecDepth 100000 in
set_option maxHeartbeats 4000000 in
theorem s_X3_ofRow_45 (G : GG) (k2 : Option Nat → Option Nat → Int32 → MM Int32) (hk2 : ∀ (x0 : Option Nat) (x1 : Option Nat) (x2 : Int32), Sn G yX3_ofRow cX3_ofRow 4 (some FieldType.int) 4 88 (fun v : Int32 => some (.int v)) (k2 x0 x1 x2) 2 [some (va_rf x0), some (va_rf x1), some (.int x2), none] []) (x0 : Option Nat) (x1 : Option Nat) (x2 : Int32) : Sn G yX3_ofRow cX3_ofRow 4 (some FieldType.int) 4 88 (fun v : Int32 => some (.int v)) (X3_ofRow_45 k2 x0 x1 x2) 45 [some (va_rf x0), some (va_rf x1), some (.int x2), none] [] := by
  unfold X3_ofRow_45
  refine sn_iinc (v := x2) (w := 1) (L' := [some (va_rf x0), some (va_rf x1), some (.int (x2 + (1 : Int32))), none]) (pc' := 48) dX3_ofRow_45 rfl rfl rfl (by decide) rfl ?_
  refine sn_goto (pc' := 2) dX3_ofRow_48 rfl ?_
  exact sn_weak (le_s (le_s (le_s (le_n le_e)))) (hk2 x0 x1 (x2 + (1 : Int32)))
set_option maxRecDepth 100000 in
set_option maxHeartbeats 4000000 in
theorem s_X3_ofRow_2_st (G : GG)   (k2 : Option Nat → Option Nat → Int32 → MM Int32) (hk2 : ∀ (x0 : Option Nat) (x1 : Option Nat) (x2 : Int32), Sn G yX3_ofRow cX3_ofRow 4 (some FieldType.int) 4 88 (fun v : Int32 => some (.int v)) (k2 x0 x1 x2) 2 [some (va_rf x0), some (va_rf x1), some (.int x2), none] []) (x0 : Option Nat) (x1 : Option Nat) (x2 : Int32) : Sn G yX3_ofRow cX3_ofRow 4 (some FieldType.int) 4 88 (fun v : Int32 => some (.int v)) (X3_ofRow_2_st  k2 x0 x1 x2) 2 [some (va_rf x0), some (va_rf x1), some (.int x2), none] [] := by
  unfold X3_ofRow_2_st
  refine sn_iload_n (v := x2) (pc' := 3) dX3_ofRow_2 rfl rfl rfl ?_
  refine sn_aload_n (v := x0) (pc' := 4) dX3_ofRow_3 rfl rfl rfl ?_
  refine sn_cV (r := x0) (st := [.int x2]) (As := []) (st2 := (fun v => .int v :: [.int x2])) (pc' := 7) ci_6 (fun t => c_X5_amount G t ) cw_X5_amount rfl rfl tw944 tw514 tw513 rfl rfl (cat_i cat_nil) rfl (fun _ => rfl) dX3_ofRow_4 rfl (fun v1 => ?_)
  refine sn_ic_ge (pt := 51) (pf := 10) dX3_ofRow_7 rfl rfl ?_ ?_
  · refine sn_iconst (v := (0 : Int32)) (pc' := 52) dX3_ofRow_51 rfl (by decide) ?_
    exact sn_iret dX3_ofRow_52 rfl rfl
  · refine sn_aload_n (v := x1) (pc' := 11) dX3_ofRow_10 rfl rfl rfl ?_
    refine sn_aload_n (v := x0) (pc' := 12) dX3_ofRow_11 rfl rfl rfl ?_
    refine sn_iload_n (v := x2) (pc' := 13) dX3_ofRow_12 rfl rfl rfl ?_
    refine sn_cV (r := x1) (st := []) (As := [va_rf x0, .int x2]) (st2 := (fun v => .int v :: [])) (pc' := 16) ci_2 (fun t => c_X0_placeOf G t x0 x2) cw_X0_placeOf rfl rfl tw945 tw947 tw946 rfl rfl cat_nil rfl (fun _ => rfl) dX3_ofRow_13 rfl (fun v2 => ?_)
    refine sn_istore_n (v := v2) (L' := [some (va_rf x0), some (va_rf x1), some (.int x2), some (.int v2)]) (pc' := 17) dX3_ofRow_16 rfl rfl rfl rfl ?_
    refine sn_iload_n (v := v2) (pc' := 18) dX3_ofRow_17 rfl rfl rfl ?_
    refine sn_iconst (v := (-1 : Int32)) (pc' := 19) dX3_ofRow_18 rfl (by decide) ?_
    refine sn_ic_eq (pt := 42) (pf := 22) dX3_ofRow_19 rfl rfl ?_ ?_
    · refine sn_bipush (v := (7 : Int32)) (pc' := 44) dX3_ofRow_42 rfl (by decide) ?_
      exact sn_iret dX3_ofRow_44 rfl rfl
    · refine sn_aload_n (v := x0) (pc' := 23) dX3_ofRow_22 rfl rfl rfl ?_
      refine sn_iload_n (v := x2) (pc' := 24) dX3_ofRow_23 rfl rfl rfl ?_
      refine sn_cV (r := x0) (st := []) (As := [.int x2]) (st2 := (fun v => .int v :: [])) (pc' := 27) ci_6 (fun t => c_X5_isJoined G t x2) cw_X5_isJoined rfl rfl tw954 tw956 tw955 rfl rfl cat_nil rfl (fun _ => rfl) dX3_ofRow_24 rfl (fun v3 => ?_)
      refine sn_if_eq (pt := 45) (pf := 30) dX3_ofRow_27 rfl rfl ?_ ?_
      · exact sn_weak (le_s (le_s (le_s (le_n le_e)))) (s_X3_ofRow_45 G k2 hk2 x0 x1 x2)
      · refine sn_iload_n (v := v2) (pc' := 31) dX3_ofRow_30 rfl rfl rfl ?_
        refine sn_aload_n (v := x1) (pc' := 32) dX3_ofRow_31 rfl rfl rfl ?_
        refine sn_aload_n (v := x0) (pc' := 33) dX3_ofRow_32 rfl rfl rfl ?_
        refine sn_iload_n (v := x2) (pc' := 34) dX3_ofRow_33 rfl rfl rfl ?_
        refine sn_iconst (v := (1 : Int32)) (pc' := 35) dX3_ofRow_34 rfl (by decide) ?_
        refine sn_isub (pc' := 36) dX3_ofRow_35 rfl ?_
        refine sn_cV (r := x1) (st := [.int v2]) (As := [va_rf x0, .int (x2 - (1 : Int32))]) (st2 := (fun v => .int v :: [.int v2])) (pc' := 39) ci_2 (fun t => c_X0_placeOf G t x0 (x2 - (1 : Int32))) cw_X0_placeOf rfl rfl tw945 tw947 tw946 rfl rfl (cat_i cat_nil) rfl (fun _ => rfl) dX3_ofRow_36 rfl (fun v4 => ?_)
        refine sn_ic_gt (pt := 45) (pf := 42) dX3_ofRow_39 rfl rfl ?_ ?_
        · exact sn_weak (le_s (le_s (le_s (le_n le_e)))) (s_X3_ofRow_45 G k2 hk2 x0 x1 x2)
        · refine sn_bipush (v := (7 : Int32)) (pc' := 44) dX3_ofRow_42 rfl (by decide) ?_
          exact sn_iret dX3_ofRow_44 rfl rfl
set_option maxRecDepth 100000 in
set_option maxHeartbeats 4000000 in
theorem s_X3_ofRow_2 (G : GG)   : ∀ (n : Nat) (x0 : Option Nat) (x1 : Option Nat) (x2 : Int32), Sn G yX3_ofRow cX3_ofRow 4 (some FieldType.int) 4 88 (fun v : Int32 => some (.int v)) (X3_ofRow_2  n x0 x1 x2) 2 [some (va_rf x0), some (va_rf x1), some (.int x2), none] [] := by
  intro n
  induction n with
  | zero => intro x0 x1 x2; exact sn_mf
  | succ n ih => intro x0 x1 x2; exact s_X3_ofRow_2_st G   (X3_ofRow_2  n) ih x0 x1 x2
set_option maxRecDepth 100000 in
set_option maxHeartbeats 4000000 in
theorem s_X3_ofRow (G : GG) (a0 : Option Nat) (a1 : Option Nat) : Sn G yX3_ofRow cX3_ofRow 4 (some FieldType.int) 4 88 (fun v : Int32 => some (.int v)) (X3_ofRow a0 a1) 0 [some (va_rf a0), some (va_rf a1), none, none] [] := by
  unfold X3_ofRow
  refine sn_iconst (v := (0 : Int32)) (pc' := 1) dX3_ofRow_0 rfl (by decide) ?_
  refine sn_istore_n (v := (0 : Int32)) (L' := [some (va_rf a0), some (va_rf a1), some (.int (0 : Int32)), none]) (pc' := 2) dX3_ofRow_1 rfl rfl rfl rfl ?_
  exact sn_weak (le_s (le_s (le_s (le_n le_e)))) (s_X3_ofRow_2 G LFU a0 a1 (0 : Int32))
theorem c_X3_ofRow (G : GG) (a0 : Option Nat) (a1 : Option Nat) : Cal G yX3_ofRow cX3_ofRow 4 (some FieldType.int) 4 88 (fun v : Int32 => some (.int v)) (X3_ofRow a0 a1) [va_rf a0, va_rf a1] :=
  Cal.of (by decide) (cat_q (cat_q cat_nil)) rfl (sn_weak (le_s (le_s (le_z (le_z le_e)))) (s_X3_ofRow G a0 a1))
theorem cw_X3_ofRow : CW yX3_ofRow cX3_ofRow 4 (some FieldType.int) 2 := ⟨tw943, tw19, by decide, by decide +kernel⟩
/-! X0_listsEntries -/
theorem dX0_listsEntries_0 : decode cX0_listsEntries 0 = .ok (.aload_n 2, 1) := by decide +kernel
theorem dX0_listsEntries_1 : decode cX0_listsEntries 1 = .ok (.invokevirtual 122, 3) := by decide +kernel
theorem dX0_listsEntries_4 : decode cX0_listsEntries 4 = .ok (.iconst 0, 1) := by decide +kernel
theorem dX0_listsEntries_5 : decode cX0_listsEntries 5 = .ok (.istore_n 3, 1) := by decide +kernel
theorem dX0_listsEntries_6 : decode cX0_listsEntries 6 = .ok (.iload_n 3, 1) := by decide +kernel
theorem dX0_listsEntries_7 : decode cX0_listsEntries 7 = .ok (.aload_n 1, 1) := by decide +kernel
theorem dX0_listsEntries_8 : decode cX0_listsEntries 8 = .ok (.invokevirtual 125, 3) := by decide +kernel
theorem dX0_listsEntries_11 : decode cX0_listsEntries 11 = .ok (.if_icmp .ge 70, 3) := by decide +kernel
theorem dX0_listsEntries_14 : decode cX0_listsEntries 14 = .ok (.aload_n 0, 1) := by decide +kernel
theorem dX0_listsEntries_15 : decode cX0_listsEntries 15 = .ok (.aload_n 1, 1) := by decide +kernel
theorem dX0_listsEntries_16 : decode cX0_listsEntries 16 = .ok (.iload_n 3, 1) := by decide +kernel
theorem dX0_listsEntries_17 : decode cX0_listsEntries 17 = .ok (.invokevirtual 128, 3) := by decide +kernel
theorem dX0_listsEntries_20 : decode cX0_listsEntries 20 = .ok (.istore 4, 2) := by decide +kernel
theorem dX0_listsEntries_22 : decode cX0_listsEntries 22 = .ok (.aload_n 1, 1) := by decide +kernel
theorem dX0_listsEntries_23 : decode cX0_listsEntries 23 = .ok (.iload_n 3, 1) := by decide +kernel
theorem dX0_listsEntries_24 : decode cX0_listsEntries 24 = .ok (.invokevirtual 132, 3) := by decide +kernel
theorem dX0_listsEntries_27 : decode cX0_listsEntries 27 = .ok (.ifCond .eq 16, 3) := by decide +kernel
theorem dX0_listsEntries_30 : decode cX0_listsEntries 30 = .ok (.aload_n 0, 1) := by decide +kernel
theorem dX0_listsEntries_31 : decode cX0_listsEntries 31 = .ok (.aload_n 1, 1) := by decide +kernel
theorem dX0_listsEntries_32 : decode cX0_listsEntries 32 = .ok (.iload_n 3, 1) := by decide +kernel
theorem dX0_listsEntries_33 : decode cX0_listsEntries 33 = .ok (.iconst 1, 1) := by decide +kernel
theorem dX0_listsEntries_34 : decode cX0_listsEntries 34 = .ok (.isub, 1) := by decide +kernel
theorem dX0_listsEntries_35 : decode cX0_listsEntries 35 = .ok (.invokevirtual 128, 3) := by decide +kernel
theorem dX0_listsEntries_38 : decode cX0_listsEntries 38 = .ok (.iconst 1, 1) := by decide +kernel
theorem dX0_listsEntries_39 : decode cX0_listsEntries 39 = .ok (.iadd, 1) := by decide +kernel
theorem dX0_listsEntries_40 : decode cX0_listsEntries 40 = .ok (.goto 5, 3) := by decide +kernel
theorem dX0_listsEntries_43 : decode cX0_listsEntries 43 = .ok (.iload 4, 2) := by decide +kernel
theorem dX0_listsEntries_45 : decode cX0_listsEntries 45 = .ok (.istore 5, 2) := by decide +kernel
theorem dX0_listsEntries_47 : decode cX0_listsEntries 47 = .ok (.iload 5, 2) := by decide +kernel
theorem dX0_listsEntries_49 : decode cX0_listsEntries 49 = .ok (.istore 6, 2) := by decide +kernel
theorem dX0_listsEntries_51 : decode cX0_listsEntries 51 = .ok (.iload 6, 2) := by decide +kernel
theorem dX0_listsEntries_53 : decode cX0_listsEntries 53 = .ok (.iload 4, 2) := by decide +kernel
theorem dX0_listsEntries_55 : decode cX0_listsEntries 55 = .ok (.if_icmp .gt 20, 3) := by decide +kernel
theorem dX0_listsEntries_58 : decode cX0_listsEntries 58 = .ok (.aload_n 2, 1) := by decide +kernel
theorem dX0_listsEntries_59 : decode cX0_listsEntries 59 = .ok (.iload 6, 2) := by decide +kernel
theorem dX0_listsEntries_61 : decode cX0_listsEntries 61 = .ok (.invokevirtual 84, 3) := by decide +kernel
theorem dX0_listsEntries_64 : decode cX0_listsEntries 64 = .ok (.ifCond .ne 5, 3) := by decide +kernel
theorem dX0_listsEntries_67 : decode cX0_listsEntries 67 = .ok (.iconst 0, 1) := by decide +kernel
theorem dX0_listsEntries_68 : decode cX0_listsEntries 68 = .ok (.ireturn, 1) := by decide +kernel
theorem dX0_listsEntries_69 : decode cX0_listsEntries 69 = .ok (.iinc 6 1, 3) := by decide +kernel
theorem dX0_listsEntries_72 : decode cX0_listsEntries 72 = .ok (.goto (-21), 3) := by decide +kernel
theorem dX0_listsEntries_75 : decode cX0_listsEntries 75 = .ok (.iinc 3 1, 3) := by decide +kernel
theorem dX0_listsEntries_78 : decode cX0_listsEntries 78 = .ok (.goto (-72), 3) := by decide +kernel
theorem dX0_listsEntries_81 : decode cX0_listsEntries 81 = .ok (.iconst 1, 1) := by decide +kernel
theorem dX0_listsEntries_82 : decode cX0_listsEntries 82 = .ok (.ireturn, 1) := by decide +kernel
def X0_listsEntries_75 (k6 : Nat → Option Nat → Option Nat → Int32 → MM Int32) (this : Nat) (x1 : Option Nat) (x2 : Option Nat) (x3 : Int32) : MM Int32 :=
  (k6 this x1 x2 (x3 + (1 : Int32)))
def X0_listsEntries_51_st (k6 : Nat → Option Nat → Option Nat → Int32 → MM Int32) (k51 : Nat → Option Nat → Option Nat → Int32 → Int32 → Int32 → MM Int32) (this : Nat) (x1 : Option Nat) (x2 : Option Nat) (x3 : Int32) (x4 : Int32) (x6 : Int32) : MM Int32 :=
  if x4 < x6 then ((X0_listsEntries_75 k6 this x1 x2 x3)) else (mb (wc 9 x2 fun t => X8_add t x6) fun v1 =>
  if v1 = 0 then (mr (0 : Int32)) else ((k51 this x1 x2 x3 x4 (x6 + (1 : Int32)))))
def X0_listsEntries_51 (k6 : Nat → Option Nat → Option Nat → Int32 → MM Int32) : Nat → Nat → Option Nat → Option Nat → Int32 → Int32 → Int32 → MM Int32
  | 0 => fun _ _ _ _ _ _ => mf
  | n + 1 => fun this x1 x2 x3 x4 x6 => X0_listsEntries_51_st k6 (X0_listsEntries_51 k6 n) this x1 x2 x3 x4 x6
def X0_listsEntries_45 (k6 : Nat → Option Nat → Option Nat → Int32 → MM Int32) (this : Nat) (x1 : Option Nat) (x2 : Option Nat) (x3 : Int32) (x4 : Int32) (y0 : Int32) : MM Int32 :=
  (X0_listsEntries_51 k6 LFU this x1 x2 x3 x4 y0)
def X0_listsEntries_6_st  (k6 : Nat → Option Nat → Option Nat → Int32 → MM Int32) (this : Nat) (x1 : Option Nat) (x2 : Option Nat) (x3 : Int32) : MM Int32 :=
  mb (wc 6 x1 fun t => X5_amount t ) fun v1 =>
  if v1 ≤ x3 then (mr (1 : Int32)) else (mb (wc 2 (some this) fun t => X0_placeOf t x1 x3) fun v2 =>
  mb (wc 6 x1 fun t => X5_isJoined t x3) fun v3 =>
  if v3 = 0 then ((X0_listsEntries_45 k6 this x1 x2 x3 v2 v2)) else (mb (wc 2 (some this) fun t => X0_placeOf t x1 (x3 - (1 : Int32))) fun v4 =>
  (X0_listsEntries_45 k6 this x1 x2 x3 v2 (v4 + (1 : Int32)))))
def X0_listsEntries_6  : Nat → Nat → Option Nat → Option Nat → Int32 → MM Int32
  | 0 => fun _ _ _ _ => mf
  | n + 1 => fun this x1 x2 x3 => X0_listsEntries_6_st  (X0_listsEntries_6  n) this x1 x2 x3
def X0_listsEntries (this : Nat) (a1 : Option Nat) (a2 : Option Nat) : MM Int32 :=
  mb (wc 9 a2 fun t => X8_clear t ) fun _ =>
  (X0_listsEntries_6 LFU this a1 a2 (0 : Int32))
set_option maxRecDepth 100000 in
set_option maxHeartbeats 4000000 in
theorem s_X0_listsEntries_75 (G : GG) (k6 : Nat → Option Nat → Option Nat → Int32 → MM Int32) (hk6 : ∀ (this : Nat) (x1 : Option Nat) (x2 : Option Nat) (x3 : Int32), Sn G yX0_listsEntries cX0_listsEntries 7 (some FieldType.boolean) 4 88 (fun v : Int32 => some (.int v)) (k6 this x1 x2 x3) 6 [some (va_rf (some this)), some (va_rf x1), some (va_rf x2), some (.int x3), none, none, none] []) (this : Nat) (x1 : Option Nat) (x2 : Option Nat) (x3 : Int32) : Sn G yX0_listsEntries cX0_listsEntries 7 (some FieldType.boolean) 4 88 (fun v : Int32 => some (.int v)) (X0_listsEntries_75 k6 this x1 x2 x3) 75 [some (va_rf (some this)), some (va_rf x1), some (va_rf x2), some (.int x3), none, none, none] [] := by
  unfold X0_listsEntries_75
  refine sn_iinc (v := x3) (w := 1) (L' := [some (va_rf (some this)), some (va_rf x1), some (va_rf x2), some (.int (x3 + (1 : Int32))), none, none, none]) (pc' := 78) dX0_listsEntries_75 rfl rfl rfl (by decide) rfl ?_
  refine sn_goto (pc' := 6) dX0_listsEntries_78 rfl ?_
  exact sn_weak (le_s (le_s (le_s (le_s (le_n (le_n (le_n le_e))))))) (hk6 this x1 x2 (x3 + (1 : Int32)))
set_option maxRecDepth 100000 in
set_option maxHeartbeats 4000000 in
theorem s_X0_listsEntries_51_st (G : GG) (k6 : Nat → Option Nat → Option Nat → Int32 → MM Int32) (hk6 : ∀ (this : Nat) (x1 : Option Nat) (x2 : Option Nat) (x3 : Int32), Sn G yX0_listsEntries cX0_listsEntries 7 (some FieldType.boolean) 4 88 (fun v : Int32 => some (.int v)) (k6 this x1 x2 x3) 6 [some (va_rf (some this)), some (va_rf x1), some (va_rf x2), some (.int x3), none, none, none] []) (k51 : Nat → Option Nat → Option Nat → Int32 → Int32 → Int32 → MM Int32) (hk51 : ∀ (this : Nat) (x1 : Option Nat) (x2 : Option Nat) (x3 : Int32) (x4 : Int32) (x6 : Int32), Sn G yX0_listsEntries cX0_listsEntries 7 (some FieldType.boolean) 4 88 (fun v : Int32 => some (.int v)) (k51 this x1 x2 x3 x4 x6) 51 [some (va_rf (some this)), some (va_rf x1), some (va_rf x2), some (.int x3), some (.int x4), none, some (.int x6)] []) (this : Nat) (x1 : Option Nat) (x2 : Option Nat) (x3 : Int32) (x4 : Int32) (x6 : Int32) : Sn G yX0_listsEntries cX0_listsEntries 7 (some FieldType.boolean) 4 88 (fun v : Int32 => some (.int v)) (X0_listsEntries_51_st k6 k51 this x1 x2 x3 x4 x6) 51 [some (va_rf (some this)), some (va_rf x1), some (va_rf x2), some (.int x3), some (.int x4), none, some (.int x6)] [] := by
  unfold X0_listsEntries_51_st
  refine sn_iload (v := x6) (pc' := 53) dX0_listsEntries_51 rfl rfl ?_
  refine sn_iload (v := x4) (pc' := 55) dX0_listsEntries_53 rfl rfl ?_
  refine sn_ic_gt (pt := 75) (pf := 58) dX0_listsEntries_55 rfl rfl ?_ ?_
  · exact sn_weak (le_s (le_s (le_s (le_s (le_n (le_n (le_n le_e))))))) (s_X0_listsEntries_75 G k6 hk6 this x1 x2 x3)
  · refine sn_aload_n (v := x2) (pc' := 59) dX0_listsEntries_58 rfl rfl rfl ?_
    refine sn_iload (v := x6) (pc' := 61) dX0_listsEntries_59 rfl rfl ?_
    refine sn_cV (r := x2) (st := []) (As := [.int x6]) (st2 := (fun v => .int v :: [])) (pc' := 64) ci_9 (fun t => c_X8_add G t x6) cw_X8_add rfl rfl tw878 tw484 tw483 rfl rfl cat_nil rfl (fun _ => rfl) dX0_listsEntries_61 rfl (fun v1 => ?_)
    refine sn_if_ne (pt := 69) (pf := 67) dX0_listsEntries_64 rfl rfl ?_ ?_
    · refine sn_iconst (v := (0 : Int32)) (pc' := 68) dX0_listsEntries_67 rfl (by decide) ?_
      exact sn_iret dX0_listsEntries_68 rfl (by decide)
    · refine sn_iinc (v := x6) (w := 1) (L' := [some (va_rf (some this)), some (va_rf x1), some (va_rf x2), some (.int x3), some (.int x4), none, some (.int (x6 + (1 : Int32)))]) (pc' := 72) dX0_listsEntries_69 rfl rfl rfl (by decide) rfl ?_
      refine sn_goto (pc' := 51) dX0_listsEntries_72 rfl ?_
      exact sn_weak (le_s (le_s (le_s (le_s (le_s (le_n (le_s le_e))))))) (hk51 this x1 x2 x3 x4 (x6 + (1 : Int32)))
set_option maxRecDepth 100000 in
set_option maxHeartbeats 4000000 in
theorem s_X0_listsEntries_51 (G : GG) (k6 : Nat → Option Nat → Option Nat → Int32 → MM Int32) (hk6 : ∀ (this : Nat) (x1 : Option Nat) (x2 : Option Nat) (x3 : Int32), Sn G yX0_listsEntries cX0_listsEntries 7 (some FieldType.boolean) 4 88 (fun v : Int32 => some (.int v)) (k6 this x1 x2 x3) 6 [some (va_rf (some this)), some (va_rf x1), some (va_rf x2), some (.int x3), none, none, none] []) : ∀ (n : Nat) (this : Nat) (x1 : Option Nat) (x2 : Option Nat) (x3 : Int32) (x4 : Int32) (x6 : Int32), Sn G yX0_listsEntries cX0_listsEntries 7 (some FieldType.boolean) 4 88 (fun v : Int32 => some (.int v)) (X0_listsEntries_51 k6 n this x1 x2 x3 x4 x6) 51 [some (va_rf (some this)), some (va_rf x1), some (va_rf x2), some (.int x3), some (.int x4), none, some (.int x6)] [] := by
  intro n
  induction n with
  | zero => intro this x1 x2 x3 x4 x6; exact sn_mf
  | succ n ih => intro this x1 x2 x3 x4 x6; exact s_X0_listsEntries_51_st G k6 hk6 (X0_listsEntries_51 k6 n) ih this x1 x2 x3 x4 x6
set_option maxRecDepth 100000 in
set_option maxHeartbeats 4000000 in
theorem s_X0_listsEntries_45 (G : GG) (k6 : Nat → Option Nat → Option Nat → Int32 → MM Int32) (hk6 : ∀ (this : Nat) (x1 : Option Nat) (x2 : Option Nat) (x3 : Int32), Sn G yX0_listsEntries cX0_listsEntries 7 (some FieldType.boolean) 4 88 (fun v : Int32 => some (.int v)) (k6 this x1 x2 x3) 6 [some (va_rf (some this)), some (va_rf x1), some (va_rf x2), some (.int x3), none, none, none] []) (this : Nat) (x1 : Option Nat) (x2 : Option Nat) (x3 : Int32) (x4 : Int32) (y0 : Int32) : Sn G yX0_listsEntries cX0_listsEntries 7 (some FieldType.boolean) 4 88 (fun v : Int32 => some (.int v)) (X0_listsEntries_45 k6 this x1 x2 x3 x4 y0) 45 [some (va_rf (some this)), some (va_rf x1), some (va_rf x2), some (.int x3), some (.int x4), none, none] [.int y0] := by
  unfold X0_listsEntries_45
  refine sn_istore (v := y0) (L' := [some (va_rf (some this)), some (va_rf x1), some (va_rf x2), some (.int x3), some (.int x4), some (.int y0), none]) (pc' := 47) dX0_listsEntries_45 rfl rfl rfl ?_
  refine sn_iload (v := y0) (pc' := 49) dX0_listsEntries_47 rfl rfl ?_
  refine sn_istore (v := y0) (L' := [some (va_rf (some this)), some (va_rf x1), some (va_rf x2), some (.int x3), some (.int x4), some (.int y0), some (.int y0)]) (pc' := 51) dX0_listsEntries_49 rfl rfl rfl ?_
  exact sn_weak (le_s (le_s (le_s (le_s (le_s (le_n (le_s le_e))))))) (s_X0_listsEntries_51 G k6 hk6 LFU this x1 x2 x3 x4 y0)
set_option maxRecDepth 100000 in
set_option maxHeartbeats 4000000 in
theorem s_X0_listsEntries_6_st (G : GG)   (k6 : Nat → Option Nat → Option Nat → Int32 → MM Int32) (hk6 : ∀ (this : Nat) (x1 : Option Nat) (x2 : Option Nat) (x3 : Int32), Sn G yX0_listsEntries cX0_listsEntries 7 (some FieldType.boolean) 4 88 (fun v : Int32 => some (.int v)) (k6 this x1 x2 x3) 6 [some (va_rf (some this)), some (va_rf x1), some (va_rf x2), some (.int x3), none, none, none] []) (this : Nat) (x1 : Option Nat) (x2 : Option Nat) (x3 : Int32) : Sn G yX0_listsEntries cX0_listsEntries 7 (some FieldType.boolean) 4 88 (fun v : Int32 => some (.int v)) (X0_listsEntries_6_st  k6 this x1 x2 x3) 6 [some (va_rf (some this)), some (va_rf x1), some (va_rf x2), some (.int x3), none, none, none] [] := by
  unfold X0_listsEntries_6_st
  refine sn_iload_n (v := x3) (pc' := 7) dX0_listsEntries_6 rfl rfl rfl ?_
  refine sn_aload_n (v := x1) (pc' := 8) dX0_listsEntries_7 rfl rfl rfl ?_
  refine sn_cV (r := x1) (st := [.int x3]) (As := []) (st2 := (fun v => .int v :: [.int x3])) (pc' := 11) ci_6 (fun t => c_X5_amount G t ) cw_X5_amount rfl rfl tw964 tw514 tw513 rfl rfl (cat_i cat_nil) rfl (fun _ => rfl) dX0_listsEntries_8 rfl (fun v1 => ?_)
  refine sn_ic_ge (pt := 81) (pf := 14) dX0_listsEntries_11 rfl rfl ?_ ?_
  · refine sn_iconst (v := (1 : Int32)) (pc' := 82) dX0_listsEntries_81 rfl (by decide) ?_
    exact sn_iret dX0_listsEntries_82 rfl (by decide)
  · refine sn_aload_n (v := (some this)) (pc' := 15) dX0_listsEntries_14 rfl rfl rfl ?_
    refine sn_aload_n (v := x1) (pc' := 16) dX0_listsEntries_15 rfl rfl rfl ?_
    refine sn_iload_n (v := x3) (pc' := 17) dX0_listsEntries_16 rfl rfl rfl ?_
    refine sn_cV (r := (some this)) (st := []) (As := [va_rf x1, .int x3]) (st2 := (fun v => .int v :: [])) (pc' := 20) ci_2 (fun t => c_X0_placeOf G t x1 x3) cw_X0_placeOf rfl rfl tw965 tw947 tw946 rfl rfl cat_nil rfl (fun _ => rfl) dX0_listsEntries_17 rfl (fun v2 => ?_)
    refine sn_istore (v := v2) (L' := [some (va_rf (some this)), some (va_rf x1), some (va_rf x2), some (.int x3), some (.int v2), none, none]) (pc' := 22) dX0_listsEntries_20 rfl rfl rfl ?_
    refine sn_aload_n (v := x1) (pc' := 23) dX0_listsEntries_22 rfl rfl rfl ?_
    refine sn_iload_n (v := x3) (pc' := 24) dX0_listsEntries_23 rfl rfl rfl ?_
    refine sn_cV (r := x1) (st := []) (As := [.int x3]) (st2 := (fun v => .int v :: [])) (pc' := 27) ci_6 (fun t => c_X5_isJoined G t x3) cw_X5_isJoined rfl rfl tw966 tw956 tw955 rfl rfl cat_nil rfl (fun _ => rfl) dX0_listsEntries_24 rfl (fun v3 => ?_)
    refine sn_if_eq (pt := 43) (pf := 30) dX0_listsEntries_27 rfl rfl ?_ ?_
    · refine sn_iload (v := v2) (pc' := 45) dX0_listsEntries_43 rfl rfl ?_
      exact sn_weak (le_s (le_s (le_s (le_s (le_s (le_n (le_n le_e))))))) (s_X0_listsEntries_45 G k6 hk6 this x1 x2 x3 v2 v2)
    · refine sn_aload_n (v := (some this)) (pc' := 31) dX0_listsEntries_30 rfl rfl rfl ?_
      refine sn_aload_n (v := x1) (pc' := 32) dX0_listsEntries_31 rfl rfl rfl ?_
      refine sn_iload_n (v := x3) (pc' := 33) dX0_listsEntries_32 rfl rfl rfl ?_
      refine sn_iconst (v := (1 : Int32)) (pc' := 34) dX0_listsEntries_33 rfl (by decide) ?_
      refine sn_isub (pc' := 35) dX0_listsEntries_34 rfl ?_
      refine sn_cV (r := (some this)) (st := []) (As := [va_rf x1, .int (x3 - (1 : Int32))]) (st2 := (fun v => .int v :: [])) (pc' := 38) ci_2 (fun t => c_X0_placeOf G t x1 (x3 - (1 : Int32))) cw_X0_placeOf rfl rfl tw965 tw947 tw946 rfl rfl cat_nil rfl (fun _ => rfl) dX0_listsEntries_35 rfl (fun v4 => ?_)
      refine sn_iconst (v := (1 : Int32)) (pc' := 39) dX0_listsEntries_38 rfl (by decide) ?_
      refine sn_iadd (pc' := 40) dX0_listsEntries_39 rfl ?_
      refine sn_goto (pc' := 45) dX0_listsEntries_40 rfl ?_
      exact sn_weak (le_s (le_s (le_s (le_s (le_s (le_n (le_n le_e))))))) (s_X0_listsEntries_45 G k6 hk6 this x1 x2 x3 v2 (v4 + (1 : Int32)))
set_option maxRecDepth 100000 in
set_option maxHeartbeats 4000000 in
theorem s_X0_listsEntries_6 (G : GG)   : ∀ (n : Nat) (this : Nat) (x1 : Option Nat) (x2 : Option Nat) (x3 : Int32), Sn G yX0_listsEntries cX0_listsEntries 7 (some FieldType.boolean) 4 88 (fun v : Int32 => some (.int v)) (X0_listsEntries_6  n this x1 x2 x3) 6 [some (va_rf (some this)), some (va_rf x1), some (va_rf x2), some (.int x3), none, none, none] [] := by
  intro n
  induction n with
  | zero => intro this x1 x2 x3; exact sn_mf
  | succ n ih => intro this x1 x2 x3; exact s_X0_listsEntries_6_st G   (X0_listsEntries_6  n) ih this x1 x2 x3
set_option maxRecDepth 100000 in
set_option maxHeartbeats 4000000 in
theorem s_X0_listsEntries (G : GG) (this : Nat) (a1 : Option Nat) (a2 : Option Nat) : Sn G yX0_listsEntries cX0_listsEntries 7 (some FieldType.boolean) 4 88 (fun v : Int32 => some (.int v)) (X0_listsEntries this a1 a2) 0 [some (va_rf (some this)), some (va_rf a1), some (va_rf a2), none, none, none, none] [] := by
  unfold X0_listsEntries
  refine sn_aload_n (v := a2) (pc' := 1) dX0_listsEntries_0 rfl rfl rfl ?_
  refine sn_cV (r := a2) (st := []) (As := []) (st2 := (fun _ => [])) (pc' := 4) ci_9 (fun t => c_X8_clear G t ) cw_X8_clear rfl rfl tw963 tw356 tw355 rfl rfl cat_nil rfl (fun _ => rfl) dX0_listsEntries_1 rfl (fun _ => ?_)
  refine sn_iconst (v := (0 : Int32)) (pc' := 5) dX0_listsEntries_4 rfl (by decide) ?_
  refine sn_istore_n (v := (0 : Int32)) (L' := [some (va_rf (some this)), some (va_rf a1), some (va_rf a2), some (.int (0 : Int32)), none, none, none]) (pc' := 6) dX0_listsEntries_5 rfl rfl rfl rfl ?_
  exact sn_weak (le_s (le_s (le_s (le_s (le_n (le_n (le_n le_e))))))) (s_X0_listsEntries_6 G LFU this a1 a2 (0 : Int32))
theorem c_X0_listsEntries (G : GG) (this : Nat) (a1 : Option Nat) (a2 : Option Nat) : Cal G yX0_listsEntries cX0_listsEntries 7 (some FieldType.boolean) 4 88 (fun v : Int32 => some (.int v)) (X0_listsEntries this a1 a2) [.ref this, va_rf a1, va_rf a2] :=
  Cal.of (by decide) (cat_t (cat_q (cat_q cat_nil))) rfl (sn_weak (le_s (le_s (le_s (le_z (le_z (le_z (le_z le_e))))))) (s_X0_listsEntries G this a1 a2))
theorem cw_X0_listsEntries : CW yX0_listsEntries cX0_listsEntries 7 (some FieldType.boolean) 2 := ⟨tw962, tw21, by decide, by decide +kernel⟩
/-! X11_draftRow -/
theorem dX11_draftRow_0 : decode cX11_draftRow 0 = .ok (.aload_n 0, 1) := by decide +kernel
theorem dX11_draftRow_1 : decode cX11_draftRow 1 = .ok (.aload_n 0, 1) := by decide +kernel
theorem dX11_draftRow_2 : decode cX11_draftRow 2 = .ok (.getfield 21, 3) := by decide +kernel
theorem dX11_draftRow_5 : decode cX11_draftRow 5 = .ok (.getfield 126, 3) := by decide +kernel
theorem dX11_draftRow_8 : decode cX11_draftRow 8 = .ok (.aload_n 1, 1) := by decide +kernel
theorem dX11_draftRow_9 : decode cX11_draftRow 9 = .ok (.invokestatic 275, 3) := by decide +kernel
theorem dX11_draftRow_12 : decode cX11_draftRow 12 = .ok (.putfield 88, 3) := by decide +kernel
theorem dX11_draftRow_15 : decode cX11_draftRow 15 = .ok (.aload_n 0, 1) := by decide +kernel
theorem dX11_draftRow_16 : decode cX11_draftRow 16 = .ok (.getfield 88, 3) := by decide +kernel
theorem dX11_draftRow_19 : decode cX11_draftRow 19 = .ok (.ifCond .eq 5, 3) := by decide +kernel
theorem dX11_draftRow_22 : decode cX11_draftRow 22 = .ok (.iconst 4, 1) := by decide +kernel
theorem dX11_draftRow_23 : decode cX11_draftRow 23 = .ok (.ireturn, 1) := by decide +kernel
theorem dX11_draftRow_24 : decode cX11_draftRow 24 = .ok (.aload_n 1, 1) := by decide +kernel
theorem dX11_draftRow_25 : decode cX11_draftRow 25 = .ok (.aload_n 0, 1) := by decide +kernel
theorem dX11_draftRow_26 : decode cX11_draftRow 26 = .ok (.getfield 21, 3) := by decide +kernel
theorem dX11_draftRow_29 : decode cX11_draftRow 29 = .ok (.getfield 126, 3) := by decide +kernel
theorem dX11_draftRow_32 : decode cX11_draftRow 32 = .ok (.aload_n 0, 1) := by decide +kernel
theorem dX11_draftRow_33 : decode cX11_draftRow 33 = .ok (.getfield 37, 3) := by decide +kernel
theorem dX11_draftRow_36 : decode cX11_draftRow 36 = .ok (.invokevirtual 279, 3) := by decide +kernel
theorem dX11_draftRow_39 : decode cX11_draftRow 39 = .ok (.ifCond .eq 7, 3) := by decide +kernel
theorem dX11_draftRow_42 : decode cX11_draftRow 42 = .ok (.iconst 0, 1) := by decide +kernel
theorem dX11_draftRow_43 : decode cX11_draftRow 43 = .ok (.goto 5, 3) := by decide +kernel
theorem dX11_draftRow_46 : decode cX11_draftRow 46 = .ok (.bipush 9, 2) := by decide +kernel
theorem dX11_draftRow_48 : decode cX11_draftRow 48 = .ok (.ireturn, 1) := by decide +kernel
def X11_draftRow (this : Nat) (a1 : Option Nat) : MM Int32 :=
  mb (gR 12 (some this) 1) fun v1 =>
  mb (gR 8 v1 2) fun v2 =>
  mb (X3_ofRow v2 a1) fun v3 =>
  mb (pI 12 (some this) 10 v3) fun _ =>
  mb (gI 12 (some this) 10) fun v4 =>
  if v4 = 0 then (mb (gR 12 (some this) 1) fun v5 =>
  mb (gR 8 v5 2) fun v6 =>
  mb (gR 12 (some this) 3) fun v7 =>
  mb (wc 2 a1 fun t => X0_listsEntries t v6 v7) fun v8 =>
  if v8 = 0 then (mr (9 : Int32)) else (mr (0 : Int32))) else (mr (4 : Int32))
set_option maxRecDepth 100000 in
set_option maxHeartbeats 4000000 in
theorem s_X11_draftRow (G : GG) (this : Nat) (a1 : Option Nat) : Sn G yX11_draftRow cX11_draftRow 2 (some FieldType.int) 5 114 (fun v : Int32 => some (.int v)) (X11_draftRow this a1) 0 [some (va_rf (some this)), some (va_rf a1)] [] := by
  unfold X11_draftRow
  refine sn_aload_n (v := (some this)) (pc' := 1) dX11_draftRow_0 rfl rfl rfl ?_
  refine sn_aload_n (v := (some this)) (pc' := 2) dX11_draftRow_1 rfl rfl rfl ?_
  refine sn_gR (k := 1) (pc' := 5) ci_12 rfl (Or.inl tw274) dX11_draftRow_2 rfl (fun v1 => ?_)
  refine sn_gR (k := 2) (pc' := 8) ci_8 rfl (Or.inr ⟨_, nw162⟩) dX11_draftRow_5 rfl (fun v2 => ?_)
  refine sn_aload_n (v := a1) (pc' := 9) dX11_draftRow_8 rfl rfl rfl ?_
  refine sn_cS (st := [va_rf (some this)]) (As := [va_rf v2, va_rf a1]) (st2 := (fun v => .int v :: [va_rf (some this)])) (pc' := 12) (c_X3_ofRow G v2 a1) cw_X3_ofRow rfl rfl tw941 tw942 rfl rfl (cat_q cat_nil) rfl (fun _ => rfl) dX11_draftRow_9 rfl (fun v3 => ?_)
  refine sn_pI (k := 10) (pc' := 15) ci_12 rfl (Or.inl tw283) (Or.inl rfl) rfl dX11_draftRow_12 rfl (fun _ => ?_)
  refine sn_aload_n (v := (some this)) (pc' := 16) dX11_draftRow_15 rfl rfl rfl ?_
  refine sn_gI (k := 10) (pc' := 19) ci_12 rfl (Or.inl tw283) dX11_draftRow_16 rfl (fun v4 => ?_)
  refine sn_if_eq (pt := 24) (pf := 22) dX11_draftRow_19 rfl rfl ?_ ?_
  · refine sn_aload_n (v := a1) (pc' := 25) dX11_draftRow_24 rfl rfl rfl ?_
    refine sn_aload_n (v := (some this)) (pc' := 26) dX11_draftRow_25 rfl rfl rfl ?_
    refine sn_gR (k := 1) (pc' := 29) ci_12 rfl (Or.inl tw274) dX11_draftRow_26 rfl (fun v5 => ?_)
    refine sn_gR (k := 2) (pc' := 32) ci_8 rfl (Or.inr ⟨_, nw162⟩) dX11_draftRow_29 rfl (fun v6 => ?_)
    refine sn_aload_n (v := (some this)) (pc' := 33) dX11_draftRow_32 rfl rfl rfl ?_
    refine sn_gR (k := 3) (pc' := 36) ci_12 rfl (Or.inl tw276) dX11_draftRow_33 rfl (fun v7 => ?_)
    refine sn_cV (r := a1) (st := []) (As := [va_rf v6, va_rf v7]) (st2 := (fun v => .int v :: [])) (pc' := 39) ci_2 (fun t => c_X0_listsEntries G t v6 v7) cw_X0_listsEntries rfl rfl tw959 tw961 tw960 rfl rfl cat_nil rfl (fun _ => rfl) dX11_draftRow_36 rfl (fun v8 => ?_)
    refine sn_if_eq (pt := 46) (pf := 42) dX11_draftRow_39 rfl rfl ?_ ?_
    · refine sn_bipush (v := (9 : Int32)) (pc' := 48) dX11_draftRow_46 rfl (by decide) ?_
      exact sn_iret dX11_draftRow_48 rfl rfl
    · refine sn_iconst (v := (0 : Int32)) (pc' := 43) dX11_draftRow_42 rfl (by decide) ?_
      refine sn_goto (pc' := 48) dX11_draftRow_43 rfl ?_
      exact sn_iret dX11_draftRow_48 rfl rfl
  · refine sn_iconst (v := (4 : Int32)) (pc' := 23) dX11_draftRow_22 rfl (by decide) ?_
    exact sn_iret dX11_draftRow_23 rfl rfl
theorem c_X11_draftRow (G : GG) (this : Nat) (a1 : Option Nat) : Cal G yX11_draftRow cX11_draftRow 2 (some FieldType.int) 5 114 (fun v : Int32 => some (.int v)) (X11_draftRow this a1) [.ref this, va_rf a1] :=
  Cal.of (by decide) (cat_t (cat_q cat_nil)) rfl (sn_weak (le_s (le_s le_e)) (s_X11_draftRow G this a1))
theorem cw_X11_draftRow : CW yX11_draftRow cX11_draftRow 2 (some FieldType.int) 1 := ⟨tw940, tw1, by decide, by decide +kernel⟩
/-! X8_copyFrom -/
theorem dX8_copyFrom_0 : decode cX8_copyFrom 0 = .ok (.aload_n 0, 1) := by decide +kernel
theorem dX8_copyFrom_1 : decode cX8_copyFrom 1 = .ok (.invokevirtual 25, 3) := by decide +kernel
theorem dX8_copyFrom_4 : decode cX8_copyFrom 4 = .ok (.iconst 0, 1) := by decide +kernel
theorem dX8_copyFrom_5 : decode cX8_copyFrom 5 = .ok (.istore_n 2, 1) := by decide +kernel
theorem dX8_copyFrom_6 : decode cX8_copyFrom 6 = .ok (.iload_n 2, 1) := by decide +kernel
theorem dX8_copyFrom_7 : decode cX8_copyFrom 7 = .ok (.aload_n 1, 1) := by decide +kernel
theorem dX8_copyFrom_8 : decode cX8_copyFrom 8 = .ok (.getfield 21, 3) := by decide +kernel
theorem dX8_copyFrom_11 : decode cX8_copyFrom 11 = .ok (.if_icmp .ge 19, 3) := by decide +kernel
theorem dX8_copyFrom_14 : decode cX8_copyFrom 14 = .ok (.aload_n 0, 1) := by decide +kernel
theorem dX8_copyFrom_15 : decode cX8_copyFrom 15 = .ok (.aload_n 1, 1) := by decide +kernel
theorem dX8_copyFrom_16 : decode cX8_copyFrom 16 = .ok (.iload_n 2, 1) := by decide +kernel
theorem dX8_copyFrom_17 : decode cX8_copyFrom 17 = .ok (.invokevirtual 28, 3) := by decide +kernel
theorem dX8_copyFrom_20 : decode cX8_copyFrom 20 = .ok (.invokevirtual 32, 3) := by decide +kernel
theorem dX8_copyFrom_23 : decode cX8_copyFrom 23 = .ok (.pop, 1) := by decide +kernel
theorem dX8_copyFrom_24 : decode cX8_copyFrom 24 = .ok (.iinc 2 1, 3) := by decide +kernel
theorem dX8_copyFrom_27 : decode cX8_copyFrom 27 = .ok (.goto (-21), 3) := by decide +kernel
theorem dX8_copyFrom_30 : decode cX8_copyFrom 30 = .ok (.return_, 1) := by decide +kernel
def X8_copyFrom_6_st  (k6 : Nat → Option Nat → Int32 → MM Unit) (this : Nat) (x1 : Option Nat) (x2 : Int32) : MM Unit :=
  mb (gI 9 x1 1) fun v1 =>
  if v1 ≤ x2 then (mr ()) else (mb (wc 9 x1 fun t => X8_get t x2) fun v2 =>
  mb (wc 9 (some this) fun t => X8_add t v2) fun v3 =>
  (k6 this x1 (x2 + (1 : Int32))))
def X8_copyFrom_6  : Nat → Nat → Option Nat → Int32 → MM Unit
  | 0 => fun _ _ _ => mf
  | n + 1 => fun this x1 x2 => X8_copyFrom_6_st  (X8_copyFrom_6  n) this x1 x2
def X8_copyFrom (this : Nat) (a1 : Option Nat) : MM Unit :=
  mb (wc 9 (some this) fun t => X8_clear t ) fun _ =>
  (X8_copyFrom_6 LFU this a1 (0 : Int32))
set_option maxRecDepth 100000 in
set_option maxHeartbeats 4000000 in
theorem s_X8_copyFrom_6_st (G : GG)   (k6 : Nat → Option Nat → Int32 → MM Unit) (hk6 : ∀ (this : Nat) (x1 : Option Nat) (x2 : Int32), Sn G yX8_copyFrom cX8_copyFrom 3 none 1 21 (fun _ : Unit => none) (k6 this x1 x2) 6 [some (va_rf (some this)), some (va_rf x1), some (.int x2)] []) (this : Nat) (x1 : Option Nat) (x2 : Int32) : Sn G yX8_copyFrom cX8_copyFrom 3 none 1 21 (fun _ : Unit => none) (X8_copyFrom_6_st  k6 this x1 x2) 6 [some (va_rf (some this)), some (va_rf x1), some (.int x2)] [] := by
  unfold X8_copyFrom_6_st
  refine sn_iload_n (v := x2) (pc' := 7) dX8_copyFrom_6 rfl rfl rfl ?_
  refine sn_aload_n (v := x1) (pc' := 8) dX8_copyFrom_7 rfl rfl rfl ?_
  refine sn_gI (k := 1) (pc' := 11) ci_9 rfl (Or.inl tw51) dX8_copyFrom_8 rfl (fun v1 => ?_)
  refine sn_ic_ge (pt := 30) (pf := 14) dX8_copyFrom_11 rfl rfl ?_ ?_
  · exact sn_vret dX8_copyFrom_30 rfl
  · refine sn_aload_n (v := (some this)) (pc' := 15) dX8_copyFrom_14 rfl rfl rfl ?_
    refine sn_aload_n (v := x1) (pc' := 16) dX8_copyFrom_15 rfl rfl rfl ?_
    refine sn_iload_n (v := x2) (pc' := 17) dX8_copyFrom_16 rfl rfl rfl ?_
    refine sn_cV (r := x1) (st := [va_rf (some this)]) (As := [.int x2]) (st2 := (fun v => .int v :: [va_rf (some this)])) (pc' := 20) ci_9 (fun t => c_X8_get G t x2) cw_X8_get rfl rfl tw984 tw497 tw496 rfl rfl (cat_q cat_nil) rfl (fun _ => rfl) dX8_copyFrom_17 rfl (fun v2 => ?_)
    refine sn_cV (r := (some this)) (st := []) (As := [.int v2]) (st2 := (fun v => .int v :: [])) (pc' := 23) ci_9 (fun t => c_X8_add G t v2) cw_X8_add rfl rfl tw985 tw484 tw483 rfl rfl cat_nil rfl (fun _ => rfl) dX8_copyFrom_20 rfl (fun v3 => ?_)
    refine sn_pop (pc' := 24) dX8_copyFrom_23 rfl rfl ?_
    refine sn_iinc (v := x2) (w := 1) (L' := [some (va_rf (some this)), some (va_rf x1), some (.int (x2 + (1 : Int32)))]) (pc' := 27) dX8_copyFrom_24 rfl rfl rfl (by decide) rfl ?_
    refine sn_goto (pc' := 6) dX8_copyFrom_27 rfl ?_
    exact sn_weak (le_s (le_s (le_s le_e))) (hk6 this x1 (x2 + (1 : Int32)))
set_option maxRecDepth 100000 in
set_option maxHeartbeats 4000000 in
theorem s_X8_copyFrom_6 (G : GG)   : ∀ (n : Nat) (this : Nat) (x1 : Option Nat) (x2 : Int32), Sn G yX8_copyFrom cX8_copyFrom 3 none 1 21 (fun _ : Unit => none) (X8_copyFrom_6  n this x1 x2) 6 [some (va_rf (some this)), some (va_rf x1), some (.int x2)] [] := by
  intro n
  induction n with
  | zero => intro this x1 x2; exact sn_mf
  | succ n ih => intro this x1 x2; exact s_X8_copyFrom_6_st G   (X8_copyFrom_6  n) ih this x1 x2
set_option maxRecDepth 100000 in
set_option maxHeartbeats 4000000 in
theorem s_X8_copyFrom (G : GG) (this : Nat) (a1 : Option Nat) : Sn G yX8_copyFrom cX8_copyFrom 3 none 1 21 (fun _ : Unit => none) (X8_copyFrom this a1) 0 [some (va_rf (some this)), some (va_rf a1), none] [] := by
  unfold X8_copyFrom
  refine sn_aload_n (v := (some this)) (pc' := 1) dX8_copyFrom_0 rfl rfl rfl ?_
  refine sn_cV (r := (some this)) (st := []) (As := []) (st2 := (fun _ => [])) (pc' := 4) ci_9 (fun t => c_X8_clear G t ) cw_X8_clear rfl rfl tw983 tw356 tw355 rfl rfl cat_nil rfl (fun _ => rfl) dX8_copyFrom_1 rfl (fun _ => ?_)
  refine sn_iconst (v := (0 : Int32)) (pc' := 5) dX8_copyFrom_4 rfl (by decide) ?_
  refine sn_istore_n (v := (0 : Int32)) (L' := [some (va_rf (some this)), some (va_rf a1), some (.int (0 : Int32))]) (pc' := 6) dX8_copyFrom_5 rfl rfl rfl rfl ?_
  exact sn_weak (le_s (le_s (le_s le_e))) (s_X8_copyFrom_6 G LFU this a1 (0 : Int32))
theorem c_X8_copyFrom (G : GG) (this : Nat) (a1 : Option Nat) : Cal G yX8_copyFrom cX8_copyFrom 3 none 1 21 (fun _ : Unit => none) (X8_copyFrom this a1) [.ref this, va_rf a1] :=
  Cal.of (by decide) (cat_t (cat_q cat_nil)) rfl (sn_weak (le_s (le_s (le_z le_e))) (s_X8_copyFrom G this a1))
theorem cw_X8_copyFrom : CW yX8_copyFrom cX8_copyFrom 3 none 1 := ⟨tw982, tw3, by decide, by decide +kernel⟩
