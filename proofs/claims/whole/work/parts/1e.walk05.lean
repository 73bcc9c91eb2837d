theorem tw26 : (Jvm.Cond.initialized "LeafFormula$Copy") ∈ gtbl := gt_of 119 (by decide +kernel) (by decide +kernel)
theorem tw282 : (Jvm.Cond.fieldLink "LeafFormula" (140 : Nat) "LeafFormula" "copyCount" "I") ∈ gtbl := gt_of 375 (by decide +kernel) (by decide +kernel)
theorem tw928 : (Jvm.Cond.code ({ cls := "LeafFormula", name := "copy", desc := "(I)I" } : Jvm.MethodName) prog_1_method_6_code (4 : Nat) (Option.some Jvm.ClassFile.FieldType.int)) ∈ gtbl := gt_of 1021 (by decide +kernel) (by decide +kernel)
theorem tw929 : (Jvm.Cond.methodLink "LeafFormula" (113 : Nat) ({ cls := "LeafFormula$Reader", name := "readsRow", desc := "()Z" } : Jvm.MethodName)) ∈ gtbl := gt_of 1022 (by decide +kernel) (by decide +kernel)
theorem tw930 : (Jvm.Cond.instanceMethod ({ cls := "LeafFormula$Reader", name := "readsRow", desc := "()Z" } : Jvm.MethodName)) ∈ gtbl := gt_of 1023 (by decide +kernel) (by decide +kernel)
theorem tw931 : (Jvm.Cond.selects "LeafFormula$Reader" ({ cls := "LeafFormula$Reader", name := "readsRow", desc := "()Z" } : Jvm.MethodName) ({ cls := "LeafFormula$Reader", name := "readsRow", desc := "()Z" } : Jvm.MethodName)) ∈ gtbl := gt_of 1024 (by decide +kernel) (by decide +kernel)
theorem tw937 : (Jvm.Cond.methodLink "LeafFormula" (116 : Nat) ({ cls := "LeafFormula", name := "draftRow", desc := "(LLeafFormula$Book;)I" } : Jvm.MethodName)) ∈ gtbl := gt_of 1030 (by decide +kernel) (by decide +kernel)
theorem tw939 : (Jvm.Cond.instanceMethod ({ cls := "LeafFormula", name := "draftRow", desc := "(LLeafFormula$Book;)I" } : Jvm.MethodName)) ∈ gtbl := gt_of 1032 (by decide +kernel) (by decide +kernel)
theorem tw967 : (Jvm.Cond.methodLink "LeafFormula" (119 : Nat) ({ cls := "LeafFormula", name := "keepCopy", desc := "(ILLeafFormula$Book;)I" } : Jvm.MethodName)) ∈ gtbl := gt_of 1060 (by decide +kernel) (by decide +kernel)
theorem tw969 : (Jvm.Cond.instanceMethod ({ cls := "LeafFormula", name := "keepCopy", desc := "(ILLeafFormula$Book;)I" } : Jvm.MethodName)) ∈ gtbl := gt_of 1062 (by decide +kernel) (by decide +kernel)
theorem tw970 : (Jvm.Cond.code ({ cls := "LeafFormula", name := "keepCopy", desc := "(ILLeafFormula$Book;)I" } : Jvm.MethodName) prog_1_method_41_code (4 : Nat) (Option.some Jvm.ClassFile.FieldType.int)) ∈ gtbl := gt_of 1063 (by decide +kernel) (by decide +kernel)
theorem tw971 : (Jvm.Cond.instantiable "LeafFormula$Copy" (8 : Nat)) ∈ gtbl := gt_of 1064 (by decide +kernel) (by decide +kernel)
theorem tw972 : (Jvm.Cond.methodLink "LeafFormula" (283 : Nat) ({ cls := "LeafFormula$Copy", name := "<init>", desc := "(ILLeafFormula$Book;LLeafFormula$Row;)V" } : Jvm.MethodName)) ∈ gtbl := gt_of 1065 (by decide +kernel) (by decide +kernel)
theorem tw973 : (Jvm.Cond.instanceMethod ({ cls := "LeafFormula$Copy", name := "<init>", desc := "(ILLeafFormula$Book;LLeafFormula$Row;)V" } : Jvm.MethodName)) ∈ gtbl := gt_of 1066 (by decide +kernel) (by decide +kernel)
theorem tw974 : (Jvm.Cond.code ({ cls := "LeafFormula$Copy", name := "<init>", desc := "(ILLeafFormula$Book;LLeafFormula$Row;)V" } : Jvm.MethodName) prog_4_method_1_code (4 : Nat) (Option.none : Option Jvm.ClassFile.FieldType)) ∈ gtbl := gt_of 1067 (by decide +kernel) (by decide +kernel)
theorem tw975 : (Jvm.Cond.methodLink "LeafFormula$Copy" (3 : Nat) ({ cls := "java/lang/Object", name := "<init>", desc := "()V" } : Jvm.MethodName)) ∈ gtbl := gt_of 1068 (by decide +kernel) (by decide +kernel)
theorem tw976 : (Jvm.Cond.classLink "LeafFormula$Copy" (9 : Nat) "LeafFormula$Row") ∈ gtbl := gt_of 1069 (by decide +kernel) (by decide +kernel)
theorem tw977 : (Jvm.Cond.methodLink "LeafFormula$Copy" (11 : Nat) ({ cls := "LeafFormula$Row", name := "<init>", desc := "(I)V" } : Jvm.MethodName)) ∈ gtbl := gt_of 1070 (by decide +kernel) (by decide +kernel)
theorem tw979 : (Jvm.Cond.methodLink "LeafFormula$Copy" (46 : Nat) ({ cls := "LeafFormula$Row", name := "copyFrom", desc := "(LLeafFormula$Row;)V" } : Jvm.MethodName)) ∈ gtbl := gt_of 1072 (by decide +kernel) (by decide +kernel)
theorem tw980 : (Jvm.Cond.instanceMethod ({ cls := "LeafFormula$Row", name := "copyFrom", desc := "(LLeafFormula$Row;)V" } : Jvm.MethodName)) ∈ gtbl := gt_of 1073 (by decide +kernel) (by decide +kernel)
theorem tw981 : (Jvm.Cond.selects "LeafFormula$Row" ({ cls := "LeafFormula$Row", name := "copyFrom", desc := "(LLeafFormula$Row;)V" } : Jvm.MethodName) ({ cls := "LeafFormula$Row", name := "copyFrom", desc := "(LLeafFormula$Row;)V" } : Jvm.MethodName)) ∈ gtbl := gt_of 1074 (by decide +kernel) (by decide +kernel)
theorem tw986 : (Jvm.Cond.fieldLink "LeafFormula$Copy" (38 : Nat) "LeafFormula$Copy" "bookNumber" "I") ∈ gtbl := gt_of 1079 (by decide +kernel) (by decide +kernel)
theorem tw988 : (Jvm.Cond.fieldLink "LeafFormula$Copy" (42 : Nat) "LeafFormula$Copy" "source" "LLeafFormula$Book;") ∈ gtbl := gt_of 1081 (by decide +kernel) (by decide +kernel)
theorem tw992 : (Jvm.Cond.fieldLink "LeafFormula$Copy" (14 : Nat) "LeafFormula$Copy" "entries" "LLeafFormula$Row;") ∈ gtbl := gt_of 1085 (by decide +kernel) (by decide +kernel)
theorem tw996 : (Jvm.Cond.fieldLink "LeafFormula$Copy" (20 : Nat) "LeafFormula$Copy" "missing" "LLeafFormula$Row;") ∈ gtbl := gt_of 1089 (by decide +kernel) (by decide +kernel)
theorem tw999 : (Jvm.Cond.fieldLink "LeafFormula$Copy" (23 : Nat) "LeafFormula$Copy" "doubled" "LLeafFormula$Row;") ∈ gtbl := gt_of 1092 (by decide +kernel) (by decide +kernel)
theorem tw1002 : (Jvm.Cond.fieldLink "LeafFormula$Copy" (26 : Nat) "LeafFormula$Copy" "strays" "LLeafFormula$Row;") ∈ gtbl := gt_of 1095 (by decide +kernel) (by decide +kernel)
theorem tw1005 : (Jvm.Cond.fieldLink "LeafFormula$Copy" (29 : Nat) "LeafFormula$Copy" "loose" "LLeafFormula$Row;") ∈ gtbl := gt_of 1098 (by decide +kernel) (by decide +kernel)
theorem tw1007 : (Jvm.Cond.fieldLink "LeafFormula$Copy" (34 : Nat) "LeafFormula$Copy" "noteText" "Ljava/lang/String;") ∈ gtbl := gt_of 1100 (by decide +kernel) (by decide +kernel)
theorem tw1026 : (Jvm.Cond.methodLink "LeafFormula" (286 : Nat) ({ cls := "LeafFormula$Collator", name := "collate", desc := "(LLeafFormula$Copy;)V" } : Jvm.MethodName)) ∈ gtbl := gt_of 1119 (by decide +kernel) (by decide +kernel)
theorem tw1027 : (Jvm.Cond.instanceMethod ({ cls := "LeafFormula$Collator", name := "collate", desc := "(LLeafFormula$Copy;)V" } : Jvm.MethodName)) ∈ gtbl := gt_of 1120 (by decide +kernel) (by decide +kernel)
theorem tw1028 : (Jvm.Cond.selects "LeafFormula$Collator" ({ cls := "LeafFormula$Collator", name := "collate", desc := "(LLeafFormula$Copy;)V" } : Jvm.MethodName) ({ cls := "LeafFormula$Collator", name := "collate", desc := "(LLeafFormula$Copy;)V" } : Jvm.MethodName)) ∈ gtbl := gt_of 1121 (by decide +kernel) (by decide +kernel)
theorem tw1029 : (Jvm.Cond.code ({ cls := "LeafFormula$Collator", name := "collate", desc := "(LLeafFormula$Copy;)V" } : Jvm.MethodName) prog_3_method_2_code (5 : Nat) (Option.none : Option Jvm.ClassFile.FieldType)) ∈ gtbl := gt_of 1122 (by decide +kernel) (by decide +kernel)
theorem tw1030 : (Jvm.Cond.methodLink "LeafFormula$Collator" (27 : Nat) ({ cls := "LeafFormula$Collator", name := "countEntries", desc := "(LLeafFormula$Row;)V" } : Jvm.MethodName)) ∈ gtbl := gt_of 1123 (by decide +kernel) (by decide +kernel)
theorem tw1032 : (Jvm.Cond.instanceMethod ({ cls := "LeafFormula$Collator", name := "countEntries", desc := "(LLeafFormula$Row;)V" } : Jvm.MethodName)) ∈ gtbl := gt_of 1125 (by decide +kernel) (by decide +kernel)
theorem tw1033 : (Jvm.Cond.code ({ cls := "LeafFormula$Collator", name := "countEntries", desc := "(LLeafFormula$Row;)V" } : Jvm.MethodName) prog_3_method_6_code (4 : Nat) (Option.none : Option Jvm.ClassFile.FieldType)) ∈ gtbl := gt_of 1126 (by decide +kernel) (by decide +kernel)
theorem tw1034 : (Jvm.Cond.methodLink "LeafFormula$Collator" (78 : Nat) ({ cls := "java/util/Arrays", name := "fill", desc := "([II)V" } : Jvm.MethodName)) ∈ gtbl := gt_of 1127 (by decide +kernel) (by decide +kernel)
theorem tw1035 : (Jvm.Cond.methodLink "LeafFormula$Collator" (88 : Nat) ({ cls := "LeafFormula$Row", name := "get", desc := "(I)I" } : Jvm.MethodName)) ∈ gtbl := gt_of 1128 (by decide +kernel) (by decide +kernel)
theorem tw1036 : (Jvm.Cond.methodLink "LeafFormula$Collator" (41 : Nat) ({ cls := "LeafFormula$Collator", name := "markAt", desc := "(I)I" } : Jvm.MethodName)) ∈ gtbl := gt_of 1129 (by decide +kernel) (by decide +kernel)
theorem tw1038 : (Jvm.Cond.instanceMethod ({ cls := "LeafFormula$Collator", name := "markAt", desc := "(I)I" } : Jvm.MethodName)) ∈ gtbl := gt_of 1131 (by decide +kernel) (by decide +kernel)
theorem tw1039 : (Jvm.Cond.code ({ cls := "LeafFormula$Collator", name := "markAt", desc := "(I)I" } : Jvm.MethodName) prog_3_method_5_code (2 : Nat) (Option.some Jvm.ClassFile.FieldType.int)) ∈ gtbl := gt_of 1132 (by decide +kernel) (by decide +kernel)
theorem tw1040 : (Jvm.Cond.methodLink "LeafFormula$Collator" (91 : Nat) ({ cls := "LeafFormula$Collator", name := "setMark", desc := "(II)V" } : Jvm.MethodName)) ∈ gtbl := gt_of 1133 (by decide +kernel) (by decide +kernel)
theorem tw1042 : (Jvm.Cond.instanceMethod ({ cls := "LeafFormula$Collator", name := "setMark", desc := "(II)V" } : Jvm.MethodName)) ∈ gtbl := gt_of 1135 (by decide +kernel) (by decide +kernel)
theorem tw1043 : (Jvm.Cond.code ({ cls := "LeafFormula$Collator", name := "setMark", desc := "(II)V" } : Jvm.MethodName) prog_3_method_8_code (3 : Nat) (Option.none : Option Jvm.ClassFile.FieldType)) ∈ gtbl := gt_of 1136 (by decide +kernel) (by decide +kernel)
theorem tw1044 : (Jvm.Cond.methodLink "LeafFormula$Collator" (35 : Nat) ({ cls := "LeafFormula$Book", name := "leafCount", desc := "()I" } : Jvm.MethodName)) ∈ gtbl := gt_of 1137 (by decide +kernel) (by decide +kernel)
theorem tw1045 : (Jvm.Cond.methodLink "LeafFormula$Collator" (45 : Nat) ({ cls := "LeafFormula$Book", name := "conjugateOf", desc := "(I)I" } : Jvm.MethodName)) ∈ gtbl := gt_of 1138 (by decide +kernel) (by decide +kernel)
theorem tw1046 : (Jvm.Cond.instanceMethod ({ cls := "LeafFormula$Book", name := "conjugateOf", desc := "(I)I" } : Jvm.MethodName)) ∈ gtbl := gt_of 1139 (by decide +kernel) (by decide +kernel)
theorem tw1047 : (Jvm.Cond.selects "LeafFormula$Book" ({ cls := "LeafFormula$Book", name := "conjugateOf", desc := "(I)I" } : Jvm.MethodName) ({ cls := "LeafFormula$Book", name := "conjugateOf", desc := "(I)I" } : Jvm.MethodName)) ∈ gtbl := gt_of 1140 (by decide +kernel) (by decide +kernel)
theorem tw1048 : (Jvm.Cond.code ({ cls := "LeafFormula$Book", name := "conjugateOf", desc := "(I)I" } : Jvm.MethodName) prog_2_method_10_code (6 : Nat) (Option.some Jvm.ClassFile.FieldType.int)) ∈ gtbl := gt_of 1141 (by decide +kernel) (by decide +kernel)
theorem tw1049 : (Jvm.Cond.methodLink "LeafFormula$Book" (102 : Nat) ({ cls := "LeafFormula$Book", name := "signAt", desc := "(I)I" } : Jvm.MethodName)) ∈ gtbl := gt_of 1142 (by decide +kernel) (by decide +kernel)
theorem tw1050 : (Jvm.Cond.instanceMethod ({ cls := "LeafFormula$Book", name := "signAt", desc := "(I)I" } : Jvm.MethodName)) ∈ gtbl := gt_of 1143 (by decide +kernel) (by decide +kernel)
theorem tw1051 : (Jvm.Cond.selects "LeafFormula$Book" ({ cls := "LeafFormula$Book", name := "signAt", desc := "(I)I" } : Jvm.MethodName) ({ cls := "LeafFormula$Book", name := "signAt", desc := "(I)I" } : Jvm.MethodName)) ∈ gtbl := gt_of 1144 (by decide +kernel) (by decide +kernel)
theorem tw1052 : (Jvm.Cond.code ({ cls := "LeafFormula$Book", name := "signAt", desc := "(I)I" } : Jvm.MethodName) prog_2_method_9_code (2 : Nat) (Option.some Jvm.ClassFile.FieldType.int)) ∈ gtbl := gt_of 1145 (by decide +kernel) (by decide +kernel)
theorem tw1053 : (Jvm.Cond.methodLink "LeafFormula$Book" (105 : Nat) ({ cls := "LeafFormula$Plan", name := "fateOf", desc := "(I)I" } : Jvm.MethodName)) ∈ gtbl := gt_of 1146 (by decide +kernel) (by decide +kernel)
theorem tw1054 : (Jvm.Cond.methodLink "LeafFormula$Collator" (51 : Nat) ({ cls := "LeafFormula$Row", name := "add", desc := "(I)Z" } : Jvm.MethodName)) ∈ gtbl := gt_of 1147 (by decide +kernel) (by decide +kernel)
theorem tw1055 : (Jvm.Cond.methodLink "LeafFormula$Collator" (63 : Nat) ({ cls := "LeafFormula$Collator", name := "measureReach", desc := "(LLeafFormula$Row;)I" } : Jvm.MethodName)) ∈ gtbl := gt_of 1148 (by decide +kernel) (by decide +kernel)
theorem tw1057 : (Jvm.Cond.instanceMethod ({ cls := "LeafFormula$Collator", name := "measureReach", desc := "(LLeafFormula$Row;)I" } : Jvm.MethodName)) ∈ gtbl := gt_of 1150 (by decide +kernel) (by decide +kernel)
theorem tw1058 : (Jvm.Cond.code ({ cls := "LeafFormula$Collator", name := "measureReach", desc := "(LLeafFormula$Row;)I" } : Jvm.MethodName) prog_3_method_9_code (6 : Nat) (Option.some Jvm.ClassFile.FieldType.int)) ∈ gtbl := gt_of 1151 (by decide +kernel) (by decide +kernel)
theorem tw1059 : (Jvm.Cond.methodLink "LeafFormula$Collator" (95 : Nat) ({ cls := "java/lang/Math", name := "min", desc := "(II)I" } : Jvm.MethodName)) ∈ gtbl := gt_of 1152 (by decide +kernel) (by decide +kernel)
theorem tw1060 : (Jvm.Cond.methodLink "LeafFormula$Collator" (101 : Nat) ({ cls := "java/lang/Math", name := "max", desc := "(II)I" } : Jvm.MethodName)) ∈ gtbl := gt_of 1153 (by decide +kernel) (by decide +kernel)
theorem tw1061 : (Jvm.Cond.methodLink "LeafFormula$Collator" (67 : Nat) ({ cls := "LeafFormula$Collator", name := "listStrays", desc := "(LLeafFormula$Copy;I)V" } : Jvm.MethodName)) ∈ gtbl := gt_of 1154 (by decide +kernel) (by decide +kernel)
theorem tw1063 : (Jvm.Cond.instanceMethod ({ cls := "LeafFormula$Collator", name := "listStrays", desc := "(LLeafFormula$Copy;I)V" } : Jvm.MethodName)) ∈ gtbl := gt_of 1156 (by decide +kernel) (by decide +kernel)
theorem tw1064 : (Jvm.Cond.code ({ cls := "LeafFormula$Collator", name := "listStrays", desc := "(LLeafFormula$Copy;I)V" } : Jvm.MethodName) prog_3_method_10_code (7 : Nat) (Option.none : Option Jvm.ClassFile.FieldType)) ∈ gtbl := gt_of 1157 (by decide +kernel) (by decide +kernel)
theorem tw1065 : (Jvm.Cond.methodLink "LeafFormula" (290 : Nat) ({ cls := "LeafFormula$Scribe", name := "noteText", desc := "(LLeafFormula$Copy;)Ljava/lang/String;" } : Jvm.MethodName)) ∈ gtbl := gt_of 1158 (by decide +kernel) (by decide +kernel)
theorem tw1066 : (Jvm.Cond.instanceMethod ({ cls := "LeafFormula$Scribe", name := "noteText", desc := "(LLeafFormula$Copy;)Ljava/lang/String;" } : Jvm.MethodName)) ∈ gtbl := gt_of 1159 (by decide +kernel) (by decide +kernel)
theorem tw1067 : (Jvm.Cond.selects "LeafFormula$Scribe" ({ cls := "LeafFormula$Scribe", name := "noteText", desc := "(LLeafFormula$Copy;)Ljava/lang/String;" } : Jvm.MethodName) ({ cls := "LeafFormula$Scribe", name := "noteText", desc := "(LLeafFormula$Copy;)Ljava/lang/String;" } : Jvm.MethodName)) ∈ gtbl := gt_of 1160 (by decide +kernel) (by decide +kernel)
theorem tw1068 : (Jvm.Cond.code ({ cls := "LeafFormula$Scribe", name := "noteText", desc := "(LLeafFormula$Copy;)Ljava/lang/String;" } : Jvm.MethodName) prog_11_method_4_code (2 : Nat) (Option.some (Jvm.ClassFile.FieldType.object "java/lang/String"))) ∈ gtbl := gt_of 1161 (by decide +kernel) (by decide +kernel)
theorem tw1070 : (Jvm.Cond.methodLink "LeafFormula$Scribe" (56 : Nat) ({ cls := "LeafFormula$Scribe", name := "writeRuns", desc := "(Ljava/lang/String;LLeafFormula$Book;LLeafFormula$Row;)V" } : Jvm.MethodName)) ∈ gtbl := gt_of 1163 (by decide +kernel) (by decide +kernel)
theorem tw1072 : (Jvm.Cond.instanceMethod ({ cls := "LeafFormula$Scribe", name := "writeRuns", desc := "(Ljava/lang/String;LLeafFormula$Book;LLeafFormula$Row;)V" } : Jvm.MethodName)) ∈ gtbl := gt_of 1165 (by decide +kernel) (by decide +kernel)
theorem tw1073 : (Jvm.Cond.code ({ cls := "LeafFormula$Scribe", name := "writeRuns", desc := "(Ljava/lang/String;LLeafFormula$Book;LLeafFormula$Row;)V" } : Jvm.MethodName) prog_11_method_8_code (6 : Nat) (Option.none : Option Jvm.ClassFile.FieldType)) ∈ gtbl := gt_of 1166 (by decide +kernel) (by decide +kernel)
theorem tw1074 : (Jvm.Cond.methodLink "LeafFormula$Scribe" (107 : Nat) ({ cls := "LeafFormula$Scribe", name := "writeHead", desc := "(Ljava/lang/String;)V" } : Jvm.MethodName)) ∈ gtbl := gt_of 1167 (by decide +kernel) (by decide +kernel)
theorem tw1076 : (Jvm.Cond.instanceMethod ({ cls := "LeafFormula$Scribe", name := "writeHead", desc := "(Ljava/lang/String;)V" } : Jvm.MethodName)) ∈ gtbl := gt_of 1169 (by decide +kernel) (by decide +kernel)
theorem tw1077 : (Jvm.Cond.code ({ cls := "LeafFormula$Scribe", name := "writeHead", desc := "(Ljava/lang/String;)V" } : Jvm.MethodName) prog_11_method_10_code (2 : Nat) (Option.none : Option Jvm.ClassFile.FieldType)) ∈ gtbl := gt_of 1170 (by decide +kernel) (by decide +kernel)
theorem tw1079 : (Jvm.Cond.methodLink "LeafFormula$Scribe" (111 : Nat) ({ cls := "LeafFormula$Row", name := "get", desc := "(I)I" } : Jvm.MethodName)) ∈ gtbl := gt_of 1172 (by decide +kernel) (by decide +kernel)
theorem tw1081 : (Jvm.Cond.methodLink "LeafFormula$Scribe" (22 : Nat) ({ cls := "LeafFormula$Scribe", name := "writeName", desc := "(LLeafFormula$Book;I)V" } : Jvm.MethodName)) ∈ gtbl := gt_of 1174 (by decide +kernel) (by decide +kernel)
theorem tw1083 : (Jvm.Cond.instanceMethod ({ cls := "LeafFormula$Scribe", name := "writeName", desc := "(LLeafFormula$Book;I)V" } : Jvm.MethodName)) ∈ gtbl := gt_of 1176 (by decide +kernel) (by decide +kernel)
theorem tw1084 : (Jvm.Cond.code ({ cls := "LeafFormula$Scribe", name := "writeName", desc := "(LLeafFormula$Book;I)V" } : Jvm.MethodName) prog_11_method_11_code (4 : Nat) (Option.none : Option Jvm.ClassFile.FieldType)) ∈ gtbl := gt_of 1177 (by decide +kernel) (by decide +kernel)
theorem tw1085 : (Jvm.Cond.methodLink "LeafFormula$Scribe" (129 : Nat) ({ cls := "LeafFormula$Book", name := "signAt", desc := "(I)I" } : Jvm.MethodName)) ∈ gtbl := gt_of 1178 (by decide +kernel) (by decide +kernel)
theorem tw1087 : (Jvm.Cond.methodLink "LeafFormula$Scribe" (65 : Nat) ({ cls := "LeafFormula$Scribe", name := "writeMoved", desc := "(LLeafFormula$Copy;)V" } : Jvm.MethodName)) ∈ gtbl := gt_of 1180 (by decide +kernel) (by decide +kernel)
theorem tw1089 : (Jvm.Cond.instanceMethod ({ cls := "LeafFormula$Scribe", name := "writeMoved", desc := "(LLeafFormula$Copy;)V" } : Jvm.MethodName)) ∈ gtbl := gt_of 1182 (by decide +kernel) (by decide +kernel)
theorem tw1090 : (Jvm.Cond.code ({ cls := "LeafFormula$Scribe", name := "writeMoved", desc := "(LLeafFormula$Copy;)V" } : Jvm.MethodName) prog_11_method_9_code (3 : Nat) (Option.none : Option Jvm.ClassFile.FieldType)) ∈ gtbl := gt_of 1183 (by decide +kernel) (by decide +kernel)
theorem tw1095 : (Jvm.Cond.code ({ cls := "LeafFormula", name := "find", desc := "(I)I" } : Jvm.MethodName) prog_1_method_7_code (4 : Nat) (Option.some Jvm.ClassFile.FieldType.int)) ∈ gtbl := gt_of 1188 (by decide +kernel) (by decide +kernel)
theorem tw1096 : (Jvm.Cond.methodLink "LeafFormula" (123 : Nat) ({ cls := "LeafFormula$Reader", name := "readsName", desc := "()Z" } : Jvm.MethodName)) ∈ gtbl := gt_of 1189 (by decide +kernel) (by decide +kernel)
theorem tw1097 : (Jvm.Cond.instanceMethod ({ cls := "LeafFormula$Reader", name := "readsName", desc := "()Z" } : Jvm.MethodName)) ∈ gtbl := gt_of 1190 (by decide +kernel) (by decide +kernel)
theorem tw1098 : (Jvm.Cond.selects "LeafFormula$Reader" ({ cls := "LeafFormula$Reader", name := "readsName", desc := "()Z" } : Jvm.MethodName) ({ cls := "LeafFormula$Reader", name := "readsName", desc := "()Z" } : Jvm.MethodName)) ∈ gtbl := gt_of 1191 (by decide +kernel) (by decide +kernel)
theorem tw1099 : (Jvm.Cond.code ({ cls := "LeafFormula$Reader", name := "readsName", desc := "()Z" } : Jvm.MethodName) prog_9_method_5_code (1 : Nat) (Option.some Jvm.ClassFile.FieldType.boolean)) ∈ gtbl := gt_of 1192 (by decide +kernel) (by decide +kernel)
theorem tw1100 : (Jvm.Cond.methodLink "LeafFormula" (130 : Nat) ({ cls := "LeafFormula$Book", name := "placeOf", desc := "(LLeafFormula$NamedLeaves;I)I" } : Jvm.MethodName)) ∈ gtbl := gt_of 1193 (by decide +kernel) (by decide +kernel)
theorem tw1104 : (Jvm.Cond.code ({ cls := "LeafFormula", name := "place", desc := "()I" } : Jvm.MethodName) prog_1_method_8_code (1 : Nat) (Option.some Jvm.ClassFile.FieldType.int)) ∈ gtbl := gt_of 1197 (by decide +kernel) (by decide +kernel)
theorem tw1108 : (Jvm.Cond.code ({ cls := "LeafFormula", name := "fault", desc := "()I" } : Jvm.MethodName) prog_1_method_9_code (1 : Nat) (Option.some Jvm.ClassFile.FieldType.int)) ∈ gtbl := gt_of 1201 (by decide +kernel) (by decide +kernel)
theorem tw1112 : (Jvm.Cond.code ({ cls := "LeafFormula", name := "count", desc := "(I)I" } : Jvm.MethodName) prog_1_method_10_code (2 : Nat) (Option.some Jvm.ClassFile.FieldType.int)) ∈ gtbl := gt_of 1205 (by decide +kernel) (by decide +kernel)
theorem tw1116 : (Jvm.Cond.code ({ cls := "LeafFormula", name := "gatherings", desc := "(I)I" } : Jvm.MethodName) prog_1_method_11_code (3 : Nat) (Option.some Jvm.ClassFile.FieldType.int)) ∈ gtbl := gt_of 1209 (by decide +kernel) (by decide +kernel)
theorem tw1120 : (Jvm.Cond.code ({ cls := "LeafFormula", name := "gathering", desc := "(III)I" } : Jvm.MethodName) prog_1_method_12_code (5 : Nat) (Option.some Jvm.ClassFile.FieldType.int)) ∈ gtbl := gt_of 1213 (by decide +kernel) (by decide +kernel)
theorem tw1121 : (Jvm.Cond.methodLink "LeafFormula" (149 : Nat) ({ cls := "LeafFormula$Book", name := "aboutGathering", desc := "(II)I" } : Jvm.MethodName)) ∈ gtbl := gt_of 1214 (by decide +kernel) (by decide +kernel)
theorem tw1122 : (Jvm.Cond.instanceMethod ({ cls := "LeafFormula$Book", name := "aboutGathering", desc := "(II)I" } : Jvm.MethodName)) ∈ gtbl := gt_of 1215 (by decide +kernel) (by decide +kernel)
theorem tw1123 : (Jvm.Cond.selects "LeafFormula$Book" ({ cls := "LeafFormula$Book", name := "aboutGathering", desc := "(II)I" } : Jvm.MethodName) ({ cls := "LeafFormula$Book", name := "aboutGathering", desc := "(II)I" } : Jvm.MethodName)) ∈ gtbl := gt_of 1216 (by decide +kernel) (by decide +kernel)
theorem tw1124 : (Jvm.Cond.code ({ cls := "LeafFormula$Book", name := "aboutGathering", desc := "(II)I" } : Jvm.MethodName) prog_2_method_5_code (4 : Nat) (Option.some Jvm.ClassFile.FieldType.int)) ∈ gtbl := gt_of 1217 (by decide +kernel) (by decide +kernel)
theorem tw1125 : (Jvm.Cond.methodLink "LeafFormula$Book" (90 : Nat) ({ cls := "LeafFormula$Book", name := "leavesOf", desc := "(I)I" } : Jvm.MethodName)) ∈ gtbl := gt_of 1218 (by decide +kernel) (by decide +kernel)
theorem tw1127 : (Jvm.Cond.instanceMethod ({ cls := "LeafFormula$Book", name := "leavesOf", desc := "(I)I" } : Jvm.MethodName)) ∈ gtbl := gt_of 1220 (by decide +kernel) (by decide +kernel)
theorem tw1128 : (Jvm.Cond.code ({ cls := "LeafFormula$Book", name := "leavesOf", desc := "(I)I" } : Jvm.MethodName) prog_2_method_7_code (4 : Nat) (Option.some Jvm.ClassFile.FieldType.int)) ∈ gtbl := gt_of 1221 (by decide +kernel) (by decide +kernel)
theorem tw1129 : (Jvm.Cond.methodLink "LeafFormula$Book" (93 : Nat) ({ cls := "LeafFormula$Book", name := "cutOf", desc := "(I)I" } : Jvm.MethodName)) ∈ gtbl := gt_of 1222 (by decide +kernel) (by decide +kernel)
theorem tw1131 : (Jvm.Cond.instanceMethod ({ cls := "LeafFormula$Book", name := "cutOf", desc := "(I)I" } : Jvm.MethodName)) ∈ gtbl := gt_of 1224 (by decide +kernel) (by decide +kernel)
theorem tw1132 : (Jvm.Cond.code ({ cls := "LeafFormula$Book", name := "cutOf", desc := "(I)I" } : Jvm.MethodName) prog_2_method_6_code (4 : Nat) (Option.some Jvm.ClassFile.FieldType.int)) ∈ gtbl := gt_of 1225 (by decide +kernel) (by decide +kernel)
theorem tw1136 : (Jvm.Cond.code ({ cls := "LeafFormula", name := "leaves", desc := "(I)I" } : Jvm.MethodName) prog_1_method_13_code (3 : Nat) (Option.some Jvm.ClassFile.FieldType.int)) ∈ gtbl := gt_of 1229 (by decide +kernel) (by decide +kernel)
theorem tw1137 : (Jvm.Cond.methodLink "LeafFormula" (153 : Nat) ({ cls := "LeafFormula$Book", name := "leafCount", desc := "()I" } : Jvm.MethodName)) ∈ gtbl := gt_of 1230 (by decide +kernel) (by decide +kernel)
theorem nw55 : (Jvm.Cond.fieldLinkNest "LeafFormula$Collator" (84 : Nat) "LeafFormula$Row" "length" "I" "LeafFormula") ∈ ntbl := nt_of 55 (by decide +kernel) (by decide +kernel)
theorem nw56 : (Jvm.Cond.fieldLinkNest "LeafFormula$Scribe" (103 : Nat) "LeafFormula$Row" "length" "I" "LeafFormula") ∈ ntbl := nt_of 56 (by decide +kernel) (by decide +kernel)
theorem nw166 : (Jvm.Cond.fieldLinkNest "LeafFormula" (134 : Nat) "LeafFormula$Reader" "wrongAt" "I" "LeafFormula") ∈ ntbl := nt_of 166 (by decide +kernel) (by decide +kernel)
theorem nw193 : (Jvm.Cond.fieldLinkNest "LeafFormula" (146 : Nat) "LeafFormula$Plan" "gatheringCount" "I" "LeafFormula") ∈ ntbl := nt_of 193 (by decide +kernel) (by decide +kernel)
theorem nw885 : (Jvm.Cond.fieldLinkNest "LeafFormula$Scribe" (134 : Nat) "LeafFormula$Book" "numberOf" "LLeafFormula$Row;" "LeafFormula") ∈ ntbl := nt_of 885 (by decide +kernel) (by decide +kernel)
theorem nw888 : (Jvm.Cond.fieldLinkNest "LeafFormula$Scribe" (137 : Nat) "LeafFormula$Book" "insertedOf" "LLeafFormula$Row;" "LeafFormula") ∈ ntbl := nt_of 888 (by decide +kernel) (by decide +kernel)
theorem nw989 : (Jvm.Cond.fieldLinkNest "LeafFormula$Collator" (31 : Nat) "LeafFormula$Copy" "source" "LLeafFormula$Book;" "LeafFormula") ∈ ntbl := nt_of 989 (by decide +kernel) (by decide +kernel)
theorem nw990 : (Jvm.Cond.fieldLinkNest "LeafFormula$Scribe" (46 : Nat) "LeafFormula$Copy" "source" "LLeafFormula$Book;" "LeafFormula") ∈ ntbl := nt_of 990 (by decide +kernel) (by decide +kernel)
theorem nw993 : (Jvm.Cond.fieldLinkNest "LeafFormula$Collator" (21 : Nat) "LeafFormula$Copy" "entries" "LLeafFormula$Row;" "LeafFormula") ∈ ntbl := nt_of 993 (by decide +kernel) (by decide +kernel)
theorem nw994 : (Jvm.Cond.fieldLinkNest "LeafFormula$Scribe" (124 : Nat) "LeafFormula$Copy" "entries" "LLeafFormula$Row;" "LeafFormula") ∈ ntbl := nt_of 994 (by decide +kernel) (by decide +kernel)
theorem nw997 : (Jvm.Cond.fieldLinkNest "LeafFormula$Collator" (48 : Nat) "LeafFormula$Copy" "missing" "LLeafFormula$Row;" "LeafFormula") ∈ ntbl := nt_of 997 (by decide +kernel) (by decide +kernel)
theorem nw998 : (Jvm.Cond.fieldLinkNest "LeafFormula$Scribe" (52 : Nat) "LeafFormula$Copy" "missing" "LLeafFormula$Row;" "LeafFormula") ∈ ntbl := nt_of 998 (by decide +kernel) (by decide +kernel)
theorem nw1000 : (Jvm.Cond.fieldLinkNest "LeafFormula$Collator" (57 : Nat) "LeafFormula$Copy" "doubled" "LLeafFormula$Row;" "LeafFormula") ∈ ntbl := nt_of 1000 (by decide +kernel) (by decide +kernel)
theorem nw1001 : (Jvm.Cond.fieldLinkNest "LeafFormula$Scribe" (62 : Nat) "LeafFormula$Copy" "doubled" "LLeafFormula$Row;" "LeafFormula") ∈ ntbl := nt_of 1001 (by decide +kernel) (by decide +kernel)
theorem nw1003 : (Jvm.Cond.fieldLinkNest "LeafFormula$Scribe" (119 : Nat) "LeafFormula$Copy" "strays" "LLeafFormula$Row;" "LeafFormula") ∈ ntbl := nt_of 1003 (by decide +kernel) (by decide +kernel)
theorem nw1004 : (Jvm.Cond.fieldLinkNest "LeafFormula$Collator" (104 : Nat) "LeafFormula$Copy" "strays" "LLeafFormula$Row;" "LeafFormula") ∈ ntbl := nt_of 1004 (by decide +kernel) (by decide +kernel)
theorem nw1006 : (Jvm.Cond.fieldLinkNest "LeafFormula$Collator" (60 : Nat) "LeafFormula$Copy" "loose" "LLeafFormula$Row;" "LeafFormula") ∈ ntbl := nt_of 1006 (by decide +kernel) (by decide +kernel)
theorem nw1008 : (Jvm.Cond.fieldLinkNest "LeafFormula" (216 : Nat) "LeafFormula$Copy" "noteText" "Ljava/lang/String;" "LeafFormula") ∈ ntbl := nt_of 1008 (by decide +kernel) (by decide +kernel)
theorem pw25 : Cond.selects "LeafFormula" ⟨"LeafFormula", "draftRow", "(LLeafFormula$Book;)I"⟩ ⟨"LeafFormula", "draftRow", "(LLeafFormula$Book;)I"⟩ ∈ gtbl := gt_of 25 (by decide +kernel) (by decide +kernel)
theorem pw27 : Cond.selects "LeafFormula" ⟨"LeafFormula", "keepCopy", "(ILLeafFormula$Book;)I"⟩ ⟨"LeafFormula", "keepCopy", "(ILLeafFormula$Book;)I"⟩ ∈ gtbl := gt_of 27 (by decide +kernel) (by decide +kernel)
theorem pw28 : Cond.selects "LeafFormula$Collator" ⟨"LeafFormula$Collator", "countEntries", "(LLeafFormula$Row;)V"⟩ ⟨"LeafFormula$Collator", "countEntries", "(LLeafFormula$Row;)V"⟩ ∈ gtbl := gt_of 28 (by decide +kernel) (by decide +kernel)
theorem pw29 : Cond.selects "LeafFormula$Collator" ⟨"LeafFormula$Collator", "markAt", "(I)I"⟩ ⟨"LeafFormula$Collator", "markAt", "(I)I"⟩ ∈ gtbl := gt_of 29 (by decide +kernel) (by decide +kernel)
theorem pw30 : Cond.selects "LeafFormula$Collator" ⟨"LeafFormula$Collator", "setMark", "(II)V"⟩ ⟨"LeafFormula$Collator", "setMark", "(II)V"⟩ ∈ gtbl := gt_of 30 (by decide +kernel) (by decide +kernel)
theorem pw31 : Cond.selects "LeafFormula$Collator" ⟨"LeafFormula$Collator", "measureReach", "(LLeafFormula$Row;)I"⟩ ⟨"LeafFormula$Collator", "measureReach", "(LLeafFormula$Row;)I"⟩ ∈ gtbl := gt_of 31 (by decide +kernel) (by decide +kernel)
theorem pw32 : Cond.selects "LeafFormula$Collator" ⟨"LeafFormula$Collator", "listStrays", "(LLeafFormula$Copy;I)V"⟩ ⟨"LeafFormula$Collator", "listStrays", "(LLeafFormula$Copy;I)V"⟩ ∈ gtbl := gt_of 32 (by decide +kernel) (by decide +kernel)
theorem pw33 : Cond.selects "LeafFormula$Scribe" ⟨"LeafFormula$Scribe", "writeRuns", "(Ljava/lang/String;LLeafFormula$Book;LLeafFormula$Row;)V"⟩ ⟨"LeafFormula$Scribe", "writeRuns", "(Ljava/lang/String;LLeafFormula$Book;LLeafFormula$Row;)V"⟩ ∈ gtbl := gt_of 33 (by decide +kernel) (by decide +kernel)
theorem pw34 : Cond.selects "LeafFormula$Scribe" ⟨"LeafFormula$Scribe", "writeHead", "(Ljava/lang/String;)V"⟩ ⟨"LeafFormula$Scribe", "writeHead", "(Ljava/lang/String;)V"⟩ ∈ gtbl := gt_of 34 (by decide +kernel) (by decide +kernel)
theorem pw35 : Cond.selects "LeafFormula$Scribe" ⟨"LeafFormula$Scribe", "writeName", "(LLeafFormula$Book;I)V"⟩ ⟨"LeafFormula$Scribe", "writeName", "(LLeafFormula$Book;I)V"⟩ ∈ gtbl := gt_of 35 (by decide +kernel) (by decide +kernel)
theorem pw36 : Cond.selects "LeafFormula$Scribe" ⟨"LeafFormula$Scribe", "writeMoved", "(LLeafFormula$Copy;)V"⟩ ⟨"LeafFormula$Scribe", "writeMoved", "(LLeafFormula$Copy;)V"⟩ ∈ gtbl := gt_of 36 (by decide +kernel) (by decide +kernel)
theorem pw37 : Cond.selects "LeafFormula$Book" ⟨"LeafFormula$Book", "leavesOf", "(I)I"⟩ ⟨"LeafFormula$Book", "leavesOf", "(I)I"⟩ ∈ gtbl := gt_of 37 (by decide +kernel) (by decide +kernel)
theorem pw38 : Cond.selects "LeafFormula$Book" ⟨"LeafFormula$Book", "cutOf", "(I)I"⟩ ⟨"LeafFormula$Book", "cutOf", "(I)I"⟩ ∈ gtbl := gt_of 38 (by decide +kernel) (by decide +kernel)
/-! X2_init -/
theorem dX2_init_0 : decode cX2_init 0 = .ok (.aload_n 0, 1) := by decide +kernel
theorem dX2_init_1 : decode cX2_init 1 = .ok (.invokespecial 3, 3) := by decide +kernel
theorem dX2_init_4 : decode cX2_init 4 = .ok (.aload_n 0, 1) := by decide +kernel
theorem dX2_init_5 : decode cX2_init 5 = .ok (.new 9, 3) := by decide +kernel
theorem dX2_init_8 : decode cX2_init 8 = .ok (.dup, 1) := by decide +kernel
theorem dX2_init_9 : decode cX2_init 9 = .ok (.sipush 400, 3) := by decide +kernel
theorem dX2_init_12 : decode cX2_init 12 = .ok (.invokespecial 11, 3) := by decide +kernel
theorem dX2_init_15 : decode cX2_init 15 = .ok (.putfield 14, 3) := by decide +kernel
theorem dX2_init_18 : decode cX2_init 18 = .ok (.aload_n 0, 1) := by decide +kernel
theorem dX2_init_19 : decode cX2_init 19 = .ok (.new 9, 3) := by decide +kernel
theorem dX2_init_22 : decode cX2_init 22 = .ok (.dup, 1) := by decide +kernel
theorem dX2_init_23 : decode cX2_init 23 = .ok (.sipush 400, 3) := by decide +kernel
theorem dX2_init_26 : decode cX2_init 26 = .ok (.invokespecial 11, 3) := by decide +kernel
theorem dX2_init_29 : decode cX2_init 29 = .ok (.putfield 20, 3) := by decide +kernel
theorem dX2_init_32 : decode cX2_init 32 = .ok (.aload_n 0, 1) := by decide +kernel
theorem dX2_init_33 : decode cX2_init 33 = .ok (.new 9, 3) := by decide +kernel
theorem dX2_init_36 : decode cX2_init 36 = .ok (.dup, 1) := by decide +kernel
theorem dX2_init_37 : decode cX2_init 37 = .ok (.sipush 400, 3) := by decide +kernel
theorem dX2_init_40 : decode cX2_init 40 = .ok (.invokespecial 11, 3) := by decide +kernel
theorem dX2_init_43 : decode cX2_init 43 = .ok (.putfield 23, 3) := by decide +kernel
theorem dX2_init_46 : decode cX2_init 46 = .ok (.aload_n 0, 1) := by decide +kernel
theorem dX2_init_47 : decode cX2_init 47 = .ok (.new 9, 3) := by decide +kernel
theorem dX2_init_50 : decode cX2_init 50 = .ok (.dup, 1) := by decide +kernel
theorem dX2_init_51 : decode cX2_init 51 = .ok (.sipush 400, 3) := by decide +kernel
theorem dX2_init_54 : decode cX2_init 54 = .ok (.invokespecial 11, 3) := by decide +kernel
theorem dX2_init_57 : decode cX2_init 57 = .ok (.putfield 26, 3) := by decide +kernel
theorem dX2_init_60 : decode cX2_init 60 = .ok (.aload_n 0, 1) := by decide +kernel
theorem dX2_init_61 : decode cX2_init 61 = .ok (.new 9, 3) := by decide +kernel
theorem dX2_init_64 : decode cX2_init 64 = .ok (.dup, 1) := by decide +kernel
theorem dX2_init_65 : decode cX2_init 65 = .ok (.sipush 400, 3) := by decide +kernel
theorem dX2_init_68 : decode cX2_init 68 = .ok (.invokespecial 11, 3) := by decide +kernel
theorem dX2_init_71 : decode cX2_init 71 = .ok (.putfield 29, 3) := by decide +kernel
theorem dX2_init_74 : decode cX2_init 74 = .ok (.aload_n 0, 1) := by decide +kernel
theorem dX2_init_75 : decode cX2_init 75 = .ok (.ldc 32, 2) := by decide +kernel
theorem dX2_init_77 : decode cX2_init 77 = .ok (.putfield 34, 3) := by decide +kernel
theorem dX2_init_80 : decode cX2_init 80 = .ok (.aload_n 0, 1) := by decide +kernel
theorem dX2_init_81 : decode cX2_init 81 = .ok (.iload_n 1, 1) := by decide +kernel
theorem dX2_init_82 : decode cX2_init 82 = .ok (.putfield 38, 3) := by decide +kernel
theorem dX2_init_85 : decode cX2_init 85 = .ok (.aload_n 0, 1) := by decide +kernel
theorem dX2_init_86 : decode cX2_init 86 = .ok (.aload_n 2, 1) := by decide +kernel
theorem dX2_init_87 : decode cX2_init 87 = .ok (.putfield 42, 3) := by decide +kernel
theorem dX2_init_90 : decode cX2_init 90 = .ok (.aload_n 0, 1) := by decide +kernel
theorem dX2_init_91 : decode cX2_init 91 = .ok (.getfield 14, 3) := by decide +kernel
theorem dX2_init_94 : decode cX2_init 94 = .ok (.aload_n 3, 1) := by decide +kernel
theorem dX2_init_95 : decode cX2_init 95 = .ok (.invokevirtual 46, 3) := by decide +kernel
theorem dX2_init_98 : decode cX2_init 98 = .ok (.return_, 1) := by decide +kernel
def X2_init (this : Nat) (a1 : Int32) (a2 : Option Nat) (a3 : Option Nat) : MM Unit :=
  wn (some this) fun _ =>
  mb (nO 9 2 [.null, .int 0]) fun v1 =>
  mb (wn v1 fun t => X8_init t (400 : Int32)) fun _ =>
  mb (pR 4 (some this) 2 v1) fun _ =>
  mb (nO 9 2 [.null, .int 0]) fun v2 =>
  mb (wn v2 fun t => X8_init t (400 : Int32)) fun _ =>
  mb (pR 4 (some this) 3 v2) fun _ =>
  mb (nO 9 2 [.null, .int 0]) fun v3 =>
  mb (wn v3 fun t => X8_init t (400 : Int32)) fun _ =>
  mb (pR 4 (some this) 4 v3) fun _ =>
  mb (nO 9 2 [.null, .int 0]) fun v4 =>
  mb (wn v4 fun t => X8_init t (400 : Int32)) fun _ =>
  mb (pR 4 (some this) 5 v4) fun _ =>
  mb (nO 9 2 [.null, .int 0]) fun v5 =>
  mb (wn v5 fun t => X8_init t (400 : Int32)) fun _ =>
  mb (pR 4 (some this) 6 v5) fun _ =>
  mb (kR 4) fun v6 =>
  mb (pR 4 (some this) 7 v6) fun _ =>
  mb (pI 4 (some this) 0 a1) fun _ =>
  mb (pR 4 (some this) 1 a2) fun _ =>
  mb (gR 4 (some this) 2) fun v7 =>
  mb (wc 9 v7 fun t => X8_copyFrom t a3) fun _ =>
  mr ()
set_option maxRecDepth 100000 in
set_option maxHeartbeats 4000000 in
theorem s_X2_init (G : GG) (this : Nat) (a1 : Int32) (a2 : Option Nat) (a3 : Option Nat) : Sn G yX2_init cX2_init 4 none 2 43 (fun _ : Unit => none) (X2_init this a1 a2 a3) 0 [some (va_rf (some this)), some (.int a1), some (va_rf a2), some (va_rf a3)] [] := by
  unfold X2_init
  refine sn_aload_n (v := (some this)) (pc' := 1) dX2_init_0 rfl rfl rfl ?_
  refine sn_oI (pc' := 4) rfl tw975 tw33 tw34 cat_nil rfl dX2_init_1 rfl ?_
  refine sn_aload_n (v := (some this)) (pc' := 5) dX2_init_4 rfl rfl rfl ?_
  refine sn_nO (pc' := 8) ci_9 tw976 tw42 tw3 (by decide +kernel) dX2_init_5 rfl (fun v1 => ?_)
  refine sn_dup (pc' := 9) dX2_init_8 rfl (cat_rf _) ?_
  refine sn_sipush (v := (400 : Int32)) (pc' := 12) dX2_init_9 rfl (by decide) ?_
  refine sn_cI (r := v1) (st := [va_rf v1, va_rf (some this)]) (As := [.int (400 : Int32)]) (st2 := (fun _ => [va_rf v1, va_rf (some this)])) (pc' := 15) (fun t => c_X8_init G t (400 : Int32)) cw_X8_init rfl rfl (Or.inl tw977) tw44 rfl rfl rfl (cat_q (cat_q cat_nil)) rfl (fun _ => rfl) dX2_init_12 rfl (fun _ => ?_)
  refine sn_pR (k := 2) (pc' := 18) ci_4 rfl (Or.inl tw992) (Or.inr ⟨rfl, rfl, rfl, tw992⟩) (Or.inl ⟨_, rfl⟩) dX2_init_15 rfl (fun _ => ?_)
  refine sn_aload_n (v := (some this)) (pc' := 19) dX2_init_18 rfl rfl rfl ?_
  refine sn_nO (pc' := 22) ci_9 tw976 tw42 tw3 (by decide +kernel) dX2_init_19 rfl (fun v2 => ?_)
  refine sn_dup (pc' := 23) dX2_init_22 rfl (cat_rf _) ?_
  refine sn_sipush (v := (400 : Int32)) (pc' := 26) dX2_init_23 rfl (by decide) ?_
  refine sn_cI (r := v2) (st := [va_rf v2, va_rf (some this)]) (As := [.int (400 : Int32)]) (st2 := (fun _ => [va_rf v2, va_rf (some this)])) (pc' := 29) (fun t => c_X8_init G t (400 : Int32)) cw_X8_init rfl rfl (Or.inl tw977) tw44 rfl rfl rfl (cat_q (cat_q cat_nil)) rfl (fun _ => rfl) dX2_init_26 rfl (fun _ => ?_)
  refine sn_pR (k := 3) (pc' := 32) ci_4 rfl (Or.inl tw996) (Or.inr ⟨rfl, rfl, rfl, tw996⟩) (Or.inl ⟨_, rfl⟩) dX2_init_29 rfl (fun _ => ?_)
  refine sn_aload_n (v := (some this)) (pc' := 33) dX2_init_32 rfl rfl rfl ?_
  refine sn_nO (pc' := 36) ci_9 tw976 tw42 tw3 (by decide +kernel) dX2_init_33 rfl (fun v3 => ?_)
  refine sn_dup (pc' := 37) dX2_init_36 rfl (cat_rf _) ?_
  refine sn_sipush (v := (400 : Int32)) (pc' := 40) dX2_init_37 rfl (by decide) ?_
  refine sn_cI (r := v3) (st := [va_rf v3, va_rf (some this)]) (As := [.int (400 : Int32)]) (st2 := (fun _ => [va_rf v3, va_rf (some this)])) (pc' := 43) (fun t => c_X8_init G t (400 : Int32)) cw_X8_init rfl rfl (Or.inl tw977) tw44 rfl rfl rfl (cat_q (cat_q cat_nil)) rfl (fun _ => rfl) dX2_init_40 rfl (fun _ => ?_)
  refine sn_pR (k := 4) (pc' := 46) ci_4 rfl (Or.inl tw999) (Or.inr ⟨rfl, rfl, rfl, tw999⟩) (Or.inl ⟨_, rfl⟩) dX2_init_43 rfl (fun _ => ?_)
  refine sn_aload_n (v := (some this)) (pc' := 47) dX2_init_46 rfl rfl rfl ?_
  refine sn_nO (pc' := 50) ci_9 tw976 tw42 tw3 (by decide +kernel) dX2_init_47 rfl (fun v4 => ?_)
  refine sn_dup (pc' := 51) dX2_init_50 rfl (cat_rf _) ?_
  refine sn_sipush (v := (400 : Int32)) (pc' := 54) dX2_init_51 rfl (by decide) ?_
  refine sn_cI (r := v4) (st := [va_rf v4, va_rf (some this)]) (As := [.int (400 : Int32)]) (st2 := (fun _ => [va_rf v4, va_rf (some this)])) (pc' := 57) (fun t => c_X8_init G t (400 : Int32)) cw_X8_init rfl rfl (Or.inl tw977) tw44 rfl rfl rfl (cat_q (cat_q cat_nil)) rfl (fun _ => rfl) dX2_init_54 rfl (fun _ => ?_)
  refine sn_pR (k := 5) (pc' := 60) ci_4 rfl (Or.inl tw1002) (Or.inr ⟨rfl, rfl, rfl, tw1002⟩) (Or.inl ⟨_, rfl⟩) dX2_init_57 rfl (fun _ => ?_)
  refine sn_aload_n (v := (some this)) (pc' := 61) dX2_init_60 rfl rfl rfl ?_
  refine sn_nO (pc' := 64) ci_9 tw976 tw42 tw3 (by decide +kernel) dX2_init_61 rfl (fun v5 => ?_)
  refine sn_dup (pc' := 65) dX2_init_64 rfl (cat_rf _) ?_
  refine sn_sipush (v := (400 : Int32)) (pc' := 68) dX2_init_65 rfl (by decide) ?_
  refine sn_cI (r := v5) (st := [va_rf v5, va_rf (some this)]) (As := [.int (400 : Int32)]) (st2 := (fun _ => [va_rf v5, va_rf (some this)])) (pc' := 71) (fun t => c_X8_init G t (400 : Int32)) cw_X8_init rfl rfl (Or.inl tw977) tw44 rfl rfl rfl (cat_q (cat_q cat_nil)) rfl (fun _ => rfl) dX2_init_68 rfl (fun _ => ?_)
  refine sn_pR (k := 6) (pc' := 74) ci_4 rfl (Or.inl tw1005) (Or.inr ⟨rfl, rfl, rfl, tw1005⟩) (Or.inl ⟨_, rfl⟩) dX2_init_71 rfl (fun _ => ?_)
  refine sn_aload_n (v := (some this)) (pc' := 75) dX2_init_74 rfl rfl rfl ?_
  refine sn_kS (i := 4) (pc' := 77) (tx := "") (by decide +kernel) dX2_init_75 rfl (fun v6 => ?_)
  refine sn_pR (k := 7) (pc' := 80) ci_4 rfl (Or.inl tw1007) (Or.inl rfl) (Or.inl ⟨_, rfl⟩) dX2_init_77 rfl (fun _ => ?_)
  refine sn_aload_n (v := (some this)) (pc' := 81) dX2_init_80 rfl rfl rfl ?_
  refine sn_iload_n (v := a1) (pc' := 82) dX2_init_81 rfl rfl rfl ?_
  refine sn_pI (k := 0) (pc' := 85) ci_4 rfl (Or.inl tw986) (Or.inr ⟨rfl, rfl, rfl, tw986⟩) rfl dX2_init_82 rfl (fun _ => ?_)
  refine sn_aload_n (v := (some this)) (pc' := 86) dX2_init_85 rfl rfl rfl ?_
  refine sn_aload_n (v := a2) (pc' := 87) dX2_init_86 rfl rfl rfl ?_
  refine sn_pR (k := 1) (pc' := 90) ci_4 rfl (Or.inl tw988) (Or.inr ⟨rfl, rfl, rfl, tw988⟩) (Or.inl ⟨_, rfl⟩) dX2_init_87 rfl (fun _ => ?_)
  refine sn_aload_n (v := (some this)) (pc' := 91) dX2_init_90 rfl rfl rfl ?_
  refine sn_gR (k := 2) (pc' := 94) ci_4 rfl (Or.inl tw992) dX2_init_91 rfl (fun v7 => ?_)
  refine sn_aload_n (v := a3) (pc' := 95) dX2_init_94 rfl rfl rfl ?_
  refine sn_cV (r := v7) (st := []) (As := [va_rf a3]) (st2 := (fun _ => [])) (pc' := 98) ci_9 (fun t => c_X8_copyFrom G t a3) cw_X8_copyFrom rfl rfl tw979 tw981 tw980 rfl rfl cat_nil rfl (fun _ => rfl) dX2_init_95 rfl (fun _ => ?_)
  exact sn_vret dX2_init_98 rfl
theorem c_X2_init (G : GG) (this : Nat) (a1 : Int32) (a2 : Option Nat) (a3 : Option Nat) : Cal G yX2_init cX2_init 4 none 2 43 (fun _ : Unit => none) (X2_init this a1 a2 a3) [.ref this, .int a1, va_rf a2, va_rf a3] :=
  Cal.of (by decide) (cat_t (cat_i (cat_q (cat_q cat_nil)))) rfl (sn_weak (le_s (le_s (le_s (le_s le_e)))) (s_X2_init G this a1 a2 a3))
theorem cw_X2_init : CW yX2_init cX2_init 4 none 3 := ⟨tw974, tw26, by decide, by decide +kernel⟩
/-! X1_markAt -/
theorem dX1_markAt_0 : decode cX1_markAt 0 = .ok (.iload_n 1, 1) := by decide +kernel
theorem dX1_markAt_1 : decode cX1_markAt 1 = .ok (.ifCond .lt 12, 3) := by decide +kernel
theorem dX1_markAt_4 : decode cX1_markAt 4 = .ok (.iload_n 1, 1) := by decide +kernel
theorem dX1_markAt_5 : decode cX1_markAt 5 = .ok (.aload_n 0, 1) := by decide +kernel
theorem dX1_markAt_6 : decode cX1_markAt 6 = .ok (.getfield 9, 3) := by decide +kernel
theorem dX1_markAt_9 : decode cX1_markAt 9 = .ok (.arraylength, 1) := by decide +kernel
theorem dX1_markAt_10 : decode cX1_markAt 10 = .ok (.if_icmp .lt 7, 3) := by decide +kernel
theorem dX1_markAt_13 : decode cX1_markAt 13 = .ok (.iconst 0, 1) := by decide +kernel
theorem dX1_markAt_14 : decode cX1_markAt 14 = .ok (.goto 9, 3) := by decide +kernel
theorem dX1_markAt_17 : decode cX1_markAt 17 = .ok (.aload_n 0, 1) := by decide +kernel
theorem dX1_markAt_18 : decode cX1_markAt 18 = .ok (.getfield 9, 3) := by decide +kernel
theorem dX1_markAt_21 : decode cX1_markAt 21 = .ok (.iload_n 1, 1) := by decide +kernel
theorem dX1_markAt_22 : decode cX1_markAt 22 = .ok (.iaload, 1) := by decide +kernel
theorem dX1_markAt_23 : decode cX1_markAt 23 = .ok (.ireturn, 1) := by decide +kernel
def X1_markAt (this : Nat) (a1 : Int32) : MM Int32 :=
  if a1 < 0 then (mr (0 : Int32)) else (mb (gR 3 (some this) 0) fun v1 =>
  mb (aN v1) fun v2 =>
  if a1 < v2 then (mb (gR 3 (some this) 0) fun v3 =>
  mb (aI v3 a1) fun v4 =>
  mr v4) else (mr (0 : Int32)))
set_option maxRecDepth 100000 in
set_option maxHeartbeats 4000000 in
theorem s_X1_markAt (G : GG) (this : Nat) (a1 : Int32) : Sn G yX1_markAt cX1_markAt 2 (some FieldType.int) 0 0 (fun v : Int32 => some (.int v)) (X1_markAt this a1) 0 [some (va_rf (some this)), some (.int a1)] [] := by
  unfold X1_markAt
  refine sn_iload_n (v := a1) (pc' := 1) dX1_markAt_0 rfl rfl rfl ?_
  refine sn_if_lt (pt := 13) (pf := 4) dX1_markAt_1 rfl rfl ?_ ?_
  · refine sn_iconst (v := (0 : Int32)) (pc' := 14) dX1_markAt_13 rfl (by decide) ?_
    refine sn_goto (pc' := 23) dX1_markAt_14 rfl ?_
    exact sn_iret dX1_markAt_23 rfl rfl
  · refine sn_iload_n (v := a1) (pc' := 5) dX1_markAt_4 rfl rfl rfl ?_
    refine sn_aload_n (v := (some this)) (pc' := 6) dX1_markAt_5 rfl rfl rfl ?_
    refine sn_gR (k := 0) (pc' := 9) ci_3 rfl (Or.inl tw217) dX1_markAt_6 rfl (fun v1 => ?_)
    refine sn_aN (pc' := 10) dX1_markAt_9 rfl (fun v2 => ?_)
    refine sn_ic_lt (pt := 17) (pf := 13) dX1_markAt_10 rfl rfl ?_ ?_
    · refine sn_aload_n (v := (some this)) (pc' := 18) dX1_markAt_17 rfl rfl rfl ?_
      refine sn_gR (k := 0) (pc' := 21) ci_3 rfl (Or.inl tw217) dX1_markAt_18 rfl (fun v3 => ?_)
      refine sn_iload_n (v := a1) (pc' := 22) dX1_markAt_21 rfl rfl rfl ?_
      refine sn_aI (pc' := 23) dX1_markAt_22 rfl (fun v4 => ?_)
      exact sn_iret dX1_markAt_23 rfl rfl
    · refine sn_iconst (v := (0 : Int32)) (pc' := 14) dX1_markAt_13 rfl (by decide) ?_
      refine sn_goto (pc' := 23) dX1_markAt_14 rfl ?_
      exact sn_iret dX1_markAt_23 rfl rfl
theorem c_X1_markAt (G : GG) (this : Nat) (a1 : Int32) : Cal G yX1_markAt cX1_markAt 2 (some FieldType.int) 0 0 (fun v : Int32 => some (.int v)) (X1_markAt this a1) [.ref this, .int a1] :=
  Cal.of (by decide) (cat_t (cat_i cat_nil)) rfl (sn_weak (le_s (le_s le_e)) (s_X1_markAt G this a1))
theorem cw_X1_markAt : CW yX1_markAt cX1_markAt 2 (some FieldType.int) 1 := ⟨tw1039, tw9, by decide, by decide +kernel⟩
/-! X1_setMark -/
theorem dX1_setMark_0 : decode cX1_setMark 0 = .ok (.iload_n 1, 1) := by decide +kernel
theorem dX1_setMark_1 : decode cX1_setMark 1 = .ok (.ifCond .lt 19, 3) := by decide +kernel
theorem dX1_setMark_4 : decode cX1_setMark 4 = .ok (.iload_n 1, 1) := by decide +kernel
theorem dX1_setMark_5 : decode cX1_setMark 5 = .ok (.aload_n 0, 1) := by decide +kernel
theorem dX1_setMark_6 : decode cX1_setMark 6 = .ok (.getfield 9, 3) := by decide +kernel
theorem dX1_setMark_9 : decode cX1_setMark 9 = .ok (.arraylength, 1) := by decide +kernel
theorem dX1_setMark_10 : decode cX1_setMark 10 = .ok (.if_icmp .ge 10, 3) := by decide +kernel
theorem dX1_setMark_13 : decode cX1_setMark 13 = .ok (.aload_n 0, 1) := by decide +kernel
theorem dX1_setMark_14 : decode cX1_setMark 14 = .ok (.getfield 9, 3) := by decide +kernel
theorem dX1_setMark_17 : decode cX1_setMark 17 = .ok (.iload_n 1, 1) := by decide +kernel
theorem dX1_setMark_18 : decode cX1_setMark 18 = .ok (.iload_n 2, 1) := by decide +kernel
theorem dX1_setMark_19 : decode cX1_setMark 19 = .ok (.iastore, 1) := by decide +kernel
theorem dX1_setMark_20 : decode cX1_setMark 20 = .ok (.return_, 1) := by decide +kernel
def X1_setMark (this : Nat) (a1 : Int32) (a2 : Int32) : MM Unit :=
  if a1 < 0 then (mr ()) else (mb (gR 3 (some this) 0) fun v1 =>
  mb (aN v1) fun v2 =>
  if v2 ≤ a1 then (mr ()) else (mb (gR 3 (some this) 0) fun v3 =>
  mb (sI v3 a1 a2) fun _ =>
  mr ()))
set_option maxRecDepth 100000 in
set_option maxHeartbeats 4000000 in
theorem s_X1_setMark (G : GG) (this : Nat) (a1 : Int32) (a2 : Int32) : Sn G yX1_setMark cX1_setMark 3 none 0 0 (fun _ : Unit => none) (X1_setMark this a1 a2) 0 [some (va_rf (some this)), some (.int a1), some (.int a2)] [] := by
  unfold X1_setMark
  refine sn_iload_n (v := a1) (pc' := 1) dX1_setMark_0 rfl rfl rfl ?_
  refine sn_if_lt (pt := 20) (pf := 4) dX1_setMark_1 rfl rfl ?_ ?_
  · exact sn_vret dX1_setMark_20 rfl
  · refine sn_iload_n (v := a1) (pc' := 5) dX1_setMark_4 rfl rfl rfl ?_
    refine sn_aload_n (v := (some this)) (pc' := 6) dX1_setMark_5 rfl rfl rfl ?_
    refine sn_gR (k := 0) (pc' := 9) ci_3 rfl (Or.inl tw217) dX1_setMark_6 rfl (fun v1 => ?_)
    refine sn_aN (pc' := 10) dX1_setMark_9 rfl (fun v2 => ?_)
    refine sn_ic_ge (pt := 20) (pf := 13) dX1_setMark_10 rfl rfl ?_ ?_
    · exact sn_vret dX1_setMark_20 rfl
    · refine sn_aload_n (v := (some this)) (pc' := 14) dX1_setMark_13 rfl rfl rfl ?_
      refine sn_gR (k := 0) (pc' := 17) ci_3 rfl (Or.inl tw217) dX1_setMark_14 rfl (fun v3 => ?_)
      refine sn_iload_n (v := a1) (pc' := 18) dX1_setMark_17 rfl rfl rfl ?_
      refine sn_iload_n (v := a2) (pc' := 19) dX1_setMark_18 rfl rfl rfl ?_
      refine sn_sI (pc' := 20) dX1_setMark_19 rfl (fun _ => ?_)
      exact sn_vret dX1_setMark_20 rfl
theorem c_X1_setMark (G : GG) (this : Nat) (a1 : Int32) (a2 : Int32) : Cal G yX1_setMark cX1_setMark 3 none 0 0 (fun _ : Unit => none) (X1_setMark this a1 a2) [.ref this, .int a1, .int a2] :=
  Cal.of (by decide) (cat_t (cat_i (cat_i cat_nil))) rfl (sn_weak (le_s (le_s (le_s le_e))) (s_X1_setMark G this a1 a2))
theorem cw_X1_setMark : CW yX1_setMark cX1_setMark 3 none 2 := ⟨tw1043, tw9, by decide, by decide +kernel⟩
/-! X1_countEntries -/
theorem dX1_countEntries_0 : decode cX1_countEntries 0 = .ok (.aload_n 0, 1) := by decide +kernel
theorem dX1_countEntries_1 : decode cX1_countEntries 1 = .ok (.getfield 9, 3) := by decide +kernel
theorem dX1_countEntries_4 : decode cX1_countEntries 4 = .ok (.iconst 0, 1) := by decide +kernel
theorem dX1_countEntries_5 : decode cX1_countEntries 5 = .ok (.invokestatic 78, 3) := by decide +kernel
theorem dX1_countEntries_8 : decode cX1_countEntries 8 = .ok (.iconst 0, 1) := by decide +kernel
theorem dX1_countEntries_9 : decode cX1_countEntries 9 = .ok (.istore_n 2, 1) := by decide +kernel
theorem dX1_countEntries_10 : decode cX1_countEntries 10 = .ok (.iload_n 2, 1) := by decide +kernel
theorem dX1_countEntries_11 : decode cX1_countEntries 11 = .ok (.aload_n 1, 1) := by decide +kernel
theorem dX1_countEntries_12 : decode cX1_countEntries 12 = .ok (.getfield 84, 3) := by decide +kernel
theorem dX1_countEntries_15 : decode cX1_countEntries 15 = .ok (.if_icmp .ge 27, 3) := by decide +kernel
theorem dX1_countEntries_18 : decode cX1_countEntries 18 = .ok (.aload_n 1, 1) := by decide +kernel
theorem dX1_countEntries_19 : decode cX1_countEntries 19 = .ok (.iload_n 2, 1) := by decide +kernel
theorem dX1_countEntries_20 : decode cX1_countEntries 20 = .ok (.invokevirtual 88, 3) := by decide +kernel
theorem dX1_countEntries_23 : decode cX1_countEntries 23 = .ok (.istore_n 3, 1) := by decide +kernel
theorem dX1_countEntries_24 : decode cX1_countEntries 24 = .ok (.aload_n 0, 1) := by decide +kernel
theorem dX1_countEntries_25 : decode cX1_countEntries 25 = .ok (.iload_n 3, 1) := by decide +kernel
theorem dX1_countEntries_26 : decode cX1_countEntries 26 = .ok (.aload_n 0, 1) := by decide +kernel
theorem dX1_countEntries_27 : decode cX1_countEntries 27 = .ok (.iload_n 3, 1) := by decide +kernel
theorem dX1_countEntries_28 : decode cX1_countEntries 28 = .ok (.invokevirtual 41, 3) := by decide +kernel
theorem dX1_countEntries_31 : decode cX1_countEntries 31 = .ok (.iconst 1, 1) := by decide +kernel
theorem dX1_countEntries_32 : decode cX1_countEntries 32 = .ok (.iadd, 1) := by decide +kernel
theorem dX1_countEntries_33 : decode cX1_countEntries 33 = .ok (.invokevirtual 91, 3) := by decide +kernel
theorem dX1_countEntries_36 : decode cX1_countEntries 36 = .ok (.iinc 2 1, 3) := by decide +kernel
theorem dX1_countEntries_39 : decode cX1_countEntries 39 = .ok (.goto (-29), 3) := by decide +kernel
theorem dX1_countEntries_42 : decode cX1_countEntries 42 = .ok (.return_, 1) := by decide +kernel
def X1_countEntries_10_st  (k10 : Nat → Option Nat → Int32 → MM Unit) (this : Nat) (x1 : Option Nat) (x2 : Int32) : MM Unit :=
  mb (gI 9 x1 1) fun v1 =>
  if v1 ≤ x2 then (mr ()) else (mb (wc 9 x1 fun t => X8_get t x2) fun v2 =>
  mb (wc 3 (some this) fun t => X1_markAt t v2) fun v3 =>
  mb (wc 3 (some this) fun t => X1_setMark t v2 (v3 + (1 : Int32))) fun _ =>
  (k10 this x1 (x2 + (1 : Int32))))
def X1_countEntries_10  : Nat → Nat → Option Nat → Int32 → MM Unit
  | 0 => fun _ _ _ => mf
  | n + 1 => fun this x1 x2 => X1_countEntries_10_st  (X1_countEntries_10  n) this x1 x2
def X1_countEntries (this : Nat) (a1 : Option Nat) : MM Unit :=
  mb (gR 3 (some this) 0) fun v1 =>
  mb (J7_fill_53178 v1 (0 : Int32)) fun _ =>
  (X1_countEntries_10 LFU this a1 (0 : Int32))
set_option maxRecDepth 100000 in
set_option maxHeartbeats 4000000 in
theorem s_X1_countEntries_10_st (G : GG)   (k10 : Nat → Option Nat → Int32 → MM Unit) (hk10 : ∀ (this : Nat) (x1 : Option Nat) (x2 : Int32), Sn G yX1_countEntries cX1_countEntries 4 none 1 23 (fun _ : Unit => none) (k10 this x1 x2) 10 [some (va_rf (some this)), some (va_rf x1), some (.int x2), none] []) (this : Nat) (x1 : Option Nat) (x2 : Int32) : Sn G yX1_countEntries cX1_countEntries 4 none 1 23 (fun _ : Unit => none) (X1_countEntries_10_st  k10 this x1 x2) 10 [some (va_rf (some this)), some (va_rf x1), some (.int x2), none] [] := by
  unfold X1_countEntries_10_st
  refine sn_iload_n (v := x2) (pc' := 11) dX1_countEntries_10 rfl rfl rfl ?_
  refine sn_aload_n (v := x1) (pc' := 12) dX1_countEntries_11 rfl rfl rfl ?_
  refine sn_gI (k := 1) (pc' := 15) ci_9 rfl (Or.inr ⟨_, nw55⟩) dX1_countEntries_12 rfl (fun v1 => ?_)
  refine sn_ic_ge (pt := 42) (pf := 18) dX1_countEntries_15 rfl rfl ?_ ?_
  · exact sn_vret dX1_countEntries_42 rfl
  · refine sn_aload_n (v := x1) (pc' := 19) dX1_countEntries_18 rfl rfl rfl ?_
    refine sn_iload_n (v := x2) (pc' := 20) dX1_countEntries_19 rfl rfl rfl ?_
    refine sn_cV (r := x1) (st := []) (As := [.int x2]) (st2 := (fun v => .int v :: [])) (pc' := 23) ci_9 (fun t => c_X8_get G t x2) cw_X8_get rfl rfl tw1035 tw497 tw496 rfl rfl cat_nil rfl (fun _ => rfl) dX1_countEntries_20 rfl (fun v2 => ?_)
    refine sn_istore_n (v := v2) (L' := [some (va_rf (some this)), some (va_rf x1), some (.int x2), some (.int v2)]) (pc' := 24) dX1_countEntries_23 rfl rfl rfl rfl ?_
    refine sn_aload_n (v := (some this)) (pc' := 25) dX1_countEntries_24 rfl rfl rfl ?_
    refine sn_iload_n (v := v2) (pc' := 26) dX1_countEntries_25 rfl rfl rfl ?_
    refine sn_aload_n (v := (some this)) (pc' := 27) dX1_countEntries_26 rfl rfl rfl ?_
    refine sn_iload_n (v := v2) (pc' := 28) dX1_countEntries_27 rfl rfl rfl ?_
    refine sn_cV (r := (some this)) (st := [.int v2, va_rf (some this)]) (As := [.int v2]) (st2 := (fun v => .int v :: [.int v2, va_rf (some this)])) (pc' := 31) ci_3 (fun t => c_X1_markAt G t v2) cw_X1_markAt rfl rfl tw1036 pw29 tw1038 rfl rfl (cat_i (cat_q cat_nil)) rfl (fun _ => rfl) dX1_countEntries_28 rfl (fun v3 => ?_)
    refine sn_iconst (v := (1 : Int32)) (pc' := 32) dX1_countEntries_31 rfl (by decide) ?_
    refine sn_iadd (pc' := 33) dX1_countEntries_32 rfl ?_
    refine sn_cV (r := (some this)) (st := []) (As := [.int v2, .int (v3 + (1 : Int32))]) (st2 := (fun _ => [])) (pc' := 36) ci_3 (fun t => c_X1_setMark G t v2 (v3 + (1 : Int32))) cw_X1_setMark rfl rfl tw1040 pw30 tw1042 rfl rfl cat_nil rfl (fun _ => rfl) dX1_countEntries_33 rfl (fun _ => ?_)
    refine sn_iinc (v := x2) (w := 1) (L' := [some (va_rf (some this)), some (va_rf x1), some (.int (x2 + (1 : Int32))), some (.int v2)]) (pc' := 39) dX1_countEntries_36 rfl rfl rfl (by decide) rfl ?_
    refine sn_goto (pc' := 10) dX1_countEntries_39 rfl ?_
    exact sn_weak (le_s (le_s (le_s (le_n le_e)))) (hk10 this x1 (x2 + (1 : Int32)))
set_option maxRecDepth 100000 in
set_option maxHeartbeats 4000000 in
theorem s_X1_countEntries_10 (G : GG)   : ∀ (n : Nat) (this : Nat) (x1 : Option Nat) (x2 : Int32), Sn G yX1_countEntries cX1_countEntries 4 none 1 23 (fun _ : Unit => none) (X1_countEntries_10  n this x1 x2) 10 [some (va_rf (some this)), some (va_rf x1), some (.int x2), none] [] := by
  intro n
  induction n with
  | zero => intro this x1 x2; exact sn_mf
  | succ n ih => intro this x1 x2; exact s_X1_countEntries_10_st G   (X1_countEntries_10  n) ih this x1 x2
set_option maxRecDepth 100000 in
set_option maxHeartbeats 4000000 in
theorem s_X1_countEntries (G : GG) (this : Nat) (a1 : Option Nat) : Sn G yX1_countEntries cX1_countEntries 4 none 1 23 (fun _ : Unit => none) (X1_countEntries this a1) 0 [some (va_rf (some this)), some (va_rf a1), none, none] [] := by
  unfold X1_countEntries
  refine sn_aload_n (v := (some this)) (pc' := 1) dX1_countEntries_0 rfl rfl rfl ?_
  refine sn_gR (k := 0) (pc' := 4) ci_3 rfl (Or.inl tw217) dX1_countEntries_1 rfl (fun v1 => ?_)
  refine sn_iconst (v := (0 : Int32)) (pc' := 5) dX1_countEntries_4 rfl (by decide) ?_
  refine sn_cS (st := []) (As := [va_rf v1, .int (0 : Int32)]) (st2 := (fun _ => [])) (pc' := 8) (c_J7_fill_53178 G v1 (0 : Int32)) cw_J7_fill_53178 rfl rfl tw1034 tw528 rfl rfl cat_nil rfl (fun _ => rfl) dX1_countEntries_5 rfl (fun _ => ?_)
  refine sn_iconst (v := (0 : Int32)) (pc' := 9) dX1_countEntries_8 rfl (by decide) ?_
  refine sn_istore_n (v := (0 : Int32)) (L' := [some (va_rf (some this)), some (va_rf a1), some (.int (0 : Int32)), none]) (pc' := 10) dX1_countEntries_9 rfl rfl rfl rfl ?_
  exact sn_weak (le_s (le_s (le_s (le_n le_e)))) (s_X1_countEntries_10 G LFU this a1 (0 : Int32))
theorem c_X1_countEntries (G : GG) (this : Nat) (a1 : Option Nat) : Cal G yX1_countEntries cX1_countEntries 4 none 1 23 (fun _ : Unit => none) (X1_countEntries this a1) [.ref this, va_rf a1] :=
  Cal.of (by decide) (cat_t (cat_q cat_nil)) rfl (sn_weak (le_s (le_s (le_z (le_z le_e)))) (s_X1_countEntries G this a1))
theorem cw_X1_countEntries : CW yX1_countEntries cX1_countEntries 4 none 1 := ⟨tw1033, tw9, by decide, by decide +kernel⟩
/-! X0_signAt -/
theorem dX0_signAt_0 : decode cX0_signAt 0 = .ok (.aload_n 0, 1) := by decide +kernel
theorem dX0_signAt_1 : decode cX0_signAt 1 = .ok (.getfield 12, 3) := by decide +kernel
theorem dX0_signAt_4 : decode cX0_signAt 4 = .ok (.aload_n 0, 1) := by decide +kernel
theorem dX0_signAt_5 : decode cX0_signAt 5 = .ok (.getfield 27, 3) := by decide +kernel
theorem dX0_signAt_8 : decode cX0_signAt 8 = .ok (.iload_n 1, 1) := by decide +kernel
theorem dX0_signAt_9 : decode cX0_signAt 9 = .ok (.invokevirtual 96, 3) := by decide +kernel
theorem dX0_signAt_12 : decode cX0_signAt 12 = .ok (.invokevirtual 55, 3) := by decide +kernel
theorem dX0_signAt_15 : decode cX0_signAt 15 = .ok (.ireturn, 1) := by decide +kernel
def X0_signAt (this : Nat) (a1 : Int32) : MM Int32 :=
  mb (gR 2 (some this) 0) fun v1 =>
  mb (gR 2 (some this) 2) fun v2 =>
  mb (wc 9 v2 fun t => X8_get t a1) fun v3 =>
  mb (wc 7 v1 fun t => X6_signOf t v3) fun v4 =>
  mr v4
set_option maxRecDepth 100000 in
set_option maxHeartbeats 4000000 in
theorem s_X0_signAt (G : GG) (this : Nat) (a1 : Int32) : Sn G yX0_signAt cX0_signAt 2 (some FieldType.int) 1 21 (fun v : Int32 => some (.int v)) (X0_signAt this a1) 0 [some (va_rf (some this)), some (.int a1)] [] := by
  unfold X0_signAt
  refine sn_aload_n (v := (some this)) (pc' := 1) dX0_signAt_0 rfl rfl rfl ?_
  refine sn_gR (k := 0) (pc' := 4) ci_2 rfl (Or.inl tw880) dX0_signAt_1 rfl (fun v1 => ?_)
  refine sn_aload_n (v := (some this)) (pc' := 5) dX0_signAt_4 rfl rfl rfl ?_
  refine sn_gR (k := 2) (pc' := 8) ci_2 rfl (Or.inl tw883) dX0_signAt_5 rfl (fun v2 => ?_)
  refine sn_iload_n (v := a1) (pc' := 9) dX0_signAt_8 rfl rfl rfl ?_
  refine sn_cV (r := v2) (st := [va_rf v1]) (As := [.int a1]) (st2 := (fun v => .int v :: [va_rf v1])) (pc' := 12) ci_9 (fun t => c_X8_get G t a1) cw_X8_get rfl rfl tw949 tw497 tw496 rfl rfl (cat_q cat_nil) rfl (fun _ => rfl) dX0_signAt_9 rfl (fun v3 => ?_)
  refine sn_cV (r := v1) (st := []) (As := [.int v3]) (st2 := (fun v => .int v :: [])) (pc' := 15) ci_7 (fun t => c_X6_signOf G t v3) cw_X6_signOf rfl rfl tw858 tw649 tw648 rfl rfl cat_nil rfl (fun _ => rfl) dX0_signAt_12 rfl (fun v4 => ?_)
  exact sn_iret dX0_signAt_15 rfl rfl
theorem c_X0_signAt (G : GG) (this : Nat) (a1 : Int32) : Cal G yX0_signAt cX0_signAt 2 (some FieldType.int) 1 21 (fun v : Int32 => some (.int v)) (X0_signAt this a1) [.ref this, .int a1] :=
  Cal.of (by decide) (cat_t (cat_i cat_nil)) rfl (sn_weak (le_s (le_s le_e)) (s_X0_signAt G this a1))
theorem cw_X0_signAt : CW yX0_signAt cX0_signAt 2 (some FieldType.int) 1 := ⟨tw1052, tw21, by decide, by decide +kernel⟩
/-! X0_conjugateOf -/
theorem dX0_conjugateOf_0 : decode cX0_conjugateOf 0 = .ok (.aload_n 0, 1) := by decide +kernel
theorem dX0_conjugateOf_1 : decode cX0_conjugateOf 1 = .ok (.iload_n 1, 1) := by decide +kernel
theorem dX0_conjugateOf_2 : decode cX0_conjugateOf 2 = .ok (.invokevirtual 102, 3) := by decide +kernel
theorem dX0_conjugateOf_5 : decode cX0_conjugateOf 5 = .ok (.istore_n 2, 1) := by decide +kernel
theorem dX0_conjugateOf_6 : decode cX0_conjugateOf 6 = .ok (.aload_n 0, 1) := by decide +kernel
theorem dX0_conjugateOf_7 : decode cX0_conjugateOf 7 = .ok (.getfield 31, 3) := by decide +kernel
theorem dX0_conjugateOf_10 : decode cX0_conjugateOf 10 = .ok (.iload_n 1, 1) := by decide +kernel
theorem dX0_conjugateOf_11 : decode cX0_conjugateOf 11 = .ok (.invokevirtual 96, 3) := by decide +kernel
theorem dX0_conjugateOf_14 : decode cX0_conjugateOf 14 = .ok (.istore_n 3, 1) := by decide +kernel
theorem dX0_conjugateOf_15 : decode cX0_conjugateOf 15 = .ok (.aload_n 0, 1) := by decide +kernel
theorem dX0_conjugateOf_16 : decode cX0_conjugateOf 16 = .ok (.getfield 12, 3) := by decide +kernel
theorem dX0_conjugateOf_19 : decode cX0_conjugateOf 19 = .ok (.iload_n 2, 1) := by decide +kernel
theorem dX0_conjugateOf_20 : decode cX0_conjugateOf 20 = .ok (.invokevirtual 59, 3) := by decide +kernel
theorem dX0_conjugateOf_23 : decode cX0_conjugateOf 23 = .ok (.iconst 1, 1) := by decide +kernel
theorem dX0_conjugateOf_24 : decode cX0_conjugateOf 24 = .ok (.iadd, 1) := by decide +kernel
theorem dX0_conjugateOf_25 : decode cX0_conjugateOf 25 = .ok (.iload_n 3, 1) := by decide +kernel
theorem dX0_conjugateOf_26 : decode cX0_conjugateOf 26 = .ok (.isub, 1) := by decide +kernel
theorem dX0_conjugateOf_27 : decode cX0_conjugateOf 27 = .ok (.istore 4, 2) := by decide +kernel
theorem dX0_conjugateOf_29 : decode cX0_conjugateOf 29 = .ok (.aload_n 0, 1) := by decide +kernel
theorem dX0_conjugateOf_30 : decode cX0_conjugateOf 30 = .ok (.getfield 12, 3) := by decide +kernel
theorem dX0_conjugateOf_33 : decode cX0_conjugateOf 33 = .ok (.iload_n 2, 1) := by decide +kernel
theorem dX0_conjugateOf_34 : decode cX0_conjugateOf 34 = .ok (.iload 4, 2) := by decide +kernel
theorem dX0_conjugateOf_36 : decode cX0_conjugateOf 36 = .ok (.invokevirtual 62, 3) := by decide +kernel
theorem dX0_conjugateOf_39 : decode cX0_conjugateOf 39 = .ok (.istore 5, 2) := by decide +kernel
theorem dX0_conjugateOf_41 : decode cX0_conjugateOf 41 = .ok (.aload_n 0, 1) := by decide +kernel
theorem dX0_conjugateOf_42 : decode cX0_conjugateOf 42 = .ok (.getfield 34, 3) := by decide +kernel
theorem dX0_conjugateOf_45 : decode cX0_conjugateOf 45 = .ok (.iload_n 1, 1) := by decide +kernel
theorem dX0_conjugateOf_46 : decode cX0_conjugateOf 46 = .ok (.invokevirtual 96, 3) := by decide +kernel
theorem dX0_conjugateOf_49 : decode cX0_conjugateOf 49 = .ok (.ifCond .ne 21, 3) := by decide +kernel
theorem dX0_conjugateOf_52 : decode cX0_conjugateOf 52 = .ok (.iload 4, 2) := by decide +kernel
theorem dX0_conjugateOf_54 : decode cX0_conjugateOf 54 = .ok (.iload_n 3, 1) := by decide +kernel
theorem dX0_conjugateOf_55 : decode cX0_conjugateOf 55 = .ok (.if_icmp .eq 15, 3) := by decide +kernel
theorem dX0_conjugateOf_58 : decode cX0_conjugateOf 58 = .ok (.aload_n 0, 1) := by decide +kernel
theorem dX0_conjugateOf_59 : decode cX0_conjugateOf 59 = .ok (.getfield 12, 3) := by decide +kernel
theorem dX0_conjugateOf_62 : decode cX0_conjugateOf 62 = .ok (.iload 5, 2) := by decide +kernel
theorem dX0_conjugateOf_64 : decode cX0_conjugateOf 64 = .ok (.invokevirtual 105, 3) := by decide +kernel
theorem dX0_conjugateOf_67 : decode cX0_conjugateOf 67 = .ok (.ifCond .eq 5, 3) := by decide +kernel
theorem dX0_conjugateOf_70 : decode cX0_conjugateOf 70 = .ok (.iconst (-1), 1) := by decide +kernel
theorem dX0_conjugateOf_71 : decode cX0_conjugateOf 71 = .ok (.ireturn, 1) := by decide +kernel
theorem dX0_conjugateOf_72 : decode cX0_conjugateOf 72 = .ok (.aload_n 0, 1) := by decide +kernel
theorem dX0_conjugateOf_73 : decode cX0_conjugateOf 73 = .ok (.iload 5, 2) := by decide +kernel
theorem dX0_conjugateOf_75 : decode cX0_conjugateOf 75 = .ok (.iconst (-1), 1) := by decide +kernel
theorem dX0_conjugateOf_76 : decode cX0_conjugateOf 76 = .ok (.invokevirtual 108, 3) := by decide +kernel
theorem dX0_conjugateOf_79 : decode cX0_conjugateOf 79 = .ok (.ireturn, 1) := by decide +kernel
def X0_conjugateOf (this : Nat) (a1 : Int32) : MM Int32 :=
  mb (wc 2 (some this) fun t => X0_signAt t a1) fun v1 =>
  mb (gR 2 (some this) 3) fun v2 =>
  mb (wc 9 v2 fun t => X8_get t a1) fun v3 =>
  mb (gR 2 (some this) 0) fun v4 =>
  mb (wc 7 v4 fun t => X6_sizeOf t v1) fun v5 =>
  mb (gR 2 (some this) 0) fun v6 =>
  mb (wc 7 v6 fun t => X6_slotOf t v1 ((v5 + (1 : Int32)) - v3)) fun v7 =>
  mb (gR 2 (some this) 4) fun v8 =>
  mb (wc 9 v8 fun t => X8_get t a1) fun v9 =>
  if v9 = 0 then (if ((v5 + (1 : Int32)) - v3) = v3 then (mr (-1 : Int32)) else (mb (gR 2 (some this) 0) fun v10 =>
  mb (wc 7 v10 fun t => X6_fateOf t v7) fun v11 =>
  if v11 = 0 then (mb (wc 2 (some this) fun t => X0_placeOfSlot t v7 (-1 : Int32)) fun v12 =>
  mr v12) else (mr (-1 : Int32)))) else (mr (-1 : Int32))
set_option maxRecDepth 100000 in
set_option maxHeartbeats 4000000 in
theorem s_X0_conjugateOf (G : GG) (this : Nat) (a1 : Int32) : Sn G yX0_conjugateOf cX0_conjugateOf 6 (some FieldType.int) 3 66 (fun v : Int32 => some (.int v)) (X0_conjugateOf this a1) 0 [some (va_rf (some this)), some (.int a1), none, none, none, none] [] := by
  unfold X0_conjugateOf
  refine sn_aload_n (v := (some this)) (pc' := 1) dX0_conjugateOf_0 rfl rfl rfl ?_
  refine sn_iload_n (v := a1) (pc' := 2) dX0_conjugateOf_1 rfl rfl rfl ?_
  refine sn_cV (r := (some this)) (st := []) (As := [.int a1]) (st2 := (fun v => .int v :: [])) (pc' := 5) ci_2 (fun t => c_X0_signAt G t a1) cw_X0_signAt rfl rfl tw1049 tw1051 tw1050 rfl rfl cat_nil rfl (fun _ => rfl) dX0_conjugateOf_2 rfl (fun v1 => ?_)
  refine sn_istore_n (v := v1) (L' := [some (va_rf (some this)), some (.int a1), some (.int v1), none, none, none]) (pc' := 6) dX0_conjugateOf_5 rfl rfl rfl rfl ?_
  refine sn_aload_n (v := (some this)) (pc' := 7) dX0_conjugateOf_6 rfl rfl rfl ?_
  refine sn_gR (k := 3) (pc' := 10) ci_2 rfl (Or.inl tw884) dX0_conjugateOf_7 rfl (fun v2 => ?_)
  refine sn_iload_n (v := a1) (pc' := 11) dX0_conjugateOf_10 rfl rfl rfl ?_
  refine sn_cV (r := v2) (st := []) (As := [.int a1]) (st2 := (fun v => .int v :: [])) (pc' := 14) ci_9 (fun t => c_X8_get G t a1) cw_X8_get rfl rfl tw949 tw497 tw496 rfl rfl cat_nil rfl (fun _ => rfl) dX0_conjugateOf_11 rfl (fun v3 => ?_)
  refine sn_istore_n (v := v3) (L' := [some (va_rf (some this)), some (.int a1), some (.int v1), some (.int v3), none, none]) (pc' := 15) dX0_conjugateOf_14 rfl rfl rfl rfl ?_
  refine sn_aload_n (v := (some this)) (pc' := 16) dX0_conjugateOf_15 rfl rfl rfl ?_
  refine sn_gR (k := 0) (pc' := 19) ci_2 rfl (Or.inl tw880) dX0_conjugateOf_16 rfl (fun v4 => ?_)
  refine sn_iload_n (v := v1) (pc' := 20) dX0_conjugateOf_19 rfl rfl rfl ?_
  refine sn_cV (r := v4) (st := []) (As := [.int v1]) (st2 := (fun v => .int v :: [])) (pc' := 23) ci_7 (fun t => c_X6_sizeOf G t v1) cw_X6_sizeOf rfl rfl tw859 tw539 tw538 rfl rfl cat_nil rfl (fun _ => rfl) dX0_conjugateOf_20 rfl (fun v5 => ?_)
  refine sn_iconst (v := (1 : Int32)) (pc' := 24) dX0_conjugateOf_23 rfl (by decide) ?_
  refine sn_iadd (pc' := 25) dX0_conjugateOf_24 rfl ?_
  refine sn_iload_n (v := v3) (pc' := 26) dX0_conjugateOf_25 rfl rfl rfl ?_
  refine sn_isub (pc' := 27) dX0_conjugateOf_26 rfl ?_
  refine sn_istore (v := ((v5 + (1 : Int32)) - v3)) (L' := [some (va_rf (some this)), some (.int a1), some (.int v1), some (.int v3), some (.int ((v5 + (1 : Int32)) - v3)), none]) (pc' := 29) dX0_conjugateOf_27 rfl rfl rfl ?_
  refine sn_aload_n (v := (some this)) (pc' := 30) dX0_conjugateOf_29 rfl rfl rfl ?_
  refine sn_gR (k := 0) (pc' := 33) ci_2 rfl (Or.inl tw880) dX0_conjugateOf_30 rfl (fun v6 => ?_)
  refine sn_iload_n (v := v1) (pc' := 34) dX0_conjugateOf_33 rfl rfl rfl ?_
  refine sn_iload (v := ((v5 + (1 : Int32)) - v3)) (pc' := 36) dX0_conjugateOf_34 rfl rfl ?_
  refine sn_cV (r := v6) (st := []) (As := [.int v1, .int ((v5 + (1 : Int32)) - v3)]) (st2 := (fun v => .int v :: [])) (pc' := 39) ci_7 (fun t => c_X6_slotOf G t v1 ((v5 + (1 : Int32)) - v3)) cw_X6_slotOf rfl rfl tw860 tw560 tw559 rfl rfl cat_nil rfl (fun _ => rfl) dX0_conjugateOf_36 rfl (fun v7 => ?_)
  refine sn_istore (v := v7) (L' := [some (va_rf (some this)), some (.int a1), some (.int v1), some (.int v3), some (.int ((v5 + (1 : Int32)) - v3)), some (.int v7)]) (pc' := 41) dX0_conjugateOf_39 rfl rfl rfl ?_
  refine sn_aload_n (v := (some this)) (pc' := 42) dX0_conjugateOf_41 rfl rfl rfl ?_
  refine sn_gR (k := 4) (pc' := 45) ci_2 rfl (Or.inl tw886) dX0_conjugateOf_42 rfl (fun v8 => ?_)
  refine sn_iload_n (v := a1) (pc' := 46) dX0_conjugateOf_45 rfl rfl rfl ?_
  refine sn_cV (r := v8) (st := []) (As := [.int a1]) (st2 := (fun v => .int v :: [])) (pc' := 49) ci_9 (fun t => c_X8_get G t a1) cw_X8_get rfl rfl tw949 tw497 tw496 rfl rfl cat_nil rfl (fun _ => rfl) dX0_conjugateOf_46 rfl (fun v9 => ?_)
  refine sn_if_ne (pt := 70) (pf := 52) dX0_conjugateOf_49 rfl rfl ?_ ?_
  · refine sn_iload (v := ((v5 + (1 : Int32)) - v3)) (pc' := 54) dX0_conjugateOf_52 rfl rfl ?_
    refine sn_iload_n (v := v3) (pc' := 55) dX0_conjugateOf_54 rfl rfl rfl ?_
    refine sn_ic_eq (pt := 70) (pf := 58) dX0_conjugateOf_55 rfl rfl ?_ ?_
    · refine sn_iconst (v := (-1 : Int32)) (pc' := 71) dX0_conjugateOf_70 rfl (by decide) ?_
      exact sn_iret dX0_conjugateOf_71 rfl rfl
    · refine sn_aload_n (v := (some this)) (pc' := 59) dX0_conjugateOf_58 rfl rfl rfl ?_
      refine sn_gR (k := 0) (pc' := 62) ci_2 rfl (Or.inl tw880) dX0_conjugateOf_59 rfl (fun v10 => ?_)
      refine sn_iload (v := v7) (pc' := 64) dX0_conjugateOf_62 rfl rfl ?_
      refine sn_cV (r := v10) (st := []) (As := [.int v7]) (st2 := (fun v => .int v :: [])) (pc' := 67) ci_7 (fun t => c_X6_fateOf G t v7) cw_X6_fateOf rfl rfl tw1053 tw788 tw787 rfl rfl cat_nil rfl (fun _ => rfl) dX0_conjugateOf_64 rfl (fun v11 => ?_)
      refine sn_if_eq (pt := 72) (pf := 70) dX0_conjugateOf_67 rfl rfl ?_ ?_
      · refine sn_aload_n (v := (some this)) (pc' := 73) dX0_conjugateOf_72 rfl rfl rfl ?_
        refine sn_iload (v := v7) (pc' := 75) dX0_conjugateOf_73 rfl rfl ?_
        refine sn_iconst (v := (-1 : Int32)) (pc' := 76) dX0_conjugateOf_75 rfl (by decide) ?_
        refine sn_cV (r := (some this)) (st := []) (As := [.int v7, .int (-1 : Int32)]) (st2 := (fun v => .int v :: [])) (pc' := 79) ci_2 (fun t => c_X0_placeOfSlot G t v7 (-1 : Int32)) cw_X0_placeOfSlot rfl rfl tw950 pw26 tw952 rfl rfl cat_nil rfl (fun _ => rfl) dX0_conjugateOf_76 rfl (fun v12 => ?_)
        exact sn_iret dX0_conjugateOf_79 rfl rfl
      · refine sn_iconst (v := (-1 : Int32)) (pc' := 71) dX0_conjugateOf_70 rfl (by decide) ?_
        exact sn_iret dX0_conjugateOf_71 rfl rfl
  · refine sn_iconst (v := (-1 : Int32)) (pc' := 71) dX0_conjugateOf_70 rfl (by decide) ?_
    exact sn_iret dX0_conjugateOf_71 rfl rfl
theorem c_X0_conjugateOf (G : GG) (this : Nat) (a1 : Int32) : Cal G yX0_conjugateOf cX0_conjugateOf 6 (some FieldType.int) 3 66 (fun v : Int32 => some (.int v)) (X0_conjugateOf this a1) [.ref this, .int a1] :=
  Cal.of (by decide) (cat_t (cat_i cat_nil)) rfl (sn_weak (le_s (le_s (le_z (le_z (le_z (le_z le_e)))))) (s_X0_conjugateOf G this a1))
theorem cw_X0_conjugateOf : CW yX0_conjugateOf cX0_conjugateOf 6 (some FieldType.int) 1 := ⟨tw1048, tw21, by decide, by decide +kernel⟩
/-! X1_measureReach -/
theorem dX1_measureReach_0 : decode cX1_measureReach 0 = .ok (.iconst 0, 1) := by decide +kernel
theorem dX1_measureReach_1 : decode cX1_measureReach 1 = .ok (.istore_n 2, 1) := by decide +kernel
theorem dX1_measureReach_2 : decode cX1_measureReach 2 = .ok (.aload_n 1, 1) := by decide +kernel
theorem dX1_measureReach_3 : decode cX1_measureReach 3 = .ok (.getfield 84, 3) := by decide +kernel
theorem dX1_measureReach_6 : decode cX1_measureReach 6 = .ok (.aload_n 0, 1) := by decide +kernel
theorem dX1_measureReach_7 : decode cX1_measureReach 7 = .ok (.getfield 15, 3) := by decide +kernel
theorem dX1_measureReach_10 : decode cX1_measureReach 10 = .ok (.arraylength, 1) := by decide +kernel
theorem dX1_measureReach_11 : decode cX1_measureReach 11 = .ok (.invokestatic 95, 3) := by decide +kernel
theorem dX1_measureReach_14 : decode cX1_measureReach 14 = .ok (.iconst 1, 1) := by decide +kernel
theorem dX1_measureReach_15 : decode cX1_measureReach 15 = .ok (.isub, 1) := by decide +kernel
theorem dX1_measureReach_16 : decode cX1_measureReach 16 = .ok (.istore_n 3, 1) := by decide +kernel
theorem dX1_measureReach_17 : decode cX1_measureReach 17 = .ok (.iload_n 3, 1) := by decide +kernel
theorem dX1_measureReach_18 : decode cX1_measureReach 18 = .ok (.ifCond .lt 90, 3) := by decide +kernel
theorem dX1_measureReach_21 : decode cX1_measureReach 21 = .ok (.aload_n 1, 1) := by decide +kernel
theorem dX1_measureReach_22 : decode cX1_measureReach 22 = .ok (.iload_n 3, 1) := by decide +kernel
theorem dX1_measureReach_23 : decode cX1_measureReach 23 = .ok (.invokevirtual 88, 3) := by decide +kernel
theorem dX1_measureReach_26 : decode cX1_measureReach 26 = .ok (.istore 4, 2) := by decide +kernel
theorem dX1_measureReach_28 : decode cX1_measureReach 28 = .ok (.iload_n 2, 1) := by decide +kernel
theorem dX1_measureReach_29 : decode cX1_measureReach 29 = .ok (.aload_n 0, 1) := by decide +kernel
theorem dX1_measureReach_30 : decode cX1_measureReach 30 = .ok (.getfield 18, 3) := by decide +kernel
theorem dX1_measureReach_33 : decode cX1_measureReach 33 = .ok (.arraylength, 1) := by decide +kernel
theorem dX1_measureReach_34 : decode cX1_measureReach 34 = .ok (.invokestatic 95, 3) := by decide +kernel
theorem dX1_measureReach_37 : decode cX1_measureReach 37 = .ok (.istore 5, 2) := by decide +kernel
theorem dX1_measureReach_39 : decode cX1_measureReach 39 = .ok (.iload 5, 2) := by decide +kernel
theorem dX1_measureReach_41 : decode cX1_measureReach 41 = .ok (.ifCond .le 23, 3) := by decide +kernel
theorem dX1_measureReach_44 : decode cX1_measureReach 44 = .ok (.aload_n 0, 1) := by decide +kernel
theorem dX1_measureReach_45 : decode cX1_measureReach 45 = .ok (.getfield 18, 3) := by decide +kernel
theorem dX1_measureReach_48 : decode cX1_measureReach 48 = .ok (.iload 5, 2) := by decide +kernel
theorem dX1_measureReach_50 : decode cX1_measureReach 50 = .ok (.iconst 1, 1) := by decide +kernel
theorem dX1_measureReach_51 : decode cX1_measureReach 51 = .ok (.isub, 1) := by decide +kernel
theorem dX1_measureReach_52 : decode cX1_measureReach 52 = .ok (.iaload, 1) := by decide +kernel
theorem dX1_measureReach_53 : decode cX1_measureReach 53 = .ok (.iload 4, 2) := by decide +kernel
theorem dX1_measureReach_55 : decode cX1_measureReach 55 = .ok (.if_icmp .gt 9, 3) := by decide +kernel
theorem dX1_measureReach_58 : decode cX1_measureReach 58 = .ok (.iinc 5 (-1), 3) := by decide +kernel
theorem dX1_measureReach_61 : decode cX1_measureReach 61 = .ok (.goto (-22), 3) := by decide +kernel
theorem dX1_measureReach_64 : decode cX1_measureReach 64 = .ok (.iload 5, 2) := by decide +kernel
theorem dX1_measureReach_66 : decode cX1_measureReach 66 = .ok (.aload_n 0, 1) := by decide +kernel
theorem dX1_measureReach_67 : decode cX1_measureReach 67 = .ok (.getfield 18, 3) := by decide +kernel
theorem dX1_measureReach_70 : decode cX1_measureReach 70 = .ok (.arraylength, 1) := by decide +kernel
theorem dX1_measureReach_71 : decode cX1_measureReach 71 = .ok (.if_icmp .ge 12, 3) := by decide +kernel
theorem dX1_measureReach_74 : decode cX1_measureReach 74 = .ok (.aload_n 0, 1) := by decide +kernel
theorem dX1_measureReach_75 : decode cX1_measureReach 75 = .ok (.getfield 18, 3) := by decide +kernel
theorem dX1_measureReach_78 : decode cX1_measureReach 78 = .ok (.iload 5, 2) := by decide +kernel
theorem dX1_measureReach_80 : decode cX1_measureReach 80 = .ok (.iload 4, 2) := by decide +kernel
theorem dX1_measureReach_82 : decode cX1_measureReach 82 = .ok (.iastore, 1) := by decide +kernel
theorem dX1_measureReach_83 : decode cX1_measureReach 83 = .ok (.aload_n 0, 1) := by decide +kernel
theorem dX1_measureReach_84 : decode cX1_measureReach 84 = .ok (.getfield 15, 3) := by decide +kernel
theorem dX1_measureReach_87 : decode cX1_measureReach 87 = .ok (.iload_n 3, 1) := by decide +kernel
theorem dX1_measureReach_88 : decode cX1_measureReach 88 = .ok (.iload 5, 2) := by decide +kernel
theorem dX1_measureReach_90 : decode cX1_measureReach 90 = .ok (.iconst 1, 1) := by decide +kernel
theorem dX1_measureReach_91 : decode cX1_measureReach 91 = .ok (.iadd, 1) := by decide +kernel
theorem dX1_measureReach_92 : decode cX1_measureReach 92 = .ok (.iastore, 1) := by decide +kernel
theorem dX1_measureReach_93 : decode cX1_measureReach 93 = .ok (.iload_n 2, 1) := by decide +kernel
theorem dX1_measureReach_94 : decode cX1_measureReach 94 = .ok (.iload 5, 2) := by decide +kernel
theorem dX1_measureReach_96 : decode cX1_measureReach 96 = .ok (.iconst 1, 1) := by decide +kernel
theorem dX1_measureReach_97 : decode cX1_measureReach 97 = .ok (.iadd, 1) := by decide +kernel
theorem dX1_measureReach_98 : decode cX1_measureReach 98 = .ok (.invokestatic 101, 3) := by decide +kernel
theorem dX1_measureReach_101 : decode cX1_measureReach 101 = .ok (.istore_n 2, 1) := by decide +kernel
theorem dX1_measureReach_102 : decode cX1_measureReach 102 = .ok (.iinc 3 (-1), 3) := by decide +kernel
theorem dX1_measureReach_105 : decode cX1_measureReach 105 = .ok (.goto (-88), 3) := by decide +kernel
theorem dX1_measureReach_108 : decode cX1_measureReach 108 = .ok (.iload_n 2, 1) := by decide +kernel
theorem dX1_measureReach_109 : decode cX1_measureReach 109 = .ok (.ireturn, 1) := by decide +kernel
def X1_measureReach_83 (k17 : Nat → Option Nat → Int32 → Int32 → MM Int32) (this : Nat) (x1 : Option Nat) (x2 : Int32) (x3 : Int32) (x5 : Int32) : MM Int32 :=
  mb (gR 3 (some this) 1) fun v1 =>
  mb (sI v1 x3 (x5 + (1 : Int32))) fun _ =>
  (k17 this x1 (if x2 < (x5 + (1 : Int32)) then (x5 + (1 : Int32)) else x2) (x3 + (-1 : Int32)))
def X1_measureReach_64 (k17 : Nat → Option Nat → Int32 → Int32 → MM Int32) (this : Nat) (x1 : Option Nat) (x2 : Int32) (x3 : Int32) (x4 : Int32) (x5 : Int32) : MM Int32 :=
  mb (gR 3 (some this) 2) fun v1 =>
  mb (aN v1) fun v2 =>
  if v2 ≤ x5 then ((X1_measureReach_83 k17 this x1 x2 x3 x5)) else (mb (gR 3 (some this) 2) fun v3 =>
  mb (sI v3 x5 x4) fun _ =>
  (X1_measureReach_83 k17 this x1 x2 x3 x5))
def X1_measureReach_39_st (k17 : Nat → Option Nat → Int32 → Int32 → MM Int32) (k39 : Nat → Option Nat → Int32 → Int32 → Int32 → Int32 → MM Int32) (this : Nat) (x1 : Option Nat) (x2 : Int32) (x3 : Int32) (x4 : Int32) (x5 : Int32) : MM Int32 :=
  if x5 ≤ 0 then ((X1_measureReach_64 k17 this x1 x2 x3 x4 x5)) else (mb (gR 3 (some this) 2) fun v1 =>
  mb (aI v1 (x5 - (1 : Int32))) fun v2 =>
  if x4 < v2 then ((X1_measureReach_64 k17 this x1 x2 x3 x4 x5)) else ((k39 this x1 x2 x3 x4 (x5 + (-1 : Int32)))))
def X1_measureReach_39 (k17 : Nat → Option Nat → Int32 → Int32 → MM Int32) : Nat → Nat → Option Nat → Int32 → Int32 → Int32 → Int32 → MM Int32
  | 0 => fun _ _ _ _ _ _ => mf
  | n + 1 => fun this x1 x2 x3 x4 x5 => X1_measureReach_39_st k17 (X1_measureReach_39 k17 n) this x1 x2 x3 x4 x5
def X1_measureReach_17_st  (k17 : Nat → Option Nat → Int32 → Int32 → MM Int32) (this : Nat) (x1 : Option Nat) (x2 : Int32) (x3 : Int32) : MM Int32 :=
  if x3 < 0 then (mr x2) else (mb (wc 9 x1 fun t => X8_get t x3) fun v1 =>
  mb (gR 3 (some this) 2) fun v2 =>
  mb (aN v2) fun v3 =>
  (X1_measureReach_39 k17 LFU this x1 x2 x3 v1 (if v3 < x2 then v3 else x2)))
def X1_measureReach_17  : Nat → Nat → Option Nat → Int32 → Int32 → MM Int32
  | 0 => fun _ _ _ _ => mf
  | n + 1 => fun this x1 x2 x3 => X1_measureReach_17_st  (X1_measureReach_17  n) this x1 x2 x3
def X1_measureReach (this : Nat) (a1 : Option Nat) : MM Int32 :=
  mb (gI 9 a1 1) fun v1 =>
  mb (gR 3 (some this) 1) fun v2 =>
  mb (aN v2) fun v3 =>
  (X1_measureReach_17 LFU this a1 (0 : Int32) ((if v3 < v1 then v3 else v1) - (1 : Int32)))
set_option maxRecDepth 100000 in
set_option maxHeartbeats 4000000 in
theorem s_X1_measureReach_83 (G : GG) (k17 : Nat → Option Nat → Int32 → Int32 → MM Int32) (hk17 : ∀ (this : Nat) (x1 : Option Nat) (x2 : Int32) (x3 : Int32), Sn G yX1_measureReach cX1_measureReach 6 (some FieldType.int) 1 21 (fun v : Int32 => some (.int v)) (k17 this x1 x2 x3) 17 [some (va_rf (some this)), some (va_rf x1), some (.int x2), some (.int x3), none, none] []) (this : Nat) (x1 : Option Nat) (x2 : Int32) (x3 : Int32) (x5 : Int32) : Sn G yX1_measureReach cX1_measureReach 6 (some FieldType.int) 1 21 (fun v : Int32 => some (.int v)) (X1_measureReach_83 k17 this x1 x2 x3 x5) 83 [some (va_rf (some this)), some (va_rf x1), some (.int x2), some (.int x3), none, some (.int x5)] [] := by
  unfold X1_measureReach_83
  refine sn_aload_n (v := (some this)) (pc' := 84) dX1_measureReach_83 rfl rfl rfl ?_
  refine sn_gR (k := 1) (pc' := 87) ci_3 rfl (Or.inl tw218) dX1_measureReach_84 rfl (fun v1 => ?_)
  refine sn_iload_n (v := x3) (pc' := 88) dX1_measureReach_87 rfl rfl rfl ?_
  refine sn_iload (v := x5) (pc' := 90) dX1_measureReach_88 rfl rfl ?_
  refine sn_iconst (v := (1 : Int32)) (pc' := 91) dX1_measureReach_90 rfl (by decide) ?_
  refine sn_iadd (pc' := 92) dX1_measureReach_91 rfl ?_
  refine sn_sI (pc' := 93) dX1_measureReach_92 rfl (fun _ => ?_)
  refine sn_iload_n (v := x2) (pc' := 94) dX1_measureReach_93 rfl rfl rfl ?_
  refine sn_iload (v := x5) (pc' := 96) dX1_measureReach_94 rfl rfl ?_
  refine sn_iconst (v := (1 : Int32)) (pc' := 97) dX1_measureReach_96 rfl (by decide) ?_
  refine sn_iadd (pc' := 98) dX1_measureReach_97 rfl ?_
  refine sn_max (pc' := 101) rfl tw1060 tw48 tw4 tw49 cat_nil rfl dX1_measureReach_98 rfl ?_
  refine sn_istore_n (v := (if x2 < (x5 + (1 : Int32)) then (x5 + (1 : Int32)) else x2)) (L' := [some (va_rf (some this)), some (va_rf x1), some (.int (if x2 < (x5 + (1 : Int32)) then (x5 + (1 : Int32)) else x2)), some (.int x3), none, some (.int x5)]) (pc' := 102) dX1_measureReach_101 rfl rfl rfl rfl ?_
  refine sn_iinc (v := x3) (w := -1) (L' := [some (va_rf (some this)), some (va_rf x1), some (.int (if x2 < (x5 + (1 : Int32)) then (x5 + (1 : Int32)) else x2)), some (.int (x3 + (-1 : Int32))), none, some (.int x5)]) (pc' := 105) dX1_measureReach_102 rfl rfl rfl (by decide) rfl ?_
  refine sn_goto (pc' := 17) dX1_measureReach_105 rfl ?_
  exact sn_weak (le_s (le_s (le_s (le_s (le_n (le_n le_e)))))) (hk17 this x1 (if x2 < (x5 + (1 : Int32)) then (x5 + (1 : Int32)) else x2) (x3 + (-1 : Int32)))
set_option maxRecDepth 100000 in
set_option maxHeartbeats 4000000 in
theorem s_X1_measureReach_64 (G : GG) (k17 : Nat → Option Nat → Int32 → Int32 → MM Int32) (hk17 : ∀ (this : Nat) (x1 : Option Nat) (x2 : Int32) (x3 : Int32), Sn G yX1_measureReach cX1_measureReach 6 (some FieldType.int) 1 21 (fun v : Int32 => some (.int v)) (k17 this x1 x2 x3) 17 [some (va_rf (some this)), some (va_rf x1), some (.int x2), some (.int x3), none, none] []) (this : Nat) (x1 : Option Nat) (x2 : Int32) (x3 : Int32) (x4 : Int32) (x5 : Int32) : Sn G yX1_measureReach cX1_measureReach 6 (some FieldType.int) 1 21 (fun v : Int32 => some (.int v)) (X1_measureReach_64 k17 this x1 x2 x3 x4 x5) 64 [some (va_rf (some this)), some (va_rf x1), some (.int x2), some (.int x3), some (.int x4), some (.int x5)] [] := by
  unfold X1_measureReach_64
  refine sn_iload (v := x5) (pc' := 66) dX1_measureReach_64 rfl rfl ?_
  refine sn_aload_n (v := (some this)) (pc' := 67) dX1_measureReach_66 rfl rfl rfl ?_
  refine sn_gR (k := 2) (pc' := 70) ci_3 rfl (Or.inl tw219) dX1_measureReach_67 rfl (fun v1 => ?_)
  refine sn_aN (pc' := 71) dX1_measureReach_70 rfl (fun v2 => ?_)
  refine sn_ic_ge (pt := 83) (pf := 74) dX1_measureReach_71 rfl rfl ?_ ?_
  · exact sn_weak (le_s (le_s (le_s (le_s (le_n (le_s le_e)))))) (s_X1_measureReach_83 G k17 hk17 this x1 x2 x3 x5)
  · refine sn_aload_n (v := (some this)) (pc' := 75) dX1_measureReach_74 rfl rfl rfl ?_
    refine sn_gR (k := 2) (pc' := 78) ci_3 rfl (Or.inl tw219) dX1_measureReach_75 rfl (fun v3 => ?_)
    refine sn_iload (v := x5) (pc' := 80) dX1_measureReach_78 rfl rfl ?_
    refine sn_iload (v := x4) (pc' := 82) dX1_measureReach_80 rfl rfl ?_
    refine sn_sI (pc' := 83) dX1_measureReach_82 rfl (fun _ => ?_)
    exact sn_weak (le_s (le_s (le_s (le_s (le_n (le_s le_e)))))) (s_X1_measureReach_83 G k17 hk17 this x1 x2 x3 x5)
set_option maxRecDepth 100000 in
set_option maxHeartbeats 4000000 in
theorem s_X1_measureReach_39_st (G : GG) (k17 : Nat → Option Nat → Int32 → Int32 → MM Int32) (hk17 : ∀ (this : Nat) (x1 : Option Nat) (x2 : Int32) (x3 : Int32), Sn G yX1_measureReach cX1_measureReach 6 (some FieldType.int) 1 21 (fun v : Int32 => some (.int v)) (k17 this x1 x2 x3) 17 [some (va_rf (some this)), some (va_rf x1), some (.int x2), some (.int x3), none, none] []) (k39 : Nat → Option Nat → Int32 → Int32 → Int32 → Int32 → MM Int32) (hk39 : ∀ (this : Nat) (x1 : Option Nat) (x2 : Int32) (x3 : Int32) (x4 : Int32) (x5 : Int32), Sn G yX1_measureReach cX1_measureReach 6 (some FieldType.int) 1 21 (fun v : Int32 => some (.int v)) (k39 this x1 x2 x3 x4 x5) 39 [some (va_rf (some this)), some (va_rf x1), some (.int x2), some (.int x3), some (.int x4), some (.int x5)] []) (this : Nat) (x1 : Option Nat) (x2 : Int32) (x3 : Int32) (x4 : Int32) (x5 : Int32) : Sn G yX1_measureReach cX1_measureReach 6 (some FieldType.int) 1 21 (fun v : Int32 => some (.int v)) (X1_measureReach_39_st k17 k39 this x1 x2 x3 x4 x5) 39 [some (va_rf (some this)), some (va_rf x1), some (.int x2), some (.int x3), some (.int x4), some (.int x5)] [] := by
  unfold X1_measureReach_39_st
  refine sn_iload (v := x5) (pc' := 41) dX1_measureReach_39 rfl rfl ?_
  refine sn_if_le (pt := 64) (pf := 44) dX1_measureReach_41 rfl rfl ?_ ?_
  · exact sn_weak (le_s (le_s (le_s (le_s (le_s (le_s le_e)))))) (s_X1_measureReach_64 G k17 hk17 this x1 x2 x3 x4 x5)
  · refine sn_aload_n (v := (some this)) (pc' := 45) dX1_measureReach_44 rfl rfl rfl ?_
    refine sn_gR (k := 2) (pc' := 48) ci_3 rfl (Or.inl tw219) dX1_measureReach_45 rfl (fun v1 => ?_)
    refine sn_iload (v := x5) (pc' := 50) dX1_measureReach_48 rfl rfl ?_
    refine sn_iconst (v := (1 : Int32)) (pc' := 51) dX1_measureReach_50 rfl (by decide) ?_
    refine sn_isub (pc' := 52) dX1_measureReach_51 rfl ?_
    refine sn_aI (pc' := 53) dX1_measureReach_52 rfl (fun v2 => ?_)
    refine sn_iload (v := x4) (pc' := 55) dX1_measureReach_53 rfl rfl ?_
    refine sn_ic_gt (pt := 64) (pf := 58) dX1_measureReach_55 rfl rfl ?_ ?_
    · exact sn_weak (le_s (le_s (le_s (le_s (le_s (le_s le_e)))))) (s_X1_measureReach_64 G k17 hk17 this x1 x2 x3 x4 x5)
    · refine sn_iinc (v := x5) (w := -1) (L' := [some (va_rf (some this)), some (va_rf x1), some (.int x2), some (.int x3), some (.int x4), some (.int (x5 + (-1 : Int32)))]) (pc' := 61) dX1_measureReach_58 rfl rfl rfl (by decide) rfl ?_
      refine sn_goto (pc' := 39) dX1_measureReach_61 rfl ?_
      exact sn_weak (le_s (le_s (le_s (le_s (le_s (le_s le_e)))))) (hk39 this x1 x2 x3 x4 (x5 + (-1 : Int32)))
set_option maxRecDepth 100000 in
set_option maxHeartbeats 4000000 in
theorem s_X1_measureReach_39 (G : GG) (k17 : Nat → Option Nat → Int32 → Int32 → MM Int32) (hk17 : ∀ (this : Nat) (x1 : Option Nat) (x2 : Int32) (x3 : Int32), Sn G yX1_measureReach cX1_measureReach 6 (some FieldType.int) 1 21 (fun v : Int32 => some (.int v)) (k17 this x1 x2 x3) 17 [some (va_rf (some this)), some (va_rf x1), some (.int x2), some (.int x3), none, none] []) : ∀ (n : Nat) (this : Nat) (x1 : Option Nat) (x2 : Int32) (x3 : Int32) (x4 : Int32) (x5 : Int32), Sn G yX1_measureReach cX1_measureReach 6 (some FieldType.int) 1 21 (fun v : Int32 => some (.int v)) (X1_measureReach_39 k17 n this x1 x2 x3 x4 x5) 39 [some (va_rf (some this)), some (va_rf x1), some (.int x2), some (.int x3), some (.int x4), some (.int x5)] [] := by
  intro n
  induction n with
  | zero => intro this x1 x2 x3 x4 x5; exact sn_mf
  | succ n ih => intro this x1 x2 x3 x4 x5; exact s_X1_measureReach_39_st G k17 hk17 (X1_measureReach_39 k17 n) ih this x1 x2 x3 x4 x5
set_option maxRecDepth 100000 in
set_option maxHeartbeats 4000000 in
theorem s_X1_measureReach_17_st (G : GG)   (k17 : Nat → Option Nat → Int32 → Int32 → MM Int32) (hk17 : ∀ (this : Nat) (x1 : Option Nat) (x2 : Int32) (x3 : Int32), Sn G yX1_measureReach cX1_measureReach 6 (some FieldType.int) 1 21 (fun v : Int32 => some (.int v)) (k17 this x1 x2 x3) 17 [some (va_rf (some this)), some (va_rf x1), some (.int x2), some (.int x3), none, none] []) (this : Nat) (x1 : Option Nat) (x2 : Int32) (x3 : Int32) : Sn G yX1_measureReach cX1_measureReach 6 (some FieldType.int) 1 21 (fun v : Int32 => some (.int v)) (X1_measureReach_17_st  k17 this x1 x2 x3) 17 [some (va_rf (some this)), some (va_rf x1), some (.int x2), some (.int x3), none, none] [] := by
  unfold X1_measureReach_17_st
  refine sn_iload_n (v := x3) (pc' := 18) dX1_measureReach_17 rfl rfl rfl ?_
  refine sn_if_lt (pt := 108) (pf := 21) dX1_measureReach_18 rfl rfl ?_ ?_
  · refine sn_iload_n (v := x2) (pc' := 109) dX1_measureReach_108 rfl rfl rfl ?_
    exact sn_iret dX1_measureReach_109 rfl rfl
  · refine sn_aload_n (v := x1) (pc' := 22) dX1_measureReach_21 rfl rfl rfl ?_
    refine sn_iload_n (v := x3) (pc' := 23) dX1_measureReach_22 rfl rfl rfl ?_
    refine sn_cV (r := x1) (st := []) (As := [.int x3]) (st2 := (fun v => .int v :: [])) (pc' := 26) ci_9 (fun t => c_X8_get G t x3) cw_X8_get rfl rfl tw1035 tw497 tw496 rfl rfl cat_nil rfl (fun _ => rfl) dX1_measureReach_23 rfl (fun v1 => ?_)
    refine sn_istore (v := v1) (L' := [some (va_rf (some this)), some (va_rf x1), some (.int x2), some (.int x3), some (.int v1), none]) (pc' := 28) dX1_measureReach_26 rfl rfl rfl ?_
    refine sn_iload_n (v := x2) (pc' := 29) dX1_measureReach_28 rfl rfl rfl ?_
    refine sn_aload_n (v := (some this)) (pc' := 30) dX1_measureReach_29 rfl rfl rfl ?_
    refine sn_gR (k := 2) (pc' := 33) ci_3 rfl (Or.inl tw219) dX1_measureReach_30 rfl (fun v2 => ?_)
    refine sn_aN (pc' := 34) dX1_measureReach_33 rfl (fun v3 => ?_)
    refine sn_min (pc' := 37) rfl tw1059 tw423 tw4 tw424 cat_nil rfl dX1_measureReach_34 rfl ?_
    refine sn_istore (v := (if v3 < x2 then v3 else x2)) (L' := [some (va_rf (some this)), some (va_rf x1), some (.int x2), some (.int x3), some (.int v1), some (.int (if v3 < x2 then v3 else x2))]) (pc' := 39) dX1_measureReach_37 rfl rfl rfl ?_
    exact sn_weak (le_s (le_s (le_s (le_s (le_s (le_s le_e)))))) (s_X1_measureReach_39 G k17 hk17 LFU this x1 x2 x3 v1 (if v3 < x2 then v3 else x2))
set_option maxRecDepth 100000 in
set_option maxHeartbeats 4000000 in
theorem s_X1_measureReach_17 (G : GG)   : ∀ (n : Nat) (this : Nat) (x1 : Option Nat) (x2 : Int32) (x3 : Int32), Sn G yX1_measureReach cX1_measureReach 6 (some FieldType.int) 1 21 (fun v : Int32 => some (.int v)) (X1_measureReach_17  n this x1 x2 x3) 17 [some (va_rf (some this)), some (va_rf x1), some (.int x2), some (.int x3), none, none] [] := by
  intro n
  induction n with
  | zero => intro this x1 x2 x3; exact sn_mf
  | succ n ih => intro this x1 x2 x3; exact s_X1_measureReach_17_st G   (X1_measureReach_17  n) ih this x1 x2 x3
set_option maxRecDepth 100000 in
set_option maxHeartbeats 4000000 in
theorem s_X1_measureReach (G : GG) (this : Nat) (a1 : Option Nat) : Sn G yX1_measureReach cX1_measureReach 6 (some FieldType.int) 1 21 (fun v : Int32 => some (.int v)) (X1_measureReach this a1) 0 [some (va_rf (some this)), some (va_rf a1), none, none, none, none] [] := by
  unfold X1_measureReach
  refine sn_iconst (v := (0 : Int32)) (pc' := 1) dX1_measureReach_0 rfl (by decide) ?_
  refine sn_istore_n (v := (0 : Int32)) (L' := [some (va_rf (some this)), some (va_rf a1), some (.int (0 : Int32)), none, none, none]) (pc' := 2) dX1_measureReach_1 rfl rfl rfl rfl ?_
  refine sn_aload_n (v := a1) (pc' := 3) dX1_measureReach_2 rfl rfl rfl ?_
  refine sn_gI (k := 1) (pc' := 6) ci_9 rfl (Or.inr ⟨_, nw55⟩) dX1_measureReach_3 rfl (fun v1 => ?_)
  refine sn_aload_n (v := (some this)) (pc' := 7) dX1_measureReach_6 rfl rfl rfl ?_
  refine sn_gR (k := 1) (pc' := 10) ci_3 rfl (Or.inl tw218) dX1_measureReach_7 rfl (fun v2 => ?_)
  refine sn_aN (pc' := 11) dX1_measureReach_10 rfl (fun v3 => ?_)
  refine sn_min (pc' := 14) rfl tw1059 tw423 tw4 tw424 cat_nil rfl dX1_measureReach_11 rfl ?_
  refine sn_iconst (v := (1 : Int32)) (pc' := 15) dX1_measureReach_14 rfl (by decide) ?_
  refine sn_isub (pc' := 16) dX1_measureReach_15 rfl ?_
  refine sn_istore_n (v := ((if v3 < v1 then v3 else v1) - (1 : Int32))) (L' := [some (va_rf (some this)), some (va_rf a1), some (.int (0 : Int32)), some (.int ((if v3 < v1 then v3 else v1) - (1 : Int32))), none, none]) (pc' := 17) dX1_measureReach_16 rfl rfl rfl rfl ?_
  exact sn_weak (le_s (le_s (le_s (le_s (le_n (le_n le_e)))))) (s_X1_measureReach_17 G LFU this a1 (0 : Int32) ((if v3 < v1 then v3 else v1) - (1 : Int32)))
theorem c_X1_measureReach (G : GG) (this : Nat) (a1 : Option Nat) : Cal G yX1_measureReach cX1_measureReach 6 (some FieldType.int) 1 21 (fun v : Int32 => some (.int v)) (X1_measureReach this a1) [.ref this, va_rf a1] :=
  Cal.of (by decide) (cat_t (cat_q cat_nil)) rfl (sn_weak (le_s (le_s (le_z (le_z (le_z (le_z le_e)))))) (s_X1_measureReach G this a1))
theorem cw_X1_measureReach : CW yX1_measureReach cX1_measureReach 6 (some FieldType.int) 1 := ⟨tw1058, tw9, by decide, by decide +kernel⟩
/-! X1_listStrays -/
theorem dX1_listStrays_0 : decode cX1_listStrays 0 = .ok (.iload_n 2, 1) := by decide +kernel
theorem dX1_listStrays_1 : decode cX1_listStrays 1 = .ok (.istore_n 3, 1) := by decide +kernel
theorem dX1_listStrays_2 : decode cX1_listStrays 2 = .ok (.iconst (-1), 1) := by decide +kernel
theorem dX1_listStrays_3 : decode cX1_listStrays 3 = .ok (.istore 4, 2) := by decide +kernel
theorem dX1_listStrays_5 : decode cX1_listStrays 5 = .ok (.iconst 0, 1) := by decide +kernel
theorem dX1_listStrays_6 : decode cX1_listStrays 6 = .ok (.istore 5, 2) := by decide +kernel
theorem dX1_listStrays_8 : decode cX1_listStrays 8 = .ok (.iload 5, 2) := by decide +kernel
theorem dX1_listStrays_10 : decode cX1_listStrays 10 = .ok (.aload_n 1, 1) := by decide +kernel
theorem dX1_listStrays_11 : decode cX1_listStrays 11 = .ok (.getfield 21, 3) := by decide +kernel
theorem dX1_listStrays_14 : decode cX1_listStrays 14 = .ok (.getfield 84, 3) := by decide +kernel
theorem dX1_listStrays_17 : decode cX1_listStrays 17 = .ok (.aload_n 0, 1) := by decide +kernel
theorem dX1_listStrays_18 : decode cX1_listStrays 18 = .ok (.getfield 15, 3) := by decide +kernel
theorem dX1_listStrays_21 : decode cX1_listStrays 21 = .ok (.arraylength, 1) := by decide +kernel
theorem dX1_listStrays_22 : decode cX1_listStrays 22 = .ok (.invokestatic 95, 3) := by decide +kernel
theorem dX1_listStrays_25 : decode cX1_listStrays 25 = .ok (.if_icmp .ge 62, 3) := by decide +kernel
theorem dX1_listStrays_28 : decode cX1_listStrays 28 = .ok (.aload_n 1, 1) := by decide +kernel
theorem dX1_listStrays_29 : decode cX1_listStrays 29 = .ok (.getfield 21, 3) := by decide +kernel
theorem dX1_listStrays_32 : decode cX1_listStrays 32 = .ok (.iload 5, 2) := by decide +kernel
theorem dX1_listStrays_34 : decode cX1_listStrays 34 = .ok (.invokevirtual 88, 3) := by decide +kernel
theorem dX1_listStrays_37 : decode cX1_listStrays 37 = .ok (.istore 6, 2) := by decide +kernel
theorem dX1_listStrays_39 : decode cX1_listStrays 39 = .ok (.iload_n 3, 1) := by decide +kernel
theorem dX1_listStrays_40 : decode cX1_listStrays 40 = .ok (.ifCond .le 31, 3) := by decide +kernel
theorem dX1_listStrays_43 : decode cX1_listStrays 43 = .ok (.aload_n 0, 1) := by decide +kernel
theorem dX1_listStrays_44 : decode cX1_listStrays 44 = .ok (.getfield 15, 3) := by decide +kernel
theorem dX1_listStrays_47 : decode cX1_listStrays 47 = .ok (.iload 5, 2) := by decide +kernel
theorem dX1_listStrays_49 : decode cX1_listStrays 49 = .ok (.iaload, 1) := by decide +kernel
theorem dX1_listStrays_50 : decode cX1_listStrays 50 = .ok (.iload_n 3, 1) := by decide +kernel
theorem dX1_listStrays_51 : decode cX1_listStrays 51 = .ok (.if_icmp .ne 20, 3) := by decide +kernel
theorem dX1_listStrays_54 : decode cX1_listStrays 54 = .ok (.iload 6, 2) := by decide +kernel
theorem dX1_listStrays_56 : decode cX1_listStrays 56 = .ok (.iload 4, 2) := by decide +kernel
theorem dX1_listStrays_58 : decode cX1_listStrays 58 = .ok (.if_icmp .le 13, 3) := by decide +kernel
theorem dX1_listStrays_61 : decode cX1_listStrays 61 = .ok (.iinc 3 (-1), 3) := by decide +kernel
theorem dX1_listStrays_64 : decode cX1_listStrays 64 = .ok (.iload 6, 2) := by decide +kernel
theorem dX1_listStrays_66 : decode cX1_listStrays 66 = .ok (.istore 4, 2) := by decide +kernel
theorem dX1_listStrays_68 : decode cX1_listStrays 68 = .ok (.goto 13, 3) := by decide +kernel
theorem dX1_listStrays_71 : decode cX1_listStrays 71 = .ok (.aload_n 1, 1) := by decide +kernel
theorem dX1_listStrays_72 : decode cX1_listStrays 72 = .ok (.getfield 104, 3) := by decide +kernel
theorem dX1_listStrays_75 : decode cX1_listStrays 75 = .ok (.iload 5, 2) := by decide +kernel
theorem dX1_listStrays_77 : decode cX1_listStrays 77 = .ok (.invokevirtual 51, 3) := by decide +kernel
theorem dX1_listStrays_80 : decode cX1_listStrays 80 = .ok (.pop, 1) := by decide +kernel
theorem dX1_listStrays_81 : decode cX1_listStrays 81 = .ok (.iinc 5 1, 3) := by decide +kernel
theorem dX1_listStrays_84 : decode cX1_listStrays 84 = .ok (.goto (-76), 3) := by decide +kernel
theorem dX1_listStrays_87 : decode cX1_listStrays 87 = .ok (.return_, 1) := by decide +kernel
def X1_listStrays_81 (k8 : Nat → Option Nat → Int32 → Int32 → Int32 → MM Unit) (this : Nat) (x1 : Option Nat) (x3 : Int32) (x4 : Int32) (x5 : Int32) : MM Unit :=
  (k8 this x1 x3 x4 (x5 + (1 : Int32)))
def X1_listStrays_71 (k8 : Nat → Option Nat → Int32 → Int32 → Int32 → MM Unit) (this : Nat) (x1 : Option Nat) (x3 : Int32) (x4 : Int32) (x5 : Int32) : MM Unit :=
  mb (gR 4 x1 5) fun v1 =>
  mb (wc 9 v1 fun t => X8_add t x5) fun v2 =>
  (X1_listStrays_81 k8 this x1 x3 x4 x5)
def X1_listStrays_8_st  (k8 : Nat → Option Nat → Int32 → Int32 → Int32 → MM Unit) (this : Nat) (x1 : Option Nat) (x3 : Int32) (x4 : Int32) (x5 : Int32) : MM Unit :=
  mb (gR 4 x1 2) fun v1 =>
  mb (gI 9 v1 1) fun v2 =>
  mb (gR 3 (some this) 1) fun v3 =>
  mb (aN v3) fun v4 =>
  if (if v4 < v2 then v4 else v2) ≤ x5 then (mr ()) else (mb (gR 4 x1 2) fun v5 =>
  mb (wc 9 v5 fun t => X8_get t x5) fun v6 =>
  if x3 ≤ 0 then ((X1_listStrays_71 k8 this x1 x3 x4 x5)) else (mb (gR 3 (some this) 1) fun v7 =>
  mb (aI v7 x5) fun v8 =>
  if v8 = x3 then (if v6 ≤ x4 then ((X1_listStrays_71 k8 this x1 x3 x4 x5)) else ((X1_listStrays_81 k8 this x1 (x3 + (-1 : Int32)) v6 x5))) else ((X1_listStrays_71 k8 this x1 x3 x4 x5))))
def X1_listStrays_8  : Nat → Nat → Option Nat → Int32 → Int32 → Int32 → MM Unit
  | 0 => fun _ _ _ _ _ => mf
  | n + 1 => fun this x1 x3 x4 x5 => X1_listStrays_8_st  (X1_listStrays_8  n) this x1 x3 x4 x5
def X1_listStrays (this : Nat) (a1 : Option Nat) (a2 : Int32) : MM Unit :=
  (X1_listStrays_8 LFU this a1 a2 (-1 : Int32) (0 : Int32))
set_option maxRecDepth 100000 in
set_option maxHeartbeats 4000000 in
theorem s_X1_listStrays_81 (G : GG) (k8 : Nat → Option Nat → Int32 → Int32 → Int32 → MM Unit) (hk8 : ∀ (this : Nat) (x1 : Option Nat) (x3 : Int32) (x4 : Int32) (x5 : Int32), Sn G yX1_listStrays cX1_listStrays 7 none 1 21 (fun _ : Unit => none) (k8 this x1 x3 x4 x5) 8 [some (va_rf (some this)), some (va_rf x1), none, some (.int x3), some (.int x4), some (.int x5), none] []) (this : Nat) (x1 : Option Nat) (x3 : Int32) (x4 : Int32) (x5 : Int32) : Sn G yX1_listStrays cX1_listStrays 7 none 1 21 (fun _ : Unit => none) (X1_listStrays_81 k8 this x1 x3 x4 x5) 81 [some (va_rf (some this)), some (va_rf x1), none, some (.int x3), some (.int x4), some (.int x5), none] [] := by
  unfold X1_listStrays_81
  refine sn_iinc (v := x5) (w := 1) (L' := [some (va_rf (some this)), some (va_rf x1), none, some (.int x3), some (.int x4), some (.int (x5 + (1 : Int32))), none]) (pc' := 84) dX1_listStrays_81 rfl rfl rfl (by decide) rfl ?_
  refine sn_goto (pc' := 8) dX1_listStrays_84 rfl ?_
  exact sn_weak (le_s (le_s (le_n (le_s (le_s (le_s (le_n le_e))))))) (hk8 this x1 x3 x4 (x5 + (1 : Int32)))
set_option maxRecDepth 100000 in
set_option maxHeartbeats 4000000 in
theorem s_X1_listStrays_71 (G : GG) (k8 : Nat → Option Nat → Int32 → Int32 → Int32 → MM Unit) (hk8 : ∀ (this : Nat) (x1 : Option Nat) (x3 : Int32) (x4 : Int32) (x5 : Int32), Sn G yX1_listStrays cX1_listStrays 7 none 1 21 (fun _ : Unit => none) (k8 this x1 x3 x4 x5) 8 [some (va_rf (some this)), some (va_rf x1), none, some (.int x3), some (.int x4), some (.int x5), none] []) (this : Nat) (x1 : Option Nat) (x3 : Int32) (x4 : Int32) (x5 : Int32) : Sn G yX1_listStrays cX1_listStrays 7 none 1 21 (fun _ : Unit => none) (X1_listStrays_71 k8 this x1 x3 x4 x5) 71 [some (va_rf (some this)), some (va_rf x1), none, some (.int x3), some (.int x4), some (.int x5), none] [] := by
  unfold X1_listStrays_71
  refine sn_aload_n (v := x1) (pc' := 72) dX1_listStrays_71 rfl rfl rfl ?_
  refine sn_gR (k := 5) (pc' := 75) ci_4 rfl (Or.inr ⟨_, nw1004⟩) dX1_listStrays_72 rfl (fun v1 => ?_)
  refine sn_iload (v := x5) (pc' := 77) dX1_listStrays_75 rfl rfl ?_
  refine sn_cV (r := v1) (st := []) (As := [.int x5]) (st2 := (fun v => .int v :: [])) (pc' := 80) ci_9 (fun t => c_X8_add G t x5) cw_X8_add rfl rfl tw1054 tw484 tw483 rfl rfl cat_nil rfl (fun _ => rfl) dX1_listStrays_77 rfl (fun v2 => ?_)
  refine sn_pop (pc' := 81) dX1_listStrays_80 rfl rfl ?_
  exact sn_weak (le_s (le_s (le_n (le_s (le_s (le_s (le_n le_e))))))) (s_X1_listStrays_81 G k8 hk8 this x1 x3 x4 x5)
set_option maxRecDepth 100000 in
set_option maxHeartbeats 4000000 in
theorem s_X1_listStrays_8_st (G : GG)   (k8 : Nat → Option Nat → Int32 → Int32 → Int32 → MM Unit) (hk8 : ∀ (this : Nat) (x1 : Option Nat) (x3 : Int32) (x4 : Int32) (x5 : Int32), Sn G yX1_listStrays cX1_listStrays 7 none 1 21 (fun _ : Unit => none) (k8 this x1 x3 x4 x5) 8 [some (va_rf (some this)), some (va_rf x1), none, some (.int x3), some (.int x4), some (.int x5), none] []) (this : Nat) (x1 : Option Nat) (x3 : Int32) (x4 : Int32) (x5 : Int32) : Sn G yX1_listStrays cX1_listStrays 7 none 1 21 (fun _ : Unit => none) (X1_listStrays_8_st  k8 this x1 x3 x4 x5) 8 [some (va_rf (some this)), some (va_rf x1), none, some (.int x3), some (.int x4), some (.int x5), none] [] := by
  unfold X1_listStrays_8_st
  refine sn_iload (v := x5) (pc' := 10) dX1_listStrays_8 rfl rfl ?_
  refine sn_aload_n (v := x1) (pc' := 11) dX1_listStrays_10 rfl rfl rfl ?_
  refine sn_gR (k := 2) (pc' := 14) ci_4 rfl (Or.inr ⟨_, nw993⟩) dX1_listStrays_11 rfl (fun v1 => ?_)
  refine sn_gI (k := 1) (pc' := 17) ci_9 rfl (Or.inr ⟨_, nw55⟩) dX1_listStrays_14 rfl (fun v2 => ?_)
  refine sn_aload_n (v := (some this)) (pc' := 18) dX1_listStrays_17 rfl rfl rfl ?_
  refine sn_gR (k := 1) (pc' := 21) ci_3 rfl (Or.inl tw218) dX1_listStrays_18 rfl (fun v3 => ?_)
  refine sn_aN (pc' := 22) dX1_listStrays_21 rfl (fun v4 => ?_)
  refine sn_min (pc' := 25) rfl tw1059 tw423 tw4 tw424 (cat_i cat_nil) rfl dX1_listStrays_22 rfl ?_
  refine sn_ic_ge (pt := 87) (pf := 28) dX1_listStrays_25 rfl rfl ?_ ?_
  · exact sn_vret dX1_listStrays_87 rfl
  · refine sn_aload_n (v := x1) (pc' := 29) dX1_listStrays_28 rfl rfl rfl ?_
    refine sn_gR (k := 2) (pc' := 32) ci_4 rfl (Or.inr ⟨_, nw993⟩) dX1_listStrays_29 rfl (fun v5 => ?_)
    refine sn_iload (v := x5) (pc' := 34) dX1_listStrays_32 rfl rfl ?_
    refine sn_cV (r := v5) (st := []) (As := [.int x5]) (st2 := (fun v => .int v :: [])) (pc' := 37) ci_9 (fun t => c_X8_get G t x5) cw_X8_get rfl rfl tw1035 tw497 tw496 rfl rfl cat_nil rfl (fun _ => rfl) dX1_listStrays_34 rfl (fun v6 => ?_)
    refine sn_istore (v := v6) (L' := [some (va_rf (some this)), some (va_rf x1), none, some (.int x3), some (.int x4), some (.int x5), some (.int v6)]) (pc' := 39) dX1_listStrays_37 rfl rfl rfl ?_
    refine sn_iload_n (v := x3) (pc' := 40) dX1_listStrays_39 rfl rfl rfl ?_
    refine sn_if_le (pt := 71) (pf := 43) dX1_listStrays_40 rfl rfl ?_ ?_
    · exact sn_weak (le_s (le_s (le_n (le_s (le_s (le_s (le_n le_e))))))) (s_X1_listStrays_71 G k8 hk8 this x1 x3 x4 x5)
    · refine sn_aload_n (v := (some this)) (pc' := 44) dX1_listStrays_43 rfl rfl rfl ?_
      refine sn_gR (k := 1) (pc' := 47) ci_3 rfl (Or.inl tw218) dX1_listStrays_44 rfl (fun v7 => ?_)
      refine sn_iload (v := x5) (pc' := 49) dX1_listStrays_47 rfl rfl ?_
      refine sn_aI (pc' := 50) dX1_listStrays_49 rfl (fun v8 => ?_)
      refine sn_iload_n (v := x3) (pc' := 51) dX1_listStrays_50 rfl rfl rfl ?_
      refine sn_ic_ne (pt := 71) (pf := 54) dX1_listStrays_51 rfl rfl ?_ ?_
      · refine sn_iload (v := v6) (pc' := 56) dX1_listStrays_54 rfl rfl ?_
        refine sn_iload (v := x4) (pc' := 58) dX1_listStrays_56 rfl rfl ?_
        refine sn_ic_le (pt := 71) (pf := 61) dX1_listStrays_58 rfl rfl ?_ ?_
        · exact sn_weak (le_s (le_s (le_n (le_s (le_s (le_s (le_n le_e))))))) (s_X1_listStrays_71 G k8 hk8 this x1 x3 x4 x5)
        · refine sn_iinc (v := x3) (w := -1) (L' := [some (va_rf (some this)), some (va_rf x1), none, some (.int (x3 + (-1 : Int32))), some (.int x4), some (.int x5), some (.int v6)]) (pc' := 64) dX1_listStrays_61 rfl rfl rfl (by decide) rfl ?_
          refine sn_iload (v := v6) (pc' := 66) dX1_listStrays_64 rfl rfl ?_
          refine sn_istore (v := v6) (L' := [some (va_rf (some this)), some (va_rf x1), none, some (.int (x3 + (-1 : Int32))), some (.int v6), some (.int x5), some (.int v6)]) (pc' := 68) dX1_listStrays_66 rfl rfl rfl ?_
          refine sn_goto (pc' := 81) dX1_listStrays_68 rfl ?_
          exact sn_weak (le_s (le_s (le_n (le_s (le_s (le_s (le_n le_e))))))) (s_X1_listStrays_81 G k8 hk8 this x1 (x3 + (-1 : Int32)) v6 x5)
      · exact sn_weak (le_s (le_s (le_n (le_s (le_s (le_s (le_n le_e))))))) (s_X1_listStrays_71 G k8 hk8 this x1 x3 x4 x5)
set_option maxRecDepth 100000 in
set_option maxHeartbeats 4000000 in
theorem s_X1_listStrays_8 (G : GG)   : ∀ (n : Nat) (this : Nat) (x1 : Option Nat) (x3 : Int32) (x4 : Int32) (x5 : Int32), Sn G yX1_listStrays cX1_listStrays 7 none 1 21 (fun _ : Unit => none) (X1_listStrays_8  n this x1 x3 x4 x5) 8 [some (va_rf (some this)), some (va_rf x1), none, some (.int x3), some (.int x4), some (.int x5), none] [] := by
  intro n
  induction n with
  | zero => intro this x1 x3 x4 x5; exact sn_mf
  | succ n ih => intro this x1 x3 x4 x5; exact s_X1_listStrays_8_st G   (X1_listStrays_8  n) ih this x1 x3 x4 x5
set_option maxRecDepth 100000 in
set_option maxHeartbeats 4000000 in
theorem s_X1_listStrays (G : GG) (this : Nat) (a1 : Option Nat) (a2 : Int32) : Sn G yX1_listStrays cX1_listStrays 7 none 1 21 (fun _ : Unit => none) (X1_listStrays this a1 a2) 0 [some (va_rf (some this)), some (va_rf a1), some (.int a2), none, none, none, none] [] := by
  unfold X1_listStrays
  refine sn_iload_n (v := a2) (pc' := 1) dX1_listStrays_0 rfl rfl rfl ?_
  refine sn_istore_n (v := a2) (L' := [some (va_rf (some this)), some (va_rf a1), some (.int a2), some (.int a2), none, none, none]) (pc' := 2) dX1_listStrays_1 rfl rfl rfl rfl ?_
  refine sn_iconst (v := (-1 : Int32)) (pc' := 3) dX1_listStrays_2 rfl (by decide) ?_
  refine sn_istore (v := (-1 : Int32)) (L' := [some (va_rf (some this)), some (va_rf a1), some (.int a2), some (.int a2), some (.int (-1 : Int32)), none, none]) (pc' := 5) dX1_listStrays_3 rfl rfl rfl ?_
  refine sn_iconst (v := (0 : Int32)) (pc' := 6) dX1_listStrays_5 rfl (by decide) ?_
  refine sn_istore (v := (0 : Int32)) (L' := [some (va_rf (some this)), some (va_rf a1), some (.int a2), some (.int a2), some (.int (-1 : Int32)), some (.int (0 : Int32)), none]) (pc' := 8) dX1_listStrays_6 rfl rfl rfl ?_
  exact sn_weak (le_s (le_s (le_n (le_s (le_s (le_s (le_n le_e))))))) (s_X1_listStrays_8 G LFU this a1 a2 (-1 : Int32) (0 : Int32))
theorem c_X1_listStrays (G : GG) (this : Nat) (a1 : Option Nat) (a2 : Int32) : Cal G yX1_listStrays cX1_listStrays 7 none 1 21 (fun _ : Unit => none) (X1_listStrays this a1 a2) [.ref this, va_rf a1, .int a2] :=
  Cal.of (by decide) (cat_t (cat_q (cat_i cat_nil))) rfl (sn_weak (le_s (le_s (le_s (le_z (le_z (le_z (le_z le_e))))))) (s_X1_listStrays G this a1 a2))
theorem cw_X1_listStrays : CW yX1_listStrays cX1_listStrays 7 none 2 := ⟨tw1064, tw9, by decide, by decide +kernel⟩
/-! X1_collate -/
theorem dX1_collate_0 : decode cX1_collate 0 = .ok (.aload_n 0, 1) := by decide +kernel
theorem dX1_collate_1 : decode cX1_collate 1 = .ok (.aload_n 1, 1) := by decide +kernel
theorem dX1_collate_2 : decode cX1_collate 2 = .ok (.getfield 21, 3) := by decide +kernel
theorem dX1_collate_5 : decode cX1_collate 5 = .ok (.invokevirtual 27, 3) := by decide +kernel
theorem dX1_collate_8 : decode cX1_collate 8 = .ok (.iconst 0, 1) := by decide +kernel
theorem dX1_collate_9 : decode cX1_collate 9 = .ok (.istore_n 2, 1) := by decide +kernel
theorem dX1_collate_10 : decode cX1_collate 10 = .ok (.iload_n 2, 1) := by decide +kernel
theorem dX1_collate_11 : decode cX1_collate 11 = .ok (.aload_n 1, 1) := by decide +kernel
theorem dX1_collate_12 : decode cX1_collate 12 = .ok (.getfield 31, 3) := by decide +kernel
theorem dX1_collate_15 : decode cX1_collate 15 = .ok (.invokevirtual 35, 3) := by decide +kernel
theorem dX1_collate_18 : decode cX1_collate 18 = .ok (.if_icmp .ge 80, 3) := by decide +kernel
theorem dX1_collate_21 : decode cX1_collate 21 = .ok (.aload_n 0, 1) := by decide +kernel
theorem dX1_collate_22 : decode cX1_collate 22 = .ok (.iload_n 2, 1) := by decide +kernel
theorem dX1_collate_23 : decode cX1_collate 23 = .ok (.invokevirtual 41, 3) := by decide +kernel
theorem dX1_collate_26 : decode cX1_collate 26 = .ok (.istore_n 3, 1) := by decide +kernel
theorem dX1_collate_27 : decode cX1_collate 27 = .ok (.aload_n 1, 1) := by decide +kernel
theorem dX1_collate_28 : decode cX1_collate 28 = .ok (.getfield 31, 3) := by decide +kernel
theorem dX1_collate_31 : decode cX1_collate 31 = .ok (.iload_n 2, 1) := by decide +kernel
theorem dX1_collate_32 : decode cX1_collate 32 = .ok (.invokevirtual 45, 3) := by decide +kernel
theorem dX1_collate_35 : decode cX1_collate 35 = .ok (.istore 4, 2) := by decide +kernel
theorem dX1_collate_37 : decode cX1_collate 37 = .ok (.iload_n 3, 1) := by decide +kernel
theorem dX1_collate_38 : decode cX1_collate 38 = .ok (.ifCond .ne 12, 3) := by decide +kernel
theorem dX1_collate_41 : decode cX1_collate 41 = .ok (.aload_n 1, 1) := by decide +kernel
theorem dX1_collate_42 : decode cX1_collate 42 = .ok (.getfield 48, 3) := by decide +kernel
theorem dX1_collate_45 : decode cX1_collate 45 = .ok (.iload_n 2, 1) := by decide +kernel
theorem dX1_collate_46 : decode cX1_collate 46 = .ok (.invokevirtual 51, 3) := by decide +kernel
theorem dX1_collate_49 : decode cX1_collate 49 = .ok (.pop, 1) := by decide +kernel
theorem dX1_collate_50 : decode cX1_collate 50 = .ok (.iload_n 3, 1) := by decide +kernel
theorem dX1_collate_51 : decode cX1_collate 51 = .ok (.iconst 2, 1) := by decide +kernel
theorem dX1_collate_52 : decode cX1_collate 52 = .ok (.if_icmp .lt 12, 3) := by decide +kernel
theorem dX1_collate_55 : decode cX1_collate 55 = .ok (.aload_n 1, 1) := by decide +kernel
theorem dX1_collate_56 : decode cX1_collate 56 = .ok (.getfield 57, 3) := by decide +kernel
theorem dX1_collate_59 : decode cX1_collate 59 = .ok (.iload_n 2, 1) := by decide +kernel
theorem dX1_collate_60 : decode cX1_collate 60 = .ok (.invokevirtual 51, 3) := by decide +kernel
theorem dX1_collate_63 : decode cX1_collate 63 = .ok (.pop, 1) := by decide +kernel
theorem dX1_collate_64 : decode cX1_collate 64 = .ok (.iload_n 3, 1) := by decide +kernel
theorem dX1_collate_65 : decode cX1_collate 65 = .ok (.ifCond .le 27, 3) := by decide +kernel
theorem dX1_collate_68 : decode cX1_collate 68 = .ok (.iload 4, 2) := by decide +kernel
theorem dX1_collate_70 : decode cX1_collate 70 = .ok (.iconst (-1), 1) := by decide +kernel
theorem dX1_collate_71 : decode cX1_collate 71 = .ok (.if_icmp .eq 21, 3) := by decide +kernel
theorem dX1_collate_74 : decode cX1_collate 74 = .ok (.aload_n 0, 1) := by decide +kernel
theorem dX1_collate_75 : decode cX1_collate 75 = .ok (.iload 4, 2) := by decide +kernel
theorem dX1_collate_77 : decode cX1_collate 77 = .ok (.invokevirtual 41, 3) := by decide +kernel
theorem dX1_collate_80 : decode cX1_collate 80 = .ok (.ifCond .ne 12, 3) := by decide +kernel
theorem dX1_collate_83 : decode cX1_collate 83 = .ok (.aload_n 1, 1) := by decide +kernel
theorem dX1_collate_84 : decode cX1_collate 84 = .ok (.getfield 60, 3) := by decide +kernel
theorem dX1_collate_87 : decode cX1_collate 87 = .ok (.iload_n 2, 1) := by decide +kernel
theorem dX1_collate_88 : decode cX1_collate 88 = .ok (.invokevirtual 51, 3) := by decide +kernel
theorem dX1_collate_91 : decode cX1_collate 91 = .ok (.pop, 1) := by decide +kernel
theorem dX1_collate_92 : decode cX1_collate 92 = .ok (.iinc 2 1, 3) := by decide +kernel
theorem dX1_collate_95 : decode cX1_collate 95 = .ok (.goto (-85), 3) := by decide +kernel
theorem dX1_collate_98 : decode cX1_collate 98 = .ok (.aload_n 0, 1) := by decide +kernel
theorem dX1_collate_99 : decode cX1_collate 99 = .ok (.aload_n 1, 1) := by decide +kernel
theorem dX1_collate_100 : decode cX1_collate 100 = .ok (.aload_n 0, 1) := by decide +kernel
theorem dX1_collate_101 : decode cX1_collate 101 = .ok (.aload_n 1, 1) := by decide +kernel
theorem dX1_collate_102 : decode cX1_collate 102 = .ok (.getfield 21, 3) := by decide +kernel
theorem dX1_collate_105 : decode cX1_collate 105 = .ok (.invokevirtual 63, 3) := by decide +kernel
theorem dX1_collate_108 : decode cX1_collate 108 = .ok (.invokevirtual 67, 3) := by decide +kernel
theorem dX1_collate_111 : decode cX1_collate 111 = .ok (.return_, 1) := by decide +kernel
def X1_collate_92 (k10 : Nat → Option Nat → Int32 → MM Unit) (this : Nat) (x1 : Option Nat) (x2 : Int32) : MM Unit :=
  (k10 this x1 (x2 + (1 : Int32)))
def X1_collate_64 (k10 : Nat → Option Nat → Int32 → MM Unit) (this : Nat) (x1 : Option Nat) (x2 : Int32) (x3 : Int32) (x4 : Int32) : MM Unit :=
  if x3 ≤ 0 then ((X1_collate_92 k10 this x1 x2)) else (if x4 = (-1 : Int32) then ((X1_collate_92 k10 this x1 x2)) else (mb (wc 3 (some this) fun t => X1_markAt t x4) fun v1 =>
  if v1 = 0 then (mb (gR 4 x1 6) fun v2 =>
  mb (wc 9 v2 fun t => X8_add t x2) fun v3 =>
  (X1_collate_92 k10 this x1 x2)) else ((X1_collate_92 k10 this x1 x2))))
def X1_collate_50 (k10 : Nat → Option Nat → Int32 → MM Unit) (this : Nat) (x1 : Option Nat) (x2 : Int32) (x3 : Int32) (x4 : Int32) : MM Unit :=
  if x3 < (2 : Int32) then ((X1_collate_64 k10 this x1 x2 x3 x4)) else (mb (gR 4 x1 4) fun v1 =>
  mb (wc 9 v1 fun t => X8_add t x2) fun v2 =>
  (X1_collate_64 k10 this x1 x2 x3 x4))
def X1_collate_98  (this : Nat) (x1 : Option Nat) : MM Unit :=
  mb (gR 4 x1 2) fun v1 =>
  mb (wc 3 (some this) fun t => X1_measureReach t v1) fun v2 =>
  mb (wc 3 (some this) fun t => X1_listStrays t x1 v2) fun _ =>
  mr ()
def X1_collate_10_st  (k10 : Nat → Option Nat → Int32 → MM Unit) (this : Nat) (x1 : Option Nat) (x2 : Int32) : MM Unit :=
  mb (gR 4 x1 1) fun v1 =>
  mb (wc 2 v1 fun t => X0_leafCount t ) fun v2 =>
  if v2 ≤ x2 then ((X1_collate_98 this x1)) else (mb (wc 3 (some this) fun t => X1_markAt t x2) fun v3 =>
  mb (gR 4 x1 1) fun v4 =>
  mb (wc 2 v4 fun t => X0_conjugateOf t x2) fun v5 =>
  if v3 = 0 then (mb (gR 4 x1 3) fun v6 =>
  mb (wc 9 v6 fun t => X8_add t x2) fun v7 =>
  (X1_collate_50 k10 this x1 x2 v3 v5)) else ((X1_collate_50 k10 this x1 x2 v3 v5)))
def X1_collate_10  : Nat → Nat → Option Nat → Int32 → MM Unit
  | 0 => fun _ _ _ => mf
  | n + 1 => fun this x1 x2 => X1_collate_10_st  (X1_collate_10  n) this x1 x2
def X1_collate (this : Nat) (a1 : Option Nat) : MM Unit :=
  mb (gR 4 a1 2) fun v1 =>
  mb (wc 3 (some this) fun t => X1_countEntries t v1) fun _ =>
  (X1_collate_10 LFU this a1 (0 : Int32))
set_option maxRecDepth 100000 in
set_option maxHeartbeats 4000000 in
theorem s_X1_collate_92 (G : GG) (k10 : Nat → Option Nat → Int32 → MM Unit) (hk10 : ∀ (this : Nat) (x1 : Option Nat) (x2 : Int32), Sn G yX1_collate cX1_collate 5 none 4 91 (fun _ : Unit => none) (k10 this x1 x2) 10 [some (va_rf (some this)), some (va_rf x1), some (.int x2), none, none] []) (this : Nat) (x1 : Option Nat) (x2 : Int32) : Sn G yX1_collate cX1_collate 5 none 4 91 (fun _ : Unit => none) (X1_collate_92 k10 this x1 x2) 92 [some (va_rf (some this)), some (va_rf x1), some (.int x2), none, none] [] := by
  unfold X1_collate_92
  refine sn_iinc (v := x2) (w := 1) (L' := [some (va_rf (some this)), some (va_rf x1), some (.int (x2 + (1 : Int32))), none, none]) (pc' := 95) dX1_collate_92 rfl rfl rfl (by decide) rfl ?_
  refine sn_goto (pc' := 10) dX1_collate_95 rfl ?_
  exact sn_weak (le_s (le_s (le_s (le_n (le_n le_e))))) (hk10 this x1 (x2 + (1 : Int32)))
set_option maxRecDepth 100000 in
set_option maxHeartbeats 4000000 in
theorem s_X1_collate_64 (G : GG) (k10 : Nat → Option Nat → Int32 → MM Unit) (hk10 : ∀ (this : Nat) (x1 : Option Nat) (x2 : Int32), Sn G yX1_collate cX1_collate 5 none 4 91 (fun _ : Unit => none) (k10 this x1 x2) 10 [some (va_rf (some this)), some (va_rf x1), some (.int x2), none, none] []) (this : Nat) (x1 : Option Nat) (x2 : Int32) (x3 : Int32) (x4 : Int32) : Sn G yX1_collate cX1_collate 5 none 4 91 (fun _ : Unit => none) (X1_collate_64 k10 this x1 x2 x3 x4) 64 [some (va_rf (some this)), some (va_rf x1), some (.int x2), some (.int x3), some (.int x4)] [] := by
  unfold X1_collate_64
  refine sn_iload_n (v := x3) (pc' := 65) dX1_collate_64 rfl rfl rfl ?_
  refine sn_if_le (pt := 92) (pf := 68) dX1_collate_65 rfl rfl ?_ ?_
  · exact sn_weak (le_s (le_s (le_s (le_n (le_n le_e))))) (s_X1_collate_92 G k10 hk10 this x1 x2)
  · refine sn_iload (v := x4) (pc' := 70) dX1_collate_68 rfl rfl ?_
    refine sn_iconst (v := (-1 : Int32)) (pc' := 71) dX1_collate_70 rfl (by decide) ?_
    refine sn_ic_eq (pt := 92) (pf := 74) dX1_collate_71 rfl rfl ?_ ?_
    · exact sn_weak (le_s (le_s (le_s (le_n (le_n le_e))))) (s_X1_collate_92 G k10 hk10 this x1 x2)
    · refine sn_aload_n (v := (some this)) (pc' := 75) dX1_collate_74 rfl rfl rfl ?_
      refine sn_iload (v := x4) (pc' := 77) dX1_collate_75 rfl rfl ?_
      refine sn_cV (r := (some this)) (st := []) (As := [.int x4]) (st2 := (fun v => .int v :: [])) (pc' := 80) ci_3 (fun t => c_X1_markAt G t x4) cw_X1_markAt rfl rfl tw1036 pw29 tw1038 rfl rfl cat_nil rfl (fun _ => rfl) dX1_collate_77 rfl (fun v1 => ?_)
      refine sn_if_ne (pt := 92) (pf := 83) dX1_collate_80 rfl rfl ?_ ?_
      · refine sn_aload_n (v := x1) (pc' := 84) dX1_collate_83 rfl rfl rfl ?_
        refine sn_gR (k := 6) (pc' := 87) ci_4 rfl (Or.inr ⟨_, nw1006⟩) dX1_collate_84 rfl (fun v2 => ?_)
        refine sn_iload_n (v := x2) (pc' := 88) dX1_collate_87 rfl rfl rfl ?_
        refine sn_cV (r := v2) (st := []) (As := [.int x2]) (st2 := (fun v => .int v :: [])) (pc' := 91) ci_9 (fun t => c_X8_add G t x2) cw_X8_add rfl rfl tw1054 tw484 tw483 rfl rfl cat_nil rfl (fun _ => rfl) dX1_collate_88 rfl (fun v3 => ?_)
        refine sn_pop (pc' := 92) dX1_collate_91 rfl rfl ?_
        exact sn_weak (le_s (le_s (le_s (le_n (le_n le_e))))) (s_X1_collate_92 G k10 hk10 this x1 x2)
      · exact sn_weak (le_s (le_s (le_s (le_n (le_n le_e))))) (s_X1_collate_92 G k10 hk10 this x1 x2)
set_option maxRecDepth 100000 in
set_option maxHeartbeats 4000000 in
theorem s_X1_collate_50 (G : GG) (k10 : Nat → Option Nat → Int32 → MM Unit) (hk10 : ∀ (this : Nat) (x1 : Option Nat) (x2 : Int32), Sn G yX1_collate cX1_collate 5 none 4 91 (fun _ : Unit => none) (k10 this x1 x2) 10 [some (va_rf (some this)), some (va_rf x1), some (.int x2), none, none] []) (this : Nat) (x1 : Option Nat) (x2 : Int32) (x3 : Int32) (x4 : Int32) : Sn G yX1_collate cX1_collate 5 none 4 91 (fun _ : Unit => none) (X1_collate_50 k10 this x1 x2 x3 x4) 50 [some (va_rf (some this)), some (va_rf x1), some (.int x2), some (.int x3), some (.int x4)] [] := by
  unfold X1_collate_50
  refine sn_iload_n (v := x3) (pc' := 51) dX1_collate_50 rfl rfl rfl ?_
  refine sn_iconst (v := (2 : Int32)) (pc' := 52) dX1_collate_51 rfl (by decide) ?_
  refine sn_ic_lt (pt := 64) (pf := 55) dX1_collate_52 rfl rfl ?_ ?_
  · exact sn_weak (le_s (le_s (le_s (le_s (le_s le_e))))) (s_X1_collate_64 G k10 hk10 this x1 x2 x3 x4)
  · refine sn_aload_n (v := x1) (pc' := 56) dX1_collate_55 rfl rfl rfl ?_
    refine sn_gR (k := 4) (pc' := 59) ci_4 rfl (Or.inr ⟨_, nw1000⟩) dX1_collate_56 rfl (fun v1 => ?_)
    refine sn_iload_n (v := x2) (pc' := 60) dX1_collate_59 rfl rfl rfl ?_
    refine sn_cV (r := v1) (st := []) (As := [.int x2]) (st2 := (fun v => .int v :: [])) (pc' := 63) ci_9 (fun t => c_X8_add G t x2) cw_X8_add rfl rfl tw1054 tw484 tw483 rfl rfl cat_nil rfl (fun _ => rfl) dX1_collate_60 rfl (fun v2 => ?_)
    refine sn_pop (pc' := 64) dX1_collate_63 rfl rfl ?_
    exact sn_weak (le_s (le_s (le_s (le_s (le_s le_e))))) (s_X1_collate_64 G k10 hk10 this x1 x2 x3 x4)
set_option maxRecDepth 100000 in
set_option maxHeartbeats 4000000 in
theorem s_X1_collate_98 (G : GG)   (this : Nat) (x1 : Option Nat) : Sn G yX1_collate cX1_collate 5 none 4 91 (fun _ : Unit => none) (X1_collate_98  this x1) 98 [some (va_rf (some this)), some (va_rf x1), none, none, none] [] := by
  unfold X1_collate_98
  refine sn_aload_n (v := (some this)) (pc' := 99) dX1_collate_98 rfl rfl rfl ?_
  refine sn_aload_n (v := x1) (pc' := 100) dX1_collate_99 rfl rfl rfl ?_
  refine sn_aload_n (v := (some this)) (pc' := 101) dX1_collate_100 rfl rfl rfl ?_
  refine sn_aload_n (v := x1) (pc' := 102) dX1_collate_101 rfl rfl rfl ?_
  refine sn_gR (k := 2) (pc' := 105) ci_4 rfl (Or.inr ⟨_, nw993⟩) dX1_collate_102 rfl (fun v1 => ?_)
  refine sn_cV (r := (some this)) (st := [va_rf x1, va_rf (some this)]) (As := [va_rf v1]) (st2 := (fun v => .int v :: [va_rf x1, va_rf (some this)])) (pc' := 108) ci_3 (fun t => c_X1_measureReach G t v1) cw_X1_measureReach rfl rfl tw1055 pw31 tw1057 rfl rfl (cat_q (cat_q cat_nil)) rfl (fun _ => rfl) dX1_collate_105 rfl (fun v2 => ?_)
  refine sn_cV (r := (some this)) (st := []) (As := [va_rf x1, .int v2]) (st2 := (fun _ => [])) (pc' := 111) ci_3 (fun t => c_X1_listStrays G t x1 v2) cw_X1_listStrays rfl rfl tw1061 pw32 tw1063 rfl rfl cat_nil rfl (fun _ => rfl) dX1_collate_108 rfl (fun _ => ?_)
  exact sn_vret dX1_collate_111 rfl
set_option maxRecDepth 100000 in
set_option maxHeartbeats 4000000 in
theorem s_X1_collate_10_st (G : GG)   (k10 : Nat → Option Nat → Int32 → MM Unit) (hk10 : ∀ (this : Nat) (x1 : Option Nat) (x2 : Int32), Sn G yX1_collate cX1_collate 5 none 4 91 (fun _ : Unit => none) (k10 this x1 x2) 10 [some (va_rf (some this)), some (va_rf x1), some (.int x2), none, none] []) (this : Nat) (x1 : Option Nat) (x2 : Int32) : Sn G yX1_collate cX1_collate 5 none 4 91 (fun _ : Unit => none) (X1_collate_10_st  k10 this x1 x2) 10 [some (va_rf (some this)), some (va_rf x1), some (.int x2), none, none] [] := by
  unfold X1_collate_10_st
  refine sn_iload_n (v := x2) (pc' := 11) dX1_collate_10 rfl rfl rfl ?_
  refine sn_aload_n (v := x1) (pc' := 12) dX1_collate_11 rfl rfl rfl ?_
  refine sn_gR (k := 1) (pc' := 15) ci_4 rfl (Or.inr ⟨_, nw989⟩) dX1_collate_12 rfl (fun v1 => ?_)
  refine sn_cV (r := v1) (st := [.int x2]) (As := []) (st2 := (fun v => .int v :: [.int x2])) (pc' := 18) ci_2 (fun t => c_X0_leafCount G t ) cw_X0_leafCount rfl rfl tw1044 tw863 tw862 rfl rfl (cat_i cat_nil) rfl (fun _ => rfl) dX1_collate_15 rfl (fun v2 => ?_)
  refine sn_ic_ge (pt := 98) (pf := 21) dX1_collate_18 rfl rfl ?_ ?_
  · exact sn_weak (le_s (le_s (le_n (le_n (le_n le_e))))) (s_X1_collate_98 G this x1)
  · refine sn_aload_n (v := (some this)) (pc' := 22) dX1_collate_21 rfl rfl rfl ?_
    refine sn_iload_n (v := x2) (pc' := 23) dX1_collate_22 rfl rfl rfl ?_
    refine sn_cV (r := (some this)) (st := []) (As := [.int x2]) (st2 := (fun v => .int v :: [])) (pc' := 26) ci_3 (fun t => c_X1_markAt G t x2) cw_X1_markAt rfl rfl tw1036 pw29 tw1038 rfl rfl cat_nil rfl (fun _ => rfl) dX1_collate_23 rfl (fun v3 => ?_)
    refine sn_istore_n (v := v3) (L' := [some (va_rf (some this)), some (va_rf x1), some (.int x2), some (.int v3), none]) (pc' := 27) dX1_collate_26 rfl rfl rfl rfl ?_
    refine sn_aload_n (v := x1) (pc' := 28) dX1_collate_27 rfl rfl rfl ?_
    refine sn_gR (k := 1) (pc' := 31) ci_4 rfl (Or.inr ⟨_, nw989⟩) dX1_collate_28 rfl (fun v4 => ?_)
    refine sn_iload_n (v := x2) (pc' := 32) dX1_collate_31 rfl rfl rfl ?_
    refine sn_cV (r := v4) (st := []) (As := [.int x2]) (st2 := (fun v => .int v :: [])) (pc' := 35) ci_2 (fun t => c_X0_conjugateOf G t x2) cw_X0_conjugateOf rfl rfl tw1045 tw1047 tw1046 rfl rfl cat_nil rfl (fun _ => rfl) dX1_collate_32 rfl (fun v5 => ?_)
    refine sn_istore (v := v5) (L' := [some (va_rf (some this)), some (va_rf x1), some (.int x2), some (.int v3), some (.int v5)]) (pc' := 37) dX1_collate_35 rfl rfl rfl ?_
    refine sn_iload_n (v := v3) (pc' := 38) dX1_collate_37 rfl rfl rfl ?_
    refine sn_if_ne (pt := 50) (pf := 41) dX1_collate_38 rfl rfl ?_ ?_
    · refine sn_aload_n (v := x1) (pc' := 42) dX1_collate_41 rfl rfl rfl ?_
      refine sn_gR (k := 3) (pc' := 45) ci_4 rfl (Or.inr ⟨_, nw997⟩) dX1_collate_42 rfl (fun v6 => ?_)
      refine sn_iload_n (v := x2) (pc' := 46) dX1_collate_45 rfl rfl rfl ?_
      refine sn_cV (r := v6) (st := []) (As := [.int x2]) (st2 := (fun v => .int v :: [])) (pc' := 49) ci_9 (fun t => c_X8_add G t x2) cw_X8_add rfl rfl tw1054 tw484 tw483 rfl rfl cat_nil rfl (fun _ => rfl) dX1_collate_46 rfl (fun v7 => ?_)
      refine sn_pop (pc' := 50) dX1_collate_49 rfl rfl ?_
      exact sn_weak (le_s (le_s (le_s (le_s (le_s le_e))))) (s_X1_collate_50 G k10 hk10 this x1 x2 v3 v5)
    · exact sn_weak (le_s (le_s (le_s (le_s (le_s le_e))))) (s_X1_collate_50 G k10 hk10 this x1 x2 v3 v5)
set_option maxRecDepth 100000 in
set_option maxHeartbeats 4000000 in
theorem s_X1_collate_10 (G : GG)   : ∀ (n : Nat) (this : Nat) (x1 : Option Nat) (x2 : Int32), Sn G yX1_collate cX1_collate 5 none 4 91 (fun _ : Unit => none) (X1_collate_10  n this x1 x2) 10 [some (va_rf (some this)), some (va_rf x1), some (.int x2), none, none] [] := by
  intro n
  induction n with
  | zero => intro this x1 x2; exact sn_mf
  | succ n ih => intro this x1 x2; exact s_X1_collate_10_st G   (X1_collate_10  n) ih this x1 x2
set_option maxRecDepth 100000 in
set_option maxHeartbeats 4000000 in
theorem s_X1_collate (G : GG) (this : Nat) (a1 : Option Nat) : Sn G yX1_collate cX1_collate 5 none 4 91 (fun _ : Unit => none) (X1_collate this a1) 0 [some (va_rf (some this)), some (va_rf a1), none, none, none] [] := by
  unfold X1_collate
  refine sn_aload_n (v := (some this)) (pc' := 1) dX1_collate_0 rfl rfl rfl ?_
  refine sn_aload_n (v := a1) (pc' := 2) dX1_collate_1 rfl rfl rfl ?_
  refine sn_gR (k := 2) (pc' := 5) ci_4 rfl (Or.inr ⟨_, nw993⟩) dX1_collate_2 rfl (fun v1 => ?_)
  refine sn_cV (r := (some this)) (st := []) (As := [va_rf v1]) (st2 := (fun _ => [])) (pc' := 8) ci_3 (fun t => c_X1_countEntries G t v1) cw_X1_countEntries rfl rfl tw1030 pw28 tw1032 rfl rfl cat_nil rfl (fun _ => rfl) dX1_collate_5 rfl (fun _ => ?_)
  refine sn_iconst (v := (0 : Int32)) (pc' := 9) dX1_collate_8 rfl (by decide) ?_
  refine sn_istore_n (v := (0 : Int32)) (L' := [some (va_rf (some this)), some (va_rf a1), some (.int (0 : Int32)), none, none]) (pc' := 10) dX1_collate_9 rfl rfl rfl rfl ?_
  exact sn_weak (le_s (le_s (le_s (le_n (le_n le_e))))) (s_X1_collate_10 G LFU this a1 (0 : Int32))
theorem c_X1_collate (G : GG) (this : Nat) (a1 : Option Nat) : Cal G yX1_collate cX1_collate 5 none 4 91 (fun _ : Unit => none) (X1_collate this a1) [.ref this, va_rf a1] :=
  Cal.of (by decide) (cat_t (cat_q cat_nil)) rfl (sn_weak (le_s (le_s (le_z (le_z (le_z le_e))))) (s_X1_collate G this a1))
theorem cw_X1_collate : CW yX1_collate cX1_collate 5 none 1 := ⟨tw1029, tw9, by decide, by decide +kernel⟩
/-! X9_writeHead -/
theorem dX9_writeHead_0 : decode cX9_writeHead 0 = .ok (.aload_n 0, 1) := by decide +kernel
theorem dX9_writeHead_1 : decode cX9_writeHead 1 = .ok (.getfield 12, 3) := by decide +kernel
theorem dX9_writeHead_4 : decode cX9_writeHead 4 = .ok (.invokevirtual 86, 3) := by decide +kernel
theorem dX9_writeHead_7 : decode cX9_writeHead 7 = .ok (.ifCond .le 13, 3) := by decide +kernel
theorem dX9_writeHead_10 : decode cX9_writeHead 10 = .ok (.aload_n 0, 1) := by decide +kernel
theorem dX9_writeHead_11 : decode cX9_writeHead 11 = .ok (.getfield 12, 3) := by decide +kernel
theorem dX9_writeHead_14 : decode cX9_writeHead 14 = .ok (.ldc 127, 2) := by decide +kernel
theorem dX9_writeHead_16 : decode cX9_writeHead 16 = .ok (.invokevirtual 116, 3) := by decide +kernel
theorem dX9_writeHead_19 : decode cX9_writeHead 19 = .ok (.pop, 1) := by decide +kernel
theorem dX9_writeHead_20 : decode cX9_writeHead 20 = .ok (.aload_n 0, 1) := by decide +kernel
theorem dX9_writeHead_21 : decode cX9_writeHead 21 = .ok (.getfield 12, 3) := by decide +kernel
theorem dX9_writeHead_24 : decode cX9_writeHead 24 = .ok (.aload_n 1, 1) := by decide +kernel
theorem dX9_writeHead_25 : decode cX9_writeHead 25 = .ok (.invokevirtual 116, 3) := by decide +kernel
theorem dX9_writeHead_28 : decode cX9_writeHead 28 = .ok (.pop, 1) := by decide +kernel
theorem dX9_writeHead_29 : decode cX9_writeHead 29 = .ok (.return_, 1) := by decide +kernel
def X9_writeHead_20  (this : Nat) (x1 : Option Nat) : MM Unit :=
  mb (gR 10 (some this) 0) fun v1 =>
  mb (wc 1 v1 fun t => J4_append_15ec4 t x1) fun v2 =>
  mr ()
def X9_writeHead (this : Nat) (a1 : Option Nat) : MM Unit :=
  mb (gR 10 (some this) 0) fun v1 =>
  mb (wc 1 v1 fun t => J4_length_8abf5 t ) fun v2 =>
  if v2 ≤ 0 then ((X9_writeHead_20 this a1)) else (mb (gR 10 (some this) 0) fun v3 =>
  mb (kR 6) fun v4 =>
  mb (wc 1 v3 fun t => J4_append_15ec4 t v4) fun v5 =>
  (X9_writeHead_20 this a1))
set_option maxRecDepth 100000 in
set_option maxHeartbeats 4000000 in
theorem s_X9_writeHead_20 (G : GG)   (this : Nat) (x1 : Option Nat) : Sn G yX9_writeHead cX9_writeHead 2 none 6 127 (fun _ : Unit => none) (X9_writeHead_20  this x1) 20 [some (va_rf (some this)), some (va_rf x1)] [] := by
  unfold X9_writeHead_20
  refine sn_aload_n (v := (some this)) (pc' := 21) dX9_writeHead_20 rfl rfl rfl ?_
  refine sn_gR (k := 0) (pc' := 24) ci_10 rfl (Or.inl tw265) dX9_writeHead_21 rfl (fun v1 => ?_)
  refine sn_aload_n (v := x1) (pc' := 25) dX9_writeHead_24 rfl rfl rfl ?_
  refine sn_cV (r := v1) (st := []) (As := [va_rf x1]) (st2 := (fun v => va_rf v :: [])) (pc' := 28) ci_1 (fun t => c_J4_append_15ec4 G t x1) cw_J4_append_15ec4 rfl rfl tw705 tw707 tw706 rfl rfl cat_nil rfl (fun _ => rfl) dX9_writeHead_25 rfl (fun v2 => ?_)
  refine sn_pop (pc' := 29) dX9_writeHead_28 rfl (cat_rf _) ?_
  exact sn_vret dX9_writeHead_29 rfl
set_option maxRecDepth 100000 in
set_option maxHeartbeats 4000000 in
theorem s_X9_writeHead (G : GG) (this : Nat) (a1 : Option Nat) : Sn G yX9_writeHead cX9_writeHead 2 none 6 127 (fun _ : Unit => none) (X9_writeHead this a1) 0 [some (va_rf (some this)), some (va_rf a1)] [] := by
  unfold X9_writeHead
  refine sn_aload_n (v := (some this)) (pc' := 1) dX9_writeHead_0 rfl rfl rfl ?_
  refine sn_gR (k := 0) (pc' := 4) ci_10 rfl (Or.inl tw265) dX9_writeHead_1 rfl (fun v1 => ?_)
  refine sn_cV (r := v1) (st := []) (As := []) (st2 := (fun v => .int v :: [])) (pc' := 7) ci_1 (fun t => c_J4_length_8abf5 G t ) cw_J4_length_8abf5 rfl rfl tw774 tw776 tw775 rfl rfl cat_nil rfl (fun _ => rfl) dX9_writeHead_4 rfl (fun v2 => ?_)
  refine sn_if_le (pt := 20) (pf := 10) dX9_writeHead_7 rfl rfl ?_ ?_
  · exact sn_weak (le_s (le_s le_e)) (s_X9_writeHead_20 G this a1)
  · refine sn_aload_n (v := (some this)) (pc' := 11) dX9_writeHead_10 rfl rfl rfl ?_
    refine sn_gR (k := 0) (pc' := 14) ci_10 rfl (Or.inl tw265) dX9_writeHead_11 rfl (fun v3 => ?_)
    refine sn_kS (i := 6) (pc' := 16) (tx := "; ") (by decide +kernel) dX9_writeHead_14 rfl (fun v4 => ?_)
    refine sn_cV (r := v3) (st := []) (As := [va_rf v4]) (st2 := (fun v => va_rf v :: [])) (pc' := 19) ci_1 (fun t => c_J4_append_15ec4 G t v4) cw_J4_append_15ec4 rfl rfl tw705 tw707 tw706 rfl rfl cat_nil rfl (fun _ => rfl) dX9_writeHead_16 rfl (fun v5 => ?_)
    refine sn_pop (pc' := 20) dX9_writeHead_19 rfl (cat_rf _) ?_
    exact sn_weak (le_s (le_s le_e)) (s_X9_writeHead_20 G this a1)
theorem c_X9_writeHead (G : GG) (this : Nat) (a1 : Option Nat) : Cal G yX9_writeHead cX9_writeHead 2 none 6 127 (fun _ : Unit => none) (X9_writeHead this a1) [.ref this, va_rf a1] :=
  Cal.of (by decide) (cat_t (cat_q cat_nil)) rfl (sn_weak (le_s (le_s le_e)) (s_X9_writeHead G this a1))
theorem cw_X9_writeHead : CW yX9_writeHead cX9_writeHead 2 none 1 := ⟨tw1077, tw10, by decide, by decide +kernel⟩
/-! X9_writeName -/
theorem dX9_writeName_0 : decode cX9_writeName 0 = .ok (.aload_n 0, 1) := by decide +kernel
theorem dX9_writeName_1 : decode cX9_writeName 1 = .ok (.aload_n 1, 1) := by decide +kernel
theorem dX9_writeName_2 : decode cX9_writeName 2 = .ok (.iload_n 2, 1) := by decide +kernel
theorem dX9_writeName_3 : decode cX9_writeName 3 = .ok (.invokevirtual 129, 3) := by decide +kernel
theorem dX9_writeName_6 : decode cX9_writeName 6 = .ok (.invokevirtual 80, 3) := by decide +kernel
theorem dX9_writeName_9 : decode cX9_writeName 9 = .ok (.aload_n 0, 1) := by decide +kernel
theorem dX9_writeName_10 : decode cX9_writeName 10 = .ok (.getfield 12, 3) := by decide +kernel
theorem dX9_writeName_13 : decode cX9_writeName 13 = .ok (.aload_n 1, 1) := by decide +kernel
theorem dX9_writeName_14 : decode cX9_writeName 14 = .ok (.getfield 134, 3) := by decide +kernel
theorem dX9_writeName_17 : decode cX9_writeName 17 = .ok (.iload_n 2, 1) := by decide +kernel
theorem dX9_writeName_18 : decode cX9_writeName 18 = .ok (.invokevirtual 111, 3) := by decide +kernel
theorem dX9_writeName_21 : decode cX9_writeName 21 = .ok (.invokevirtual 83, 3) := by decide +kernel
theorem dX9_writeName_24 : decode cX9_writeName 24 = .ok (.pop, 1) := by decide +kernel
theorem dX9_writeName_25 : decode cX9_writeName 25 = .ok (.aload_n 1, 1) := by decide +kernel
theorem dX9_writeName_26 : decode cX9_writeName 26 = .ok (.getfield 137, 3) := by decide +kernel
theorem dX9_writeName_29 : decode cX9_writeName 29 = .ok (.iload_n 2, 1) := by decide +kernel
theorem dX9_writeName_30 : decode cX9_writeName 30 = .ok (.invokevirtual 111, 3) := by decide +kernel
theorem dX9_writeName_33 : decode cX9_writeName 33 = .ok (.istore_n 3, 1) := by decide +kernel
theorem dX9_writeName_34 : decode cX9_writeName 34 = .ok (.iload_n 3, 1) := by decide +kernel
theorem dX9_writeName_35 : decode cX9_writeName 35 = .ok (.ifCond .le 17, 3) := by decide +kernel
theorem dX9_writeName_38 : decode cX9_writeName 38 = .ok (.aload_n 0, 1) := by decide +kernel
theorem dX9_writeName_39 : decode cX9_writeName 39 = .ok (.getfield 12, 3) := by decide +kernel
theorem dX9_writeName_42 : decode cX9_writeName 42 = .ok (.bipush 43, 2) := by decide +kernel
theorem dX9_writeName_44 : decode cX9_writeName 44 = .ok (.invokevirtual 76, 3) := by decide +kernel
theorem dX9_writeName_47 : decode cX9_writeName 47 = .ok (.iload_n 3, 1) := by decide +kernel
theorem dX9_writeName_48 : decode cX9_writeName 48 = .ok (.invokevirtual 83, 3) := by decide +kernel
theorem dX9_writeName_51 : decode cX9_writeName 51 = .ok (.pop, 1) := by decide +kernel
theorem dX9_writeName_52 : decode cX9_writeName 52 = .ok (.return_, 1) := by decide +kernel
def X9_writeName (this : Nat) (a1 : Option Nat) (a2 : Int32) : MM Unit :=
  mb (wc 2 a1 fun t => X0_signAt t a2) fun v1 =>
  mb (wc 10 (some this) fun t => X9_writeSign t v1) fun _ =>
  mb (gR 10 (some this) 0) fun v2 =>
  mb (gR 2 a1 3) fun v3 =>
  mb (wc 9 v3 fun t => X8_get t a2) fun v4 =>
  mb (wc 1 v2 fun t => J4_append_bf812 t v4) fun v5 =>
  mb (gR 2 a1 5) fun v6 =>
  mb (wc 9 v6 fun t => X8_get t a2) fun v7 =>
  if v7 ≤ 0 then (mr ()) else (mb (gR 10 (some this) 0) fun v8 =>
  mb (wc 1 v8 fun t => J4_append_cf468 t (43 : Int32)) fun v9 =>
  mb (wc 1 v9 fun t => J4_append_bf812 t v7) fun v10 =>
  mr ())
set_option maxRecDepth 100000 in
set_option maxHeartbeats 4000000 in
theorem s_X9_writeName (G : GG) (this : Nat) (a1 : Option Nat) (a2 : Int32) : Sn G yX9_writeName cX9_writeName 4 none 7 151 (fun _ : Unit => none) (X9_writeName this a1 a2) 0 [some (va_rf (some this)), some (va_rf a1), some (.int a2), none] [] := by
  unfold X9_writeName
  refine sn_aload_n (v := (some this)) (pc' := 1) dX9_writeName_0 rfl rfl rfl ?_
  refine sn_aload_n (v := a1) (pc' := 2) dX9_writeName_1 rfl rfl rfl ?_
  refine sn_iload_n (v := a2) (pc' := 3) dX9_writeName_2 rfl rfl rfl ?_
  refine sn_cV (r := a1) (st := [va_rf (some this)]) (As := [.int a2]) (st2 := (fun v => .int v :: [va_rf (some this)])) (pc' := 6) ci_2 (fun t => c_X0_signAt G t a2) cw_X0_signAt rfl rfl tw1085 tw1051 tw1050 rfl rfl (cat_q cat_nil) rfl (fun _ => rfl) dX9_writeName_3 rfl (fun v1 => ?_)
  refine sn_cV (r := (some this)) (st := []) (As := [.int v1]) (st2 := (fun _ => [])) (pc' := 9) ci_10 (fun t => c_X9_writeSign G t v1) cw_X9_writeSign rfl rfl tw700 pw18 tw702 rfl rfl cat_nil rfl (fun _ => rfl) dX9_writeName_6 rfl (fun _ => ?_)
  refine sn_aload_n (v := (some this)) (pc' := 10) dX9_writeName_9 rfl rfl rfl ?_
  refine sn_gR (k := 0) (pc' := 13) ci_10 rfl (Or.inl tw265) dX9_writeName_10 rfl (fun v2 => ?_)
  refine sn_aload_n (v := a1) (pc' := 14) dX9_writeName_13 rfl rfl rfl ?_
  refine sn_gR (k := 3) (pc' := 17) ci_2 rfl (Or.inr ⟨_, nw885⟩) dX9_writeName_14 rfl (fun v3 => ?_)
  refine sn_iload_n (v := a2) (pc' := 18) dX9_writeName_17 rfl rfl rfl ?_
  refine sn_cV (r := v3) (st := [va_rf v2]) (As := [.int a2]) (st2 := (fun v => .int v :: [va_rf v2])) (pc' := 21) ci_9 (fun t => c_X8_get G t a2) cw_X8_get rfl rfl tw1079 tw497 tw496 rfl rfl (cat_q cat_nil) rfl (fun _ => rfl) dX9_writeName_18 rfl (fun v4 => ?_)
  refine sn_cV (r := v2) (st := []) (As := [.int v4]) (st2 := (fun v => va_rf v :: [])) (pc' := 24) ci_1 (fun t => c_J4_append_bf812 G t v4) cw_J4_append_bf812 rfl rfl tw749 tw751 tw750 rfl rfl cat_nil rfl (fun _ => rfl) dX9_writeName_21 rfl (fun v5 => ?_)
  refine sn_pop (pc' := 25) dX9_writeName_24 rfl (cat_rf _) ?_
  refine sn_aload_n (v := a1) (pc' := 26) dX9_writeName_25 rfl rfl rfl ?_
  refine sn_gR (k := 5) (pc' := 29) ci_2 rfl (Or.inr ⟨_, nw888⟩) dX9_writeName_26 rfl (fun v6 => ?_)
  refine sn_iload_n (v := a2) (pc' := 30) dX9_writeName_29 rfl rfl rfl ?_
  refine sn_cV (r := v6) (st := []) (As := [.int a2]) (st2 := (fun v => .int v :: [])) (pc' := 33) ci_9 (fun t => c_X8_get G t a2) cw_X8_get rfl rfl tw1079 tw497 tw496 rfl rfl cat_nil rfl (fun _ => rfl) dX9_writeName_30 rfl (fun v7 => ?_)
  refine sn_istore_n (v := v7) (L' := [some (va_rf (some this)), some (va_rf a1), some (.int a2), some (.int v7)]) (pc' := 34) dX9_writeName_33 rfl rfl rfl rfl ?_
  refine sn_iload_n (v := v7) (pc' := 35) dX9_writeName_34 rfl rfl rfl ?_
  refine sn_if_le (pt := 52) (pf := 38) dX9_writeName_35 rfl rfl ?_ ?_
  · exact sn_vret dX9_writeName_52 rfl
  · refine sn_aload_n (v := (some this)) (pc' := 39) dX9_writeName_38 rfl rfl rfl ?_
    refine sn_gR (k := 0) (pc' := 42) ci_10 rfl (Or.inl tw265) dX9_writeName_39 rfl (fun v8 => ?_)
    refine sn_bipush (v := (43 : Int32)) (pc' := 44) dX9_writeName_42 rfl (by decide) ?_
    refine sn_cV (r := v8) (st := []) (As := [.int (43 : Int32)]) (st2 := (fun v => va_rf v :: [])) (pc' := 47) ci_1 (fun t => c_J4_append_cf468 G t (43 : Int32)) cw_J4_append_cf468 rfl rfl tw656 tw658 tw657 rfl rfl cat_nil rfl (fun _ => rfl) dX9_writeName_44 rfl (fun v9 => ?_)
    refine sn_iload_n (v := v7) (pc' := 48) dX9_writeName_47 rfl rfl rfl ?_
    refine sn_cV (r := v9) (st := []) (As := [.int v7]) (st2 := (fun v => va_rf v :: [])) (pc' := 51) ci_1 (fun t => c_J4_append_bf812 G t v7) cw_J4_append_bf812 rfl rfl tw749 tw751 tw750 rfl rfl cat_nil rfl (fun _ => rfl) dX9_writeName_48 rfl (fun v10 => ?_)
    refine sn_pop (pc' := 52) dX9_writeName_51 rfl (cat_rf _) ?_
    exact sn_vret dX9_writeName_52 rfl
theorem c_X9_writeName (G : GG) (this : Nat) (a1 : Option Nat) (a2 : Int32) : Cal G yX9_writeName cX9_writeName 4 none 7 151 (fun _ : Unit => none) (X9_writeName this a1 a2) [.ref this, va_rf a1, .int a2] :=
  Cal.of (by decide) (cat_t (cat_q (cat_i cat_nil))) rfl (sn_weak (le_s (le_s (le_s (le_z le_e)))) (s_X9_writeName G this a1 a2))
theorem cw_X9_writeName : CW yX9_writeName cX9_writeName 4 none 2 := ⟨tw1084, tw10, by decide, by decide +kernel⟩
/-! X9_writeRuns -/
theorem dX9_writeRuns_0 : decode cX9_writeRuns 0 = .ok (.aload_n 3, 1) := by decide +kernel
theorem dX9_writeRuns_1 : decode cX9_writeRuns 1 = .ok (.getfield 103, 3) := by decide +kernel
theorem dX9_writeRuns_4 : decode cX9_writeRuns 4 = .ok (.ifCond .ne 4, 3) := by decide +kernel
theorem dX9_writeRuns_7 : decode cX9_writeRuns 7 = .ok (.return_, 1) := by decide +kernel
theorem dX9_writeRuns_8 : decode cX9_writeRuns 8 = .ok (.aload_n 0, 1) := by decide +kernel
theorem dX9_writeRuns_9 : decode cX9_writeRuns 9 = .ok (.aload_n 1, 1) := by decide +kernel
theorem dX9_writeRuns_10 : decode cX9_writeRuns 10 = .ok (.invokevirtual 107, 3) := by decide +kernel
theorem dX9_writeRuns_13 : decode cX9_writeRuns 13 = .ok (.iconst 0, 1) := by decide +kernel
theorem dX9_writeRuns_14 : decode cX9_writeRuns 14 = .ok (.istore 4, 2) := by decide +kernel
theorem dX9_writeRuns_16 : decode cX9_writeRuns 16 = .ok (.iconst 0, 1) := by decide +kernel
theorem dX9_writeRuns_17 : decode cX9_writeRuns 17 = .ok (.istore 5, 2) := by decide +kernel
theorem dX9_writeRuns_19 : decode cX9_writeRuns 19 = .ok (.iload 5, 2) := by decide +kernel
theorem dX9_writeRuns_21 : decode cX9_writeRuns 21 = .ok (.aload_n 3, 1) := by decide +kernel
theorem dX9_writeRuns_22 : decode cX9_writeRuns 22 = .ok (.getfield 103, 3) := by decide +kernel
theorem dX9_writeRuns_25 : decode cX9_writeRuns 25 = .ok (.if_icmp .ge 102, 3) := by decide +kernel
theorem dX9_writeRuns_28 : decode cX9_writeRuns 28 = .ok (.iload 5, 2) := by decide +kernel
theorem dX9_writeRuns_30 : decode cX9_writeRuns 30 = .ok (.iconst 1, 1) := by decide +kernel
theorem dX9_writeRuns_31 : decode cX9_writeRuns 31 = .ok (.iadd, 1) := by decide +kernel
theorem dX9_writeRuns_32 : decode cX9_writeRuns 32 = .ok (.aload_n 3, 1) := by decide +kernel
theorem dX9_writeRuns_33 : decode cX9_writeRuns 33 = .ok (.getfield 103, 3) := by decide +kernel
theorem dX9_writeRuns_36 : decode cX9_writeRuns 36 = .ok (.if_icmp .ge 25, 3) := by decide +kernel
theorem dX9_writeRuns_39 : decode cX9_writeRuns 39 = .ok (.aload_n 3, 1) := by decide +kernel
theorem dX9_writeRuns_40 : decode cX9_writeRuns 40 = .ok (.iload 5, 2) := by decide +kernel
theorem dX9_writeRuns_42 : decode cX9_writeRuns 42 = .ok (.iconst 1, 1) := by decide +kernel
theorem dX9_writeRuns_43 : decode cX9_writeRuns 43 = .ok (.iadd, 1) := by decide +kernel
theorem dX9_writeRuns_44 : decode cX9_writeRuns 44 = .ok (.invokevirtual 111, 3) := by decide +kernel
theorem dX9_writeRuns_47 : decode cX9_writeRuns 47 = .ok (.aload_n 3, 1) := by decide +kernel
theorem dX9_writeRuns_48 : decode cX9_writeRuns 48 = .ok (.iload 5, 2) := by decide +kernel
theorem dX9_writeRuns_50 : decode cX9_writeRuns 50 = .ok (.invokevirtual 111, 3) := by decide +kernel
theorem dX9_writeRuns_53 : decode cX9_writeRuns 53 = .ok (.iconst 1, 1) := by decide +kernel
theorem dX9_writeRuns_54 : decode cX9_writeRuns 54 = .ok (.iadd, 1) := by decide +kernel
theorem dX9_writeRuns_55 : decode cX9_writeRuns 55 = .ok (.if_icmp .ne 6, 3) := by decide +kernel
theorem dX9_writeRuns_58 : decode cX9_writeRuns 58 = .ok (.goto 63, 3) := by decide +kernel
theorem dX9_writeRuns_61 : decode cX9_writeRuns 61 = .ok (.iload 4, 2) := by decide +kernel
theorem dX9_writeRuns_63 : decode cX9_writeRuns 63 = .ok (.ifCond .le 13, 3) := by decide +kernel
theorem dX9_writeRuns_66 : decode cX9_writeRuns 66 = .ok (.aload_n 0, 1) := by decide +kernel
theorem dX9_writeRuns_67 : decode cX9_writeRuns 67 = .ok (.getfield 12, 3) := by decide +kernel
theorem dX9_writeRuns_70 : decode cX9_writeRuns 70 = .ok (.ldc 114, 2) := by decide +kernel
theorem dX9_writeRuns_72 : decode cX9_writeRuns 72 = .ok (.invokevirtual 116, 3) := by decide +kernel
theorem dX9_writeRuns_75 : decode cX9_writeRuns 75 = .ok (.pop, 1) := by decide +kernel
theorem dX9_writeRuns_76 : decode cX9_writeRuns 76 = .ok (.aload_n 0, 1) := by decide +kernel
theorem dX9_writeRuns_77 : decode cX9_writeRuns 77 = .ok (.aload_n 2, 1) := by decide +kernel
theorem dX9_writeRuns_78 : decode cX9_writeRuns 78 = .ok (.aload_n 3, 1) := by decide +kernel
theorem dX9_writeRuns_79 : decode cX9_writeRuns 79 = .ok (.iload 4, 2) := by decide +kernel
theorem dX9_writeRuns_81 : decode cX9_writeRuns 81 = .ok (.invokevirtual 111, 3) := by decide +kernel
theorem dX9_writeRuns_84 : decode cX9_writeRuns 84 = .ok (.invokevirtual 22, 3) := by decide +kernel
theorem dX9_writeRuns_87 : decode cX9_writeRuns 87 = .ok (.iload 5, 2) := by decide +kernel
theorem dX9_writeRuns_89 : decode cX9_writeRuns 89 = .ok (.iload 4, 2) := by decide +kernel
theorem dX9_writeRuns_91 : decode cX9_writeRuns 91 = .ok (.if_icmp .le 24, 3) := by decide +kernel
theorem dX9_writeRuns_94 : decode cX9_writeRuns 94 = .ok (.aload_n 0, 1) := by decide +kernel
theorem dX9_writeRuns_95 : decode cX9_writeRuns 95 = .ok (.getfield 12, 3) := by decide +kernel
theorem dX9_writeRuns_98 : decode cX9_writeRuns 98 = .ok (.bipush 45, 2) := by decide +kernel
theorem dX9_writeRuns_100 : decode cX9_writeRuns 100 = .ok (.invokevirtual 76, 3) := by decide +kernel
theorem dX9_writeRuns_103 : decode cX9_writeRuns 103 = .ok (.pop, 1) := by decide +kernel
theorem dX9_writeRuns_104 : decode cX9_writeRuns 104 = .ok (.aload_n 0, 1) := by decide +kernel
theorem dX9_writeRuns_105 : decode cX9_writeRuns 105 = .ok (.aload_n 2, 1) := by decide +kernel
theorem dX9_writeRuns_106 : decode cX9_writeRuns 106 = .ok (.aload_n 3, 1) := by decide +kernel
theorem dX9_writeRuns_107 : decode cX9_writeRuns 107 = .ok (.iload 5, 2) := by decide +kernel
theorem dX9_writeRuns_109 : decode cX9_writeRuns 109 = .ok (.invokevirtual 111, 3) := by decide +kernel
theorem dX9_writeRuns_112 : decode cX9_writeRuns 112 = .ok (.invokevirtual 22, 3) := by decide +kernel
theorem dX9_writeRuns_115 : decode cX9_writeRuns 115 = .ok (.iload 5, 2) := by decide +kernel
theorem dX9_writeRuns_117 : decode cX9_writeRuns 117 = .ok (.iconst 1, 1) := by decide +kernel
theorem dX9_writeRuns_118 : decode cX9_writeRuns 118 = .ok (.iadd, 1) := by decide +kernel
theorem dX9_writeRuns_119 : decode cX9_writeRuns 119 = .ok (.istore 4, 2) := by decide +kernel
theorem dX9_writeRuns_121 : decode cX9_writeRuns 121 = .ok (.iinc 5 1, 3) := by decide +kernel
theorem dX9_writeRuns_124 : decode cX9_writeRuns 124 = .ok (.goto (-105), 3) := by decide +kernel
theorem dX9_writeRuns_127 : decode cX9_writeRuns 127 = .ok (.return_, 1) := by decide +kernel
def X9_writeRuns_121 (k19 : Nat → Option Nat → Option Nat → Int32 → Int32 → MM Unit) (this : Nat) (x2 : Option Nat) (x3 : Option Nat) (x4 : Int32) (x5 : Int32) : MM Unit :=
  (k19 this x2 x3 x4 (x5 + (1 : Int32)))
def X9_writeRuns_115 (k19 : Nat → Option Nat → Option Nat → Int32 → Int32 → MM Unit) (this : Nat) (x2 : Option Nat) (x3 : Option Nat) (x5 : Int32) : MM Unit :=
  (X9_writeRuns_121 k19 this x2 x3 (x5 + (1 : Int32)) x5)
def X9_writeRuns_76 (k19 : Nat → Option Nat → Option Nat → Int32 → Int32 → MM Unit) (this : Nat) (x2 : Option Nat) (x3 : Option Nat) (x4 : Int32) (x5 : Int32) : MM Unit :=
  mb (wc 9 x3 fun t => X8_get t x4) fun v1 =>
  mb (wc 10 (some this) fun t => X9_writeName t x2 v1) fun _ =>
  if x5 ≤ x4 then ((X9_writeRuns_115 k19 this x2 x3 x5)) else (mb (gR 10 (some this) 0) fun v2 =>
  mb (wc 1 v2 fun t => J4_append_cf468 t (45 : Int32)) fun v3 =>
  mb (wc 9 x3 fun t => X8_get t x5) fun v4 =>
  mb (wc 10 (some this) fun t => X9_writeName t x2 v4) fun _ =>
  (X9_writeRuns_115 k19 this x2 x3 x5))
def X9_writeRuns_61 (k19 : Nat → Option Nat → Option Nat → Int32 → Int32 → MM Unit) (this : Nat) (x2 : Option Nat) (x3 : Option Nat) (x4 : Int32) (x5 : Int32) : MM Unit :=
  if x4 ≤ 0 then ((X9_writeRuns_76 k19 this x2 x3 x4 x5)) else (mb (gR 10 (some this) 0) fun v1 =>
  mb (kR 7) fun v2 =>
  mb (wc 1 v1 fun t => J4_append_15ec4 t v2) fun v3 =>
  (X9_writeRuns_76 k19 this x2 x3 x4 x5))
def X9_writeRuns_19_st  (k19 : Nat → Option Nat → Option Nat → Int32 → Int32 → MM Unit) (this : Nat) (x2 : Option Nat) (x3 : Option Nat) (x4 : Int32) (x5 : Int32) : MM Unit :=
  mb (gI 9 x3 1) fun v1 =>
  if v1 ≤ x5 then (mr ()) else (mb (gI 9 x3 1) fun v2 =>
  if v2 ≤ (x5 + (1 : Int32)) then ((X9_writeRuns_61 k19 this x2 x3 x4 x5)) else (mb (wc 9 x3 fun t => X8_get t (x5 + (1 : Int32))) fun v3 =>
  mb (wc 9 x3 fun t => X8_get t x5) fun v4 =>
  if v3 = (v4 + (1 : Int32)) then ((X9_writeRuns_121 k19 this x2 x3 x4 x5)) else ((X9_writeRuns_61 k19 this x2 x3 x4 x5))))
def X9_writeRuns_19  : Nat → Nat → Option Nat → Option Nat → Int32 → Int32 → MM Unit
  | 0 => fun _ _ _ _ _ => mf
  | n + 1 => fun this x2 x3 x4 x5 => X9_writeRuns_19_st  (X9_writeRuns_19  n) this x2 x3 x4 x5
def X9_writeRuns (this : Nat) (a1 : Option Nat) (a2 : Option Nat) (a3 : Option Nat) : MM Unit :=
  mb (gI 9 a3 1) fun v1 =>
  if v1 = 0 then (mr ()) else (mb (wc 10 (some this) fun t => X9_writeHead t a1) fun _ =>
  (X9_writeRuns_19 LFU this a2 a3 (0 : Int32) (0 : Int32)))
set_option maxRecDepth 100000 in
set_option maxHeartbeats 4000000 in
theorem s_X9_writeRuns_121 (G : GG) (k19 : Nat → Option Nat → Option Nat → Int32 → Int32 → MM Unit) (hk19 : ∀ (this : Nat) (x2 : Option Nat) (x3 : Option Nat) (x4 : Int32) (x5 : Int32), Sn G yX9_writeRuns cX9_writeRuns 6 none 8 174 (fun _ : Unit => none) (k19 this x2 x3 x4 x5) 19 [some (va_rf (some this)), none, some (va_rf x2), some (va_rf x3), some (.int x4), some (.int x5)] []) (this : Nat) (x2 : Option Nat) (x3 : Option Nat) (x4 : Int32) (x5 : Int32) : Sn G yX9_writeRuns cX9_writeRuns 6 none 8 174 (fun _ : Unit => none) (X9_writeRuns_121 k19 this x2 x3 x4 x5) 121 [some (va_rf (some this)), none, some (va_rf x2), some (va_rf x3), some (.int x4), some (.int x5)] [] := by
  unfold X9_writeRuns_121
  refine sn_iinc (v := x5) (w := 1) (L' := [some (va_rf (some this)), none, some (va_rf x2), some (va_rf x3), some (.int x4), some (.int (x5 + (1 : Int32)))]) (pc' := 124) dX9_writeRuns_121 rfl rfl rfl (by decide) rfl ?_
  refine sn_goto (pc' := 19) dX9_writeRuns_124 rfl ?_
  exact sn_weak (le_s (le_n (le_s (le_s (le_s (le_s le_e)))))) (hk19 this x2 x3 x4 (x5 + (1 : Int32)))
set_option maxRecDepth 100000 in
set_option maxHeartbeats 4000000 in
theorem s_X9_writeRuns_115 (G : GG) (k19 : Nat → Option Nat → Option Nat → Int32 → Int32 → MM Unit) (hk19 : ∀ (this : Nat) (x2 : Option Nat) (x3 : Option Nat) (x4 : Int32) (x5 : Int32), Sn G yX9_writeRuns cX9_writeRuns 6 none 8 174 (fun _ : Unit => none) (k19 this x2 x3 x4 x5) 19 [some (va_rf (some this)), none, some (va_rf x2), some (va_rf x3), some (.int x4), some (.int x5)] []) (this : Nat) (x2 : Option Nat) (x3 : Option Nat) (x5 : Int32) : Sn G yX9_writeRuns cX9_writeRuns 6 none 8 174 (fun _ : Unit => none) (X9_writeRuns_115 k19 this x2 x3 x5) 115 [some (va_rf (some this)), none, some (va_rf x2), some (va_rf x3), none, some (.int x5)] [] := by
  unfold X9_writeRuns_115
  refine sn_iload (v := x5) (pc' := 117) dX9_writeRuns_115 rfl rfl ?_
  refine sn_iconst (v := (1 : Int32)) (pc' := 118) dX9_writeRuns_117 rfl (by decide) ?_
  refine sn_iadd (pc' := 119) dX9_writeRuns_118 rfl ?_
  refine sn_istore (v := (x5 + (1 : Int32))) (L' := [some (va_rf (some this)), none, some (va_rf x2), some (va_rf x3), some (.int (x5 + (1 : Int32))), some (.int x5)]) (pc' := 121) dX9_writeRuns_119 rfl rfl rfl ?_
  exact sn_weak (le_s (le_n (le_s (le_s (le_s (le_s le_e)))))) (s_X9_writeRuns_121 G k19 hk19 this x2 x3 (x5 + (1 : Int32)) x5)
set_option maxRecDepth 100000 in
set_option maxHeartbeats 4000000 in
theorem s_X9_writeRuns_76 (G : GG) (k19 : Nat → Option Nat → Option Nat → Int32 → Int32 → MM Unit) (hk19 : ∀ (this : Nat) (x2 : Option Nat) (x3 : Option Nat) (x4 : Int32) (x5 : Int32), Sn G yX9_writeRuns cX9_writeRuns 6 none 8 174 (fun _ : Unit => none) (k19 this x2 x3 x4 x5) 19 [some (va_rf (some this)), none, some (va_rf x2), some (va_rf x3), some (.int x4), some (.int x5)] []) (this : Nat) (x2 : Option Nat) (x3 : Option Nat) (x4 : Int32) (x5 : Int32) : Sn G yX9_writeRuns cX9_writeRuns 6 none 8 174 (fun _ : Unit => none) (X9_writeRuns_76 k19 this x2 x3 x4 x5) 76 [some (va_rf (some this)), none, some (va_rf x2), some (va_rf x3), some (.int x4), some (.int x5)] [] := by
  unfold X9_writeRuns_76
  refine sn_aload_n (v := (some this)) (pc' := 77) dX9_writeRuns_76 rfl rfl rfl ?_
  refine sn_aload_n (v := x2) (pc' := 78) dX9_writeRuns_77 rfl rfl rfl ?_
  refine sn_aload_n (v := x3) (pc' := 79) dX9_writeRuns_78 rfl rfl rfl ?_
  refine sn_iload (v := x4) (pc' := 81) dX9_writeRuns_79 rfl rfl ?_
  refine sn_cV (r := x3) (st := [va_rf x2, va_rf (some this)]) (As := [.int x4]) (st2 := (fun v => .int v :: [va_rf x2, va_rf (some this)])) (pc' := 84) ci_9 (fun t => c_X8_get G t x4) cw_X8_get rfl rfl tw1079 tw497 tw496 rfl rfl (cat_q (cat_q cat_nil)) rfl (fun _ => rfl) dX9_writeRuns_81 rfl (fun v1 => ?_)
  refine sn_cV (r := (some this)) (st := []) (As := [va_rf x2, .int v1]) (st2 := (fun _ => [])) (pc' := 87) ci_10 (fun t => c_X9_writeName G t x2 v1) cw_X9_writeName rfl rfl tw1081 pw35 tw1083 rfl rfl cat_nil rfl (fun _ => rfl) dX9_writeRuns_84 rfl (fun _ => ?_)
  refine sn_iload (v := x5) (pc' := 89) dX9_writeRuns_87 rfl rfl ?_
  refine sn_iload (v := x4) (pc' := 91) dX9_writeRuns_89 rfl rfl ?_
  refine sn_ic_le (pt := 115) (pf := 94) dX9_writeRuns_91 rfl rfl ?_ ?_
  · exact sn_weak (le_s (le_n (le_s (le_s (le_n (le_s le_e)))))) (s_X9_writeRuns_115 G k19 hk19 this x2 x3 x5)
  · refine sn_aload_n (v := (some this)) (pc' := 95) dX9_writeRuns_94 rfl rfl rfl ?_
    refine sn_gR (k := 0) (pc' := 98) ci_10 rfl (Or.inl tw265) dX9_writeRuns_95 rfl (fun v2 => ?_)
    refine sn_bipush (v := (45 : Int32)) (pc' := 100) dX9_writeRuns_98 rfl (by decide) ?_
    refine sn_cV (r := v2) (st := []) (As := [.int (45 : Int32)]) (st2 := (fun v => va_rf v :: [])) (pc' := 103) ci_1 (fun t => c_J4_append_cf468 G t (45 : Int32)) cw_J4_append_cf468 rfl rfl tw656 tw658 tw657 rfl rfl cat_nil rfl (fun _ => rfl) dX9_writeRuns_100 rfl (fun v3 => ?_)
    refine sn_pop (pc' := 104) dX9_writeRuns_103 rfl (cat_rf _) ?_
    refine sn_aload_n (v := (some this)) (pc' := 105) dX9_writeRuns_104 rfl rfl rfl ?_
    refine sn_aload_n (v := x2) (pc' := 106) dX9_writeRuns_105 rfl rfl rfl ?_
    refine sn_aload_n (v := x3) (pc' := 107) dX9_writeRuns_106 rfl rfl rfl ?_
    refine sn_iload (v := x5) (pc' := 109) dX9_writeRuns_107 rfl rfl ?_
    refine sn_cV (r := x3) (st := [va_rf x2, va_rf (some this)]) (As := [.int x5]) (st2 := (fun v => .int v :: [va_rf x2, va_rf (some this)])) (pc' := 112) ci_9 (fun t => c_X8_get G t x5) cw_X8_get rfl rfl tw1079 tw497 tw496 rfl rfl (cat_q (cat_q cat_nil)) rfl (fun _ => rfl) dX9_writeRuns_109 rfl (fun v4 => ?_)
    refine sn_cV (r := (some this)) (st := []) (As := [va_rf x2, .int v4]) (st2 := (fun _ => [])) (pc' := 115) ci_10 (fun t => c_X9_writeName G t x2 v4) cw_X9_writeName rfl rfl tw1081 pw35 tw1083 rfl rfl cat_nil rfl (fun _ => rfl) dX9_writeRuns_112 rfl (fun _ => ?_)
    exact sn_weak (le_s (le_n (le_s (le_s (le_n (le_s le_e)))))) (s_X9_writeRuns_115 G k19 hk19 this x2 x3 x5)
set_option maxRecDepth 100000 in
set_option maxHeartbeats 4000000 in
theorem s_X9_writeRuns_61 (G : GG) (k19 : Nat → Option Nat → Option Nat → Int32 → Int32 → MM Unit) (hk19 : ∀ (this : Nat) (x2 : Option Nat) (x3 : Option Nat) (x4 : Int32) (x5 : Int32), Sn G yX9_writeRuns cX9_writeRuns 6 none 8 174 (fun _ : Unit => none) (k19 this x2 x3 x4 x5) 19 [some (va_rf (some this)), none, some (va_rf x2), some (va_rf x3), some (.int x4), some (.int x5)] []) (this : Nat) (x2 : Option Nat) (x3 : Option Nat) (x4 : Int32) (x5 : Int32) : Sn G yX9_writeRuns cX9_writeRuns 6 none 8 174 (fun _ : Unit => none) (X9_writeRuns_61 k19 this x2 x3 x4 x5) 61 [some (va_rf (some this)), none, some (va_rf x2), some (va_rf x3), some (.int x4), some (.int x5)] [] := by
  unfold X9_writeRuns_61
  refine sn_iload (v := x4) (pc' := 63) dX9_writeRuns_61 rfl rfl ?_
  refine sn_if_le (pt := 76) (pf := 66) dX9_writeRuns_63 rfl rfl ?_ ?_
  · exact sn_weak (le_s (le_n (le_s (le_s (le_s (le_s le_e)))))) (s_X9_writeRuns_76 G k19 hk19 this x2 x3 x4 x5)
  · refine sn_aload_n (v := (some this)) (pc' := 67) dX9_writeRuns_66 rfl rfl rfl ?_
    refine sn_gR (k := 0) (pc' := 70) ci_10 rfl (Or.inl tw265) dX9_writeRuns_67 rfl (fun v1 => ?_)
    refine sn_kS (i := 7) (pc' := 72) (tx := ", ") (by decide +kernel) dX9_writeRuns_70 rfl (fun v2 => ?_)
    refine sn_cV (r := v1) (st := []) (As := [va_rf v2]) (st2 := (fun v => va_rf v :: [])) (pc' := 75) ci_1 (fun t => c_J4_append_15ec4 G t v2) cw_J4_append_15ec4 rfl rfl tw705 tw707 tw706 rfl rfl cat_nil rfl (fun _ => rfl) dX9_writeRuns_72 rfl (fun v3 => ?_)
    refine sn_pop (pc' := 76) dX9_writeRuns_75 rfl (cat_rf _) ?_
    exact sn_weak (le_s (le_n (le_s (le_s (le_s (le_s le_e)))))) (s_X9_writeRuns_76 G k19 hk19 this x2 x3 x4 x5)
set_option maxRecDepth 100000 in
set_option maxHeartbeats 4000000 in
theorem s_X9_writeRuns_19_st (G : GG)   (k19 : Nat → Option Nat → Option Nat → Int32 → Int32 → MM Unit) (hk19 : ∀ (this : Nat) (x2 : Option Nat) (x3 : Option Nat) (x4 : Int32) (x5 : Int32), Sn G yX9_writeRuns cX9_writeRuns 6 none 8 174 (fun _ : Unit => none) (k19 this x2 x3 x4 x5) 19 [some (va_rf (some this)), none, some (va_rf x2), some (va_rf x3), some (.int x4), some (.int x5)] []) (this : Nat) (x2 : Option Nat) (x3 : Option Nat) (x4 : Int32) (x5 : Int32) : Sn G yX9_writeRuns cX9_writeRuns 6 none 8 174 (fun _ : Unit => none) (X9_writeRuns_19_st  k19 this x2 x3 x4 x5) 19 [some (va_rf (some this)), none, some (va_rf x2), some (va_rf x3), some (.int x4), some (.int x5)] [] := by
  unfold X9_writeRuns_19_st
  refine sn_iload (v := x5) (pc' := 21) dX9_writeRuns_19 rfl rfl ?_
  refine sn_aload_n (v := x3) (pc' := 22) dX9_writeRuns_21 rfl rfl rfl ?_
  refine sn_gI (k := 1) (pc' := 25) ci_9 rfl (Or.inr ⟨_, nw56⟩) dX9_writeRuns_22 rfl (fun v1 => ?_)
  refine sn_ic_ge (pt := 127) (pf := 28) dX9_writeRuns_25 rfl rfl ?_ ?_
  · exact sn_vret dX9_writeRuns_127 rfl
  · refine sn_iload (v := x5) (pc' := 30) dX9_writeRuns_28 rfl rfl ?_
    refine sn_iconst (v := (1 : Int32)) (pc' := 31) dX9_writeRuns_30 rfl (by decide) ?_
    refine sn_iadd (pc' := 32) dX9_writeRuns_31 rfl ?_
    refine sn_aload_n (v := x3) (pc' := 33) dX9_writeRuns_32 rfl rfl rfl ?_
    refine sn_gI (k := 1) (pc' := 36) ci_9 rfl (Or.inr ⟨_, nw56⟩) dX9_writeRuns_33 rfl (fun v2 => ?_)
    refine sn_ic_ge (pt := 61) (pf := 39) dX9_writeRuns_36 rfl rfl ?_ ?_
    · exact sn_weak (le_s (le_n (le_s (le_s (le_s (le_s le_e)))))) (s_X9_writeRuns_61 G k19 hk19 this x2 x3 x4 x5)
    · refine sn_aload_n (v := x3) (pc' := 40) dX9_writeRuns_39 rfl rfl rfl ?_
      refine sn_iload (v := x5) (pc' := 42) dX9_writeRuns_40 rfl rfl ?_
      refine sn_iconst (v := (1 : Int32)) (pc' := 43) dX9_writeRuns_42 rfl (by decide) ?_
      refine sn_iadd (pc' := 44) dX9_writeRuns_43 rfl ?_
      refine sn_cV (r := x3) (st := []) (As := [.int (x5 + (1 : Int32))]) (st2 := (fun v => .int v :: [])) (pc' := 47) ci_9 (fun t => c_X8_get G t (x5 + (1 : Int32))) cw_X8_get rfl rfl tw1079 tw497 tw496 rfl rfl cat_nil rfl (fun _ => rfl) dX9_writeRuns_44 rfl (fun v3 => ?_)
      refine sn_aload_n (v := x3) (pc' := 48) dX9_writeRuns_47 rfl rfl rfl ?_
      refine sn_iload (v := x5) (pc' := 50) dX9_writeRuns_48 rfl rfl ?_
      refine sn_cV (r := x3) (st := [.int v3]) (As := [.int x5]) (st2 := (fun v => .int v :: [.int v3])) (pc' := 53) ci_9 (fun t => c_X8_get G t x5) cw_X8_get rfl rfl tw1079 tw497 tw496 rfl rfl (cat_i cat_nil) rfl (fun _ => rfl) dX9_writeRuns_50 rfl (fun v4 => ?_)
      refine sn_iconst (v := (1 : Int32)) (pc' := 54) dX9_writeRuns_53 rfl (by decide) ?_
      refine sn_iadd (pc' := 55) dX9_writeRuns_54 rfl ?_
      refine sn_ic_ne (pt := 61) (pf := 58) dX9_writeRuns_55 rfl rfl ?_ ?_
      · refine sn_goto (pc' := 121) dX9_writeRuns_58 rfl ?_
        exact sn_weak (le_s (le_n (le_s (le_s (le_s (le_s le_e)))))) (s_X9_writeRuns_121 G k19 hk19 this x2 x3 x4 x5)
      · exact sn_weak (le_s (le_n (le_s (le_s (le_s (le_s le_e)))))) (s_X9_writeRuns_61 G k19 hk19 this x2 x3 x4 x5)
set_option maxRecDepth 100000 in
set_option maxHeartbeats 4000000 in
theorem s_X9_writeRuns_19 (G : GG)   : ∀ (n : Nat) (this : Nat) (x2 : Option Nat) (x3 : Option Nat) (x4 : Int32) (x5 : Int32), Sn G yX9_writeRuns cX9_writeRuns 6 none 8 174 (fun _ : Unit => none) (X9_writeRuns_19  n this x2 x3 x4 x5) 19 [some (va_rf (some this)), none, some (va_rf x2), some (va_rf x3), some (.int x4), some (.int x5)] [] := by
  intro n
  induction n with
  | zero => intro this x2 x3 x4 x5; exact sn_mf
  | succ n ih => intro this x2 x3 x4 x5; exact s_X9_writeRuns_19_st G   (X9_writeRuns_19  n) ih this x2 x3 x4 x5
set_option maxRecDepth 100000 in
set_option maxHeartbeats 4000000 in
theorem s_X9_writeRuns (G : GG) (this : Nat) (a1 : Option Nat) (a2 : Option Nat) (a3 : Option Nat) : Sn G yX9_writeRuns cX9_writeRuns 6 none 8 174 (fun _ : Unit => none) (X9_writeRuns this a1 a2 a3) 0 [some (va_rf (some this)), some (va_rf a1), some (va_rf a2), some (va_rf a3), none, none] [] := by
  unfold X9_writeRuns
  refine sn_aload_n (v := a3) (pc' := 1) dX9_writeRuns_0 rfl rfl rfl ?_
  refine sn_gI (k := 1) (pc' := 4) ci_9 rfl (Or.inr ⟨_, nw56⟩) dX9_writeRuns_1 rfl (fun v1 => ?_)
  refine sn_if_ne (pt := 8) (pf := 7) dX9_writeRuns_4 rfl rfl ?_ ?_
  · exact sn_vret dX9_writeRuns_7 rfl
  · refine sn_aload_n (v := (some this)) (pc' := 9) dX9_writeRuns_8 rfl rfl rfl ?_
    refine sn_aload_n (v := a1) (pc' := 10) dX9_writeRuns_9 rfl rfl rfl ?_
    refine sn_cV (r := (some this)) (st := []) (As := [va_rf a1]) (st2 := (fun _ => [])) (pc' := 13) ci_10 (fun t => c_X9_writeHead G t a1) cw_X9_writeHead rfl rfl tw1074 pw34 tw1076 rfl rfl cat_nil rfl (fun _ => rfl) dX9_writeRuns_10 rfl (fun _ => ?_)
    refine sn_iconst (v := (0 : Int32)) (pc' := 14) dX9_writeRuns_13 rfl (by decide) ?_
    refine sn_istore (v := (0 : Int32)) (L' := [some (va_rf (some this)), some (va_rf a1), some (va_rf a2), some (va_rf a3), some (.int (0 : Int32)), none]) (pc' := 16) dX9_writeRuns_14 rfl rfl rfl ?_
    refine sn_iconst (v := (0 : Int32)) (pc' := 17) dX9_writeRuns_16 rfl (by decide) ?_
    refine sn_istore (v := (0 : Int32)) (L' := [some (va_rf (some this)), some (va_rf a1), some (va_rf a2), some (va_rf a3), some (.int (0 : Int32)), some (.int (0 : Int32))]) (pc' := 19) dX9_writeRuns_17 rfl rfl rfl ?_
    exact sn_weak (le_s (le_n (le_s (le_s (le_s (le_s le_e)))))) (s_X9_writeRuns_19 G LFU this a2 a3 (0 : Int32) (0 : Int32))
theorem c_X9_writeRuns (G : GG) (this : Nat) (a1 : Option Nat) (a2 : Option Nat) (a3 : Option Nat) : Cal G yX9_writeRuns cX9_writeRuns 6 none 8 174 (fun _ : Unit => none) (X9_writeRuns this a1 a2 a3) [.ref this, va_rf a1, va_rf a2, va_rf a3] :=
  Cal.of (by decide) (cat_t (cat_q (cat_q (cat_q cat_nil)))) rfl (sn_weak (le_s (le_s (le_s (le_s (le_z (le_z le_e)))))) (s_X9_writeRuns G this a1 a2 a3))
theorem cw_X9_writeRuns : CW yX9_writeRuns cX9_writeRuns 6 none 3 := ⟨tw1073, tw10, by decide, by decide +kernel⟩
/-! X9_writeMoved -/
theorem dX9_writeMoved_0 : decode cX9_writeMoved 0 = .ok (.aload_n 1, 1) := by decide +kernel
theorem dX9_writeMoved_1 : decode cX9_writeMoved 1 = .ok (.getfield 119, 3) := by decide +kernel
theorem dX9_writeMoved_4 : decode cX9_writeMoved 4 = .ok (.getfield 103, 3) := by decide +kernel
theorem dX9_writeMoved_7 : decode cX9_writeMoved 7 = .ok (.ifCond .ne 4, 3) := by decide +kernel
theorem dX9_writeMoved_10 : decode cX9_writeMoved 10 = .ok (.return_, 1) := by decide +kernel
theorem dX9_writeMoved_11 : decode cX9_writeMoved 11 = .ok (.aload_n 0, 1) := by decide +kernel
theorem dX9_writeMoved_12 : decode cX9_writeMoved 12 = .ok (.ldc 122, 2) := by decide +kernel
theorem dX9_writeMoved_14 : decode cX9_writeMoved 14 = .ok (.invokevirtual 107, 3) := by decide +kernel
theorem dX9_writeMoved_17 : decode cX9_writeMoved 17 = .ok (.iconst 0, 1) := by decide +kernel
theorem dX9_writeMoved_18 : decode cX9_writeMoved 18 = .ok (.istore_n 2, 1) := by decide +kernel
theorem dX9_writeMoved_19 : decode cX9_writeMoved 19 = .ok (.iload_n 2, 1) := by decide +kernel
theorem dX9_writeMoved_20 : decode cX9_writeMoved 20 = .ok (.aload_n 1, 1) := by decide +kernel
theorem dX9_writeMoved_21 : decode cX9_writeMoved 21 = .ok (.getfield 119, 3) := by decide +kernel
theorem dX9_writeMoved_24 : decode cX9_writeMoved 24 = .ok (.getfield 103, 3) := by decide +kernel
theorem dX9_writeMoved_27 : decode cX9_writeMoved 27 = .ok (.if_icmp .ge 46, 3) := by decide +kernel
theorem dX9_writeMoved_30 : decode cX9_writeMoved 30 = .ok (.iload_n 2, 1) := by decide +kernel
theorem dX9_writeMoved_31 : decode cX9_writeMoved 31 = .ok (.ifCond .le 13, 3) := by decide +kernel
theorem dX9_writeMoved_34 : decode cX9_writeMoved 34 = .ok (.aload_n 0, 1) := by decide +kernel
theorem dX9_writeMoved_35 : decode cX9_writeMoved 35 = .ok (.getfield 12, 3) := by decide +kernel
theorem dX9_writeMoved_38 : decode cX9_writeMoved 38 = .ok (.ldc 114, 2) := by decide +kernel
theorem dX9_writeMoved_40 : decode cX9_writeMoved 40 = .ok (.invokevirtual 116, 3) := by decide +kernel
theorem dX9_writeMoved_43 : decode cX9_writeMoved 43 = .ok (.pop, 1) := by decide +kernel
theorem dX9_writeMoved_44 : decode cX9_writeMoved 44 = .ok (.aload_n 0, 1) := by decide +kernel
theorem dX9_writeMoved_45 : decode cX9_writeMoved 45 = .ok (.aload_n 1, 1) := by decide +kernel
theorem dX9_writeMoved_46 : decode cX9_writeMoved 46 = .ok (.getfield 46, 3) := by decide +kernel
theorem dX9_writeMoved_49 : decode cX9_writeMoved 49 = .ok (.aload_n 1, 1) := by decide +kernel
theorem dX9_writeMoved_50 : decode cX9_writeMoved 50 = .ok (.getfield 124, 3) := by decide +kernel
theorem dX9_writeMoved_53 : decode cX9_writeMoved 53 = .ok (.aload_n 1, 1) := by decide +kernel
theorem dX9_writeMoved_54 : decode cX9_writeMoved 54 = .ok (.getfield 119, 3) := by decide +kernel
theorem dX9_writeMoved_57 : decode cX9_writeMoved 57 = .ok (.iload_n 2, 1) := by decide +kernel
theorem dX9_writeMoved_58 : decode cX9_writeMoved 58 = .ok (.invokevirtual 111, 3) := by decide +kernel
theorem dX9_writeMoved_61 : decode cX9_writeMoved 61 = .ok (.invokevirtual 111, 3) := by decide +kernel
theorem dX9_writeMoved_64 : decode cX9_writeMoved 64 = .ok (.invokevirtual 22, 3) := by decide +kernel
theorem dX9_writeMoved_67 : decode cX9_writeMoved 67 = .ok (.iinc 2 1, 3) := by decide +kernel
theorem dX9_writeMoved_70 : decode cX9_writeMoved 70 = .ok (.goto (-51), 3) := by decide +kernel
theorem dX9_writeMoved_73 : decode cX9_writeMoved 73 = .ok (.return_, 1) := by decide +kernel
def X9_writeMoved_44 (k19 : Nat → Option Nat → Int32 → MM Unit) (this : Nat) (x1 : Option Nat) (x2 : Int32) : MM Unit :=
  mb (gR 4 x1 1) fun v1 =>
  mb (gR 4 x1 2) fun v2 =>
  mb (gR 4 x1 5) fun v3 =>
  mb (wc 9 v3 fun t => X8_get t x2) fun v4 =>
  mb (wc 9 v2 fun t => X8_get t v4) fun v5 =>
  mb (wc 10 (some this) fun t => X9_writeName t v1 v5) fun _ =>
  (k19 this x1 (x2 + (1 : Int32)))
def X9_writeMoved_19_st  (k19 : Nat → Option Nat → Int32 → MM Unit) (this : Nat) (x1 : Option Nat) (x2 : Int32) : MM Unit :=
  mb (gR 4 x1 5) fun v1 =>
  mb (gI 9 v1 1) fun v2 =>
  if v2 ≤ x2 then (mr ()) else (if x2 ≤ 0 then ((X9_writeMoved_44 k19 this x1 x2)) else (mb (gR 10 (some this) 0) fun v3 =>
  mb (kR 7) fun v4 =>
  mb (wc 1 v3 fun t => J4_append_15ec4 t v4) fun v5 =>
  (X9_writeMoved_44 k19 this x1 x2)))
def X9_writeMoved_19  : Nat → Nat → Option Nat → Int32 → MM Unit
  | 0 => fun _ _ _ => mf
  | n + 1 => fun this x1 x2 => X9_writeMoved_19_st  (X9_writeMoved_19  n) this x1 x2
def X9_writeMoved (this : Nat) (a1 : Option Nat) : MM Unit :=
  mb (gR 4 a1 5) fun v1 =>
  mb (gI 9 v1 1) fun v2 =>
  if v2 = 0 then (mr ()) else (mb (kR 9) fun v3 =>
  mb (wc 10 (some this) fun t => X9_writeHead t v3) fun _ =>
  (X9_writeMoved_19 LFU this a1 (0 : Int32)))
set_option maxRecDepth 100000 in
set_option maxHeartbeats 4000000 in
theorem s_X9_writeMoved_44 (G : GG) (k19 : Nat → Option Nat → Int32 → MM Unit) (hk19 : ∀ (this : Nat) (x1 : Option Nat) (x2 : Int32), Sn G yX9_writeMoved cX9_writeMoved 3 none 8 174 (fun _ : Unit => none) (k19 this x1 x2) 19 [some (va_rf (some this)), some (va_rf x1), some (.int x2)] []) (this : Nat) (x1 : Option Nat) (x2 : Int32) : Sn G yX9_writeMoved cX9_writeMoved 3 none 8 174 (fun _ : Unit => none) (X9_writeMoved_44 k19 this x1 x2) 44 [some (va_rf (some this)), some (va_rf x1), some (.int x2)] [] := by
  unfold X9_writeMoved_44
  refine sn_aload_n (v := (some this)) (pc' := 45) dX9_writeMoved_44 rfl rfl rfl ?_
  refine sn_aload_n (v := x1) (pc' := 46) dX9_writeMoved_45 rfl rfl rfl ?_
  refine sn_gR (k := 1) (pc' := 49) ci_4 rfl (Or.inr ⟨_, nw990⟩) dX9_writeMoved_46 rfl (fun v1 => ?_)
  refine sn_aload_n (v := x1) (pc' := 50) dX9_writeMoved_49 rfl rfl rfl ?_
  refine sn_gR (k := 2) (pc' := 53) ci_4 rfl (Or.inr ⟨_, nw994⟩) dX9_writeMoved_50 rfl (fun v2 => ?_)
  refine sn_aload_n (v := x1) (pc' := 54) dX9_writeMoved_53 rfl rfl rfl ?_
  refine sn_gR (k := 5) (pc' := 57) ci_4 rfl (Or.inr ⟨_, nw1003⟩) dX9_writeMoved_54 rfl (fun v3 => ?_)
  refine sn_iload_n (v := x2) (pc' := 58) dX9_writeMoved_57 rfl rfl rfl ?_
  refine sn_cV (r := v3) (st := [va_rf v2, va_rf v1, va_rf (some this)]) (As := [.int x2]) (st2 := (fun v => .int v :: [va_rf v2, va_rf v1, va_rf (some this)])) (pc' := 61) ci_9 (fun t => c_X8_get G t x2) cw_X8_get rfl rfl tw1079 tw497 tw496 rfl rfl (cat_q (cat_q (cat_q cat_nil))) rfl (fun _ => rfl) dX9_writeMoved_58 rfl (fun v4 => ?_)
  refine sn_cV (r := v2) (st := [va_rf v1, va_rf (some this)]) (As := [.int v4]) (st2 := (fun v => .int v :: [va_rf v1, va_rf (some this)])) (pc' := 64) ci_9 (fun t => c_X8_get G t v4) cw_X8_get rfl rfl tw1079 tw497 tw496 rfl rfl (cat_q (cat_q cat_nil)) rfl (fun _ => rfl) dX9_writeMoved_61 rfl (fun v5 => ?_)
  refine sn_cV (r := (some this)) (st := []) (As := [va_rf v1, .int v5]) (st2 := (fun _ => [])) (pc' := 67) ci_10 (fun t => c_X9_writeName G t v1 v5) cw_X9_writeName rfl rfl tw1081 pw35 tw1083 rfl rfl cat_nil rfl (fun _ => rfl) dX9_writeMoved_64 rfl (fun _ => ?_)
  refine sn_iinc (v := x2) (w := 1) (L' := [some (va_rf (some this)), some (va_rf x1), some (.int (x2 + (1 : Int32)))]) (pc' := 70) dX9_writeMoved_67 rfl rfl rfl (by decide) rfl ?_
  refine sn_goto (pc' := 19) dX9_writeMoved_70 rfl ?_
  exact sn_weak (le_s (le_s (le_s le_e))) (hk19 this x1 (x2 + (1 : Int32)))
set_option maxRecDepth 100000 in
set_option maxHeartbeats 4000000 in
theorem s_X9_writeMoved_19_st (G : GG)   (k19 : Nat → Option Nat → Int32 → MM Unit) (hk19 : ∀ (this : Nat) (x1 : Option Nat) (x2 : Int32), Sn G yX9_writeMoved cX9_writeMoved 3 none 8 174 (fun _ : Unit => none) (k19 this x1 x2) 19 [some (va_rf (some this)), some (va_rf x1), some (.int x2)] []) (this : Nat) (x1 : Option Nat) (x2 : Int32) : Sn G yX9_writeMoved cX9_writeMoved 3 none 8 174 (fun _ : Unit => none) (X9_writeMoved_19_st  k19 this x1 x2) 19 [some (va_rf (some this)), some (va_rf x1), some (.int x2)] [] := by
  unfold X9_writeMoved_19_st
  refine sn_iload_n (v := x2) (pc' := 20) dX9_writeMoved_19 rfl rfl rfl ?_
  refine sn_aload_n (v := x1) (pc' := 21) dX9_writeMoved_20 rfl rfl rfl ?_
  refine sn_gR (k := 5) (pc' := 24) ci_4 rfl (Or.inr ⟨_, nw1003⟩) dX9_writeMoved_21 rfl (fun v1 => ?_)
  refine sn_gI (k := 1) (pc' := 27) ci_9 rfl (Or.inr ⟨_, nw56⟩) dX9_writeMoved_24 rfl (fun v2 => ?_)
  refine sn_ic_ge (pt := 73) (pf := 30) dX9_writeMoved_27 rfl rfl ?_ ?_
  · exact sn_vret dX9_writeMoved_73 rfl
  · refine sn_iload_n (v := x2) (pc' := 31) dX9_writeMoved_30 rfl rfl rfl ?_
    refine sn_if_le (pt := 44) (pf := 34) dX9_writeMoved_31 rfl rfl ?_ ?_
    · exact sn_weak (le_s (le_s (le_s le_e))) (s_X9_writeMoved_44 G k19 hk19 this x1 x2)
    · refine sn_aload_n (v := (some this)) (pc' := 35) dX9_writeMoved_34 rfl rfl rfl ?_
      refine sn_gR (k := 0) (pc' := 38) ci_10 rfl (Or.inl tw265) dX9_writeMoved_35 rfl (fun v3 => ?_)
      refine sn_kS (i := 7) (pc' := 40) (tx := ", ") (by decide +kernel) dX9_writeMoved_38 rfl (fun v4 => ?_)
      refine sn_cV (r := v3) (st := []) (As := [va_rf v4]) (st2 := (fun v => va_rf v :: [])) (pc' := 43) ci_1 (fun t => c_J4_append_15ec4 G t v4) cw_J4_append_15ec4 rfl rfl tw705 tw707 tw706 rfl rfl cat_nil rfl (fun _ => rfl) dX9_writeMoved_40 rfl (fun v5 => ?_)
      refine sn_pop (pc' := 44) dX9_writeMoved_43 rfl (cat_rf _) ?_
      exact sn_weak (le_s (le_s (le_s le_e))) (s_X9_writeMoved_44 G k19 hk19 this x1 x2)
set_option maxRecDepth 100000 in
set_option maxHeartbeats 4000000 in
theorem s_X9_writeMoved_19 (G : GG)   : ∀ (n : Nat) (this : Nat) (x1 : Option Nat) (x2 : Int32), Sn G yX9_writeMoved cX9_writeMoved 3 none 8 174 (fun _ : Unit => none) (X9_writeMoved_19  n this x1 x2) 19 [some (va_rf (some this)), some (va_rf x1), some (.int x2)] [] := by
  intro n
  induction n with
  | zero => intro this x1 x2; exact sn_mf
  | succ n ih => intro this x1 x2; exact s_X9_writeMoved_19_st G   (X9_writeMoved_19  n) ih this x1 x2
set_option maxRecDepth 100000 in
set_option maxHeartbeats 4000000 in
theorem s_X9_writeMoved (G : GG) (this : Nat) (a1 : Option Nat) : Sn G yX9_writeMoved cX9_writeMoved 3 none 8 174 (fun _ : Unit => none) (X9_writeMoved this a1) 0 [some (va_rf (some this)), some (va_rf a1), none] [] := by
  unfold X9_writeMoved
  refine sn_aload_n (v := a1) (pc' := 1) dX9_writeMoved_0 rfl rfl rfl ?_
  refine sn_gR (k := 5) (pc' := 4) ci_4 rfl (Or.inr ⟨_, nw1003⟩) dX9_writeMoved_1 rfl (fun v1 => ?_)
  refine sn_gI (k := 1) (pc' := 7) ci_9 rfl (Or.inr ⟨_, nw56⟩) dX9_writeMoved_4 rfl (fun v2 => ?_)
  refine sn_if_ne (pt := 11) (pf := 10) dX9_writeMoved_7 rfl rfl ?_ ?_
  · exact sn_vret dX9_writeMoved_10 rfl
  · refine sn_aload_n (v := (some this)) (pc' := 12) dX9_writeMoved_11 rfl rfl rfl ?_
    refine sn_kS (i := 9) (pc' := 14) (tx := "moved ") (by decide +kernel) dX9_writeMoved_12 rfl (fun v3 => ?_)
    refine sn_cV (r := (some this)) (st := []) (As := [va_rf v3]) (st2 := (fun _ => [])) (pc' := 17) ci_10 (fun t => c_X9_writeHead G t v3) cw_X9_writeHead rfl rfl tw1074 pw34 tw1076 rfl rfl cat_nil rfl (fun _ => rfl) dX9_writeMoved_14 rfl (fun _ => ?_)
    refine sn_iconst (v := (0 : Int32)) (pc' := 18) dX9_writeMoved_17 rfl (by decide) ?_
    refine sn_istore_n (v := (0 : Int32)) (L' := [some (va_rf (some this)), some (va_rf a1), some (.int (0 : Int32))]) (pc' := 19) dX9_writeMoved_18 rfl rfl rfl rfl ?_
    exact sn_weak (le_s (le_s (le_s le_e))) (s_X9_writeMoved_19 G LFU this a1 (0 : Int32))
theorem c_X9_writeMoved (G : GG) (this : Nat) (a1 : Option Nat) : Cal G yX9_writeMoved cX9_writeMoved 3 none 8 174 (fun _ : Unit => none) (X9_writeMoved this a1) [.ref this, va_rf a1] :=
  Cal.of (by decide) (cat_t (cat_q cat_nil)) rfl (sn_weak (le_s (le_s (le_z le_e))) (s_X9_writeMoved G this a1))
theorem cw_X9_writeMoved : CW yX9_writeMoved cX9_writeMoved 3 none 1 := ⟨tw1090, tw10, by decide, by decide +kernel⟩
/-! X9_noteText -/
theorem dX9_noteText_0 : decode cX9_noteText 0 = .ok (.aload_n 0, 1) := by decide +kernel
theorem dX9_noteText_1 : decode cX9_noteText 1 = .ok (.getfield 12, 3) := by decide +kernel
theorem dX9_noteText_4 : decode cX9_noteText 4 = .ok (.iconst 0, 1) := by decide +kernel
theorem dX9_noteText_5 : decode cX9_noteText 5 = .ok (.invokevirtual 18, 3) := by decide +kernel
theorem dX9_noteText_8 : decode cX9_noteText 8 = .ok (.aload_n 0, 1) := by decide +kernel
theorem dX9_noteText_9 : decode cX9_noteText 9 = .ok (.ldc 44, 2) := by decide +kernel
theorem dX9_noteText_11 : decode cX9_noteText 11 = .ok (.aload_n 1, 1) := by decide +kernel
theorem dX9_noteText_12 : decode cX9_noteText 12 = .ok (.getfield 46, 3) := by decide +kernel
theorem dX9_noteText_15 : decode cX9_noteText 15 = .ok (.aload_n 1, 1) := by decide +kernel
theorem dX9_noteText_16 : decode cX9_noteText 16 = .ok (.getfield 52, 3) := by decide +kernel
theorem dX9_noteText_19 : decode cX9_noteText 19 = .ok (.invokevirtual 56, 3) := by decide +kernel
theorem dX9_noteText_22 : decode cX9_noteText 22 = .ok (.aload_n 0, 1) := by decide +kernel
theorem dX9_noteText_23 : decode cX9_noteText 23 = .ok (.ldc 60, 2) := by decide +kernel
theorem dX9_noteText_25 : decode cX9_noteText 25 = .ok (.aload_n 1, 1) := by decide +kernel
theorem dX9_noteText_26 : decode cX9_noteText 26 = .ok (.getfield 46, 3) := by decide +kernel
theorem dX9_noteText_29 : decode cX9_noteText 29 = .ok (.aload_n 1, 1) := by decide +kernel
theorem dX9_noteText_30 : decode cX9_noteText 30 = .ok (.getfield 62, 3) := by decide +kernel
theorem dX9_noteText_33 : decode cX9_noteText 33 = .ok (.invokevirtual 56, 3) := by decide +kernel
theorem dX9_noteText_36 : decode cX9_noteText 36 = .ok (.aload_n 0, 1) := by decide +kernel
theorem dX9_noteText_37 : decode cX9_noteText 37 = .ok (.aload_n 1, 1) := by decide +kernel
theorem dX9_noteText_38 : decode cX9_noteText 38 = .ok (.invokevirtual 65, 3) := by decide +kernel
theorem dX9_noteText_41 : decode cX9_noteText 41 = .ok (.aload_n 0, 1) := by decide +kernel
theorem dX9_noteText_42 : decode cX9_noteText 42 = .ok (.getfield 12, 3) := by decide +kernel
theorem dX9_noteText_45 : decode cX9_noteText 45 = .ok (.invokevirtual 26, 3) := by decide +kernel
theorem dX9_noteText_48 : decode cX9_noteText 48 = .ok (.areturn, 1) := by decide +kernel
def X9_noteText (this : Nat) (a1 : Option Nat) : MM (Option Nat) :=
  mb (gR 10 (some this) 0) fun v1 =>
  mb (wc 1 v1 fun t => J4_setLength_d00df t (0 : Int32)) fun _ =>
  mb (kR 5) fun v2 =>
  mb (gR 4 a1 1) fun v3 =>
  mb (gR 4 a1 3) fun v4 =>
  mb (wc 10 (some this) fun t => X9_writeRuns t v2 v3 v4) fun _ =>
  mb (kR 8) fun v5 =>
  mb (gR 4 a1 1) fun v6 =>
  mb (gR 4 a1 4) fun v7 =>
  mb (wc 10 (some this) fun t => X9_writeRuns t v5 v6 v7) fun _ =>
  mb (wc 10 (some this) fun t => X9_writeMoved t a1) fun _ =>
  mb (gR 10 (some this) 0) fun v8 =>
  mb (wc 1 v8 fun t => J4_toString_0e30d t ) fun v9 =>
  mr v9
set_option maxRecDepth 100000 in
set_option maxHeartbeats 4000000 in
theorem s_X9_noteText (G : GG) (this : Nat) (a1 : Option Nat) : Sn G yX9_noteText cX9_noteText 2 (some (FieldType.object "java/lang/String")) 9 199 (fun v : Option Nat => some (va_rf v)) (X9_noteText this a1) 0 [some (va_rf (some this)), some (va_rf a1)] [] := by
  unfold X9_noteText
  refine sn_aload_n (v := (some this)) (pc' := 1) dX9_noteText_0 rfl rfl rfl ?_
  refine sn_gR (k := 0) (pc' := 4) ci_10 rfl (Or.inl tw265) dX9_noteText_1 rfl (fun v1 => ?_)
  refine sn_iconst (v := (0 : Int32)) (pc' := 5) dX9_noteText_4 rfl (by decide) ?_
  refine sn_cV (r := v1) (st := []) (As := [.int (0 : Int32)]) (st2 := (fun _ => [])) (pc' := 8) ci_1 (fun t => c_J4_setLength_d00df G t (0 : Int32)) cw_J4_setLength_d00df rfl rfl tw588 tw590 tw589 rfl rfl cat_nil rfl (fun _ => rfl) dX9_noteText_5 rfl (fun _ => ?_)
  refine sn_aload_n (v := (some this)) (pc' := 9) dX9_noteText_8 rfl rfl rfl ?_
  refine sn_kS (i := 5) (pc' := 11) (tx := "lacks ") (by decide +kernel) dX9_noteText_9 rfl (fun v2 => ?_)
  refine sn_aload_n (v := a1) (pc' := 12) dX9_noteText_11 rfl rfl rfl ?_
  refine sn_gR (k := 1) (pc' := 15) ci_4 rfl (Or.inr ⟨_, nw990⟩) dX9_noteText_12 rfl (fun v3 => ?_)
  refine sn_aload_n (v := a1) (pc' := 16) dX9_noteText_15 rfl rfl rfl ?_
  refine sn_gR (k := 3) (pc' := 19) ci_4 rfl (Or.inr ⟨_, nw998⟩) dX9_noteText_16 rfl (fun v4 => ?_)
  refine sn_cV (r := (some this)) (st := []) (As := [va_rf v2, va_rf v3, va_rf v4]) (st2 := (fun _ => [])) (pc' := 22) ci_10 (fun t => c_X9_writeRuns G t v2 v3 v4) cw_X9_writeRuns rfl rfl tw1070 pw33 tw1072 rfl rfl cat_nil rfl (fun _ => rfl) dX9_noteText_19 rfl (fun _ => ?_)
  refine sn_aload_n (v := (some this)) (pc' := 23) dX9_noteText_22 rfl rfl rfl ?_
  refine sn_kS (i := 8) (pc' := 25) (tx := "twice ") (by decide +kernel) dX9_noteText_23 rfl (fun v5 => ?_)
  refine sn_aload_n (v := a1) (pc' := 26) dX9_noteText_25 rfl rfl rfl ?_
  refine sn_gR (k := 1) (pc' := 29) ci_4 rfl (Or.inr ⟨_, nw990⟩) dX9_noteText_26 rfl (fun v6 => ?_)
  refine sn_aload_n (v := a1) (pc' := 30) dX9_noteText_29 rfl rfl rfl ?_
  refine sn_gR (k := 4) (pc' := 33) ci_4 rfl (Or.inr ⟨_, nw1001⟩) dX9_noteText_30 rfl (fun v7 => ?_)
  refine sn_cV (r := (some this)) (st := []) (As := [va_rf v5, va_rf v6, va_rf v7]) (st2 := (fun _ => [])) (pc' := 36) ci_10 (fun t => c_X9_writeRuns G t v5 v6 v7) cw_X9_writeRuns rfl rfl tw1070 pw33 tw1072 rfl rfl cat_nil rfl (fun _ => rfl) dX9_noteText_33 rfl (fun _ => ?_)
  refine sn_aload_n (v := (some this)) (pc' := 37) dX9_noteText_36 rfl rfl rfl ?_
  refine sn_aload_n (v := a1) (pc' := 38) dX9_noteText_37 rfl rfl rfl ?_
  refine sn_cV (r := (some this)) (st := []) (As := [va_rf a1]) (st2 := (fun _ => [])) (pc' := 41) ci_10 (fun t => c_X9_writeMoved G t a1) cw_X9_writeMoved rfl rfl tw1087 pw36 tw1089 rfl rfl cat_nil rfl (fun _ => rfl) dX9_noteText_38 rfl (fun _ => ?_)
  refine sn_aload_n (v := (some this)) (pc' := 42) dX9_noteText_41 rfl rfl rfl ?_
  refine sn_gR (k := 0) (pc' := 45) ci_10 rfl (Or.inl tw265) dX9_noteText_42 rfl (fun v8 => ?_)
  refine sn_cV (r := v8) (st := []) (As := []) (st2 := (fun v => va_rf v :: [])) (pc' := 48) ci_1 (fun t => c_J4_toString_0e30d G t ) cw_J4_toString_0e30d rfl rfl tw791 tw793 tw792 rfl rfl cat_nil rfl (fun _ => rfl) dX9_noteText_45 rfl (fun v9 => ?_)
  exact sn_aret dX9_noteText_48 rfl (Or.inl ⟨_, rfl⟩)
theorem c_X9_noteText (G : GG) (this : Nat) (a1 : Option Nat) : Cal G yX9_noteText cX9_noteText 2 (some (FieldType.object "java/lang/String")) 9 199 (fun v : Option Nat => some (va_rf v)) (X9_noteText this a1) [.ref this, va_rf a1] :=
  Cal.of (by decide) (cat_t (cat_q cat_nil)) rfl (sn_weak (le_s (le_s le_e)) (s_X9_noteText G this a1))
theorem cw_X9_noteText : CW yX9_noteText cX9_noteText 2 (some (FieldType.object "java/lang/String")) 1 := ⟨tw1068, tw10, by decide, by decide +kernel⟩
/-! X11_keepCopy -/
theorem dX11_keepCopy_0 : decode cX11_keepCopy 0 = .ok (.aload_n 0, 1) := by decide +kernel
theorem dX11_keepCopy_1 : decode cX11_keepCopy 1 = .ok (.getfield 140, 3) := by decide +kernel
theorem dX11_keepCopy_4 : decode cX11_keepCopy 4 = .ok (.aload_n 0, 1) := by decide +kernel
theorem dX11_keepCopy_5 : decode cX11_keepCopy 5 = .ok (.getfield 63, 3) := by decide +kernel
theorem dX11_keepCopy_8 : decode cX11_keepCopy 8 = .ok (.arraylength, 1) := by decide +kernel
theorem dX11_keepCopy_9 : decode cX11_keepCopy 9 = .ok (.if_icmp .ge 7, 3) := by decide +kernel
theorem dX11_keepCopy_12 : decode cX11_keepCopy 12 = .ok (.aload_n 2, 1) := by decide +kernel
theorem dX11_keepCopy_13 : decode cX11_keepCopy 13 = .ok (.ifnonnull 10, 3) := by decide +kernel
theorem dX11_keepCopy_16 : decode cX11_keepCopy 16 = .ok (.aload_n 0, 1) := by decide +kernel
theorem dX11_keepCopy_17 : decode cX11_keepCopy 17 = .ok (.bipush 9, 2) := by decide +kernel
theorem dX11_keepCopy_19 : decode cX11_keepCopy 19 = .ok (.invokevirtual 71, 3) := by decide +kernel
theorem dX11_keepCopy_22 : decode cX11_keepCopy 22 = .ok (.ireturn, 1) := by decide +kernel
theorem dX11_keepCopy_23 : decode cX11_keepCopy 23 = .ok (.new 61, 3) := by decide +kernel
theorem dX11_keepCopy_26 : decode cX11_keepCopy 26 = .ok (.dup, 1) := by decide +kernel
theorem dX11_keepCopy_27 : decode cX11_keepCopy 27 = .ok (.iload_n 1, 1) := by decide +kernel
theorem dX11_keepCopy_28 : decode cX11_keepCopy 28 = .ok (.aload_n 2, 1) := by decide +kernel
theorem dX11_keepCopy_29 : decode cX11_keepCopy 29 = .ok (.aload_n 0, 1) := by decide +kernel
theorem dX11_keepCopy_30 : decode cX11_keepCopy 30 = .ok (.getfield 37, 3) := by decide +kernel
theorem dX11_keepCopy_33 : decode cX11_keepCopy 33 = .ok (.invokespecial 283, 3) := by decide +kernel
theorem dX11_keepCopy_36 : decode cX11_keepCopy 36 = .ok (.astore_n 3, 1) := by decide +kernel
theorem dX11_keepCopy_37 : decode cX11_keepCopy 37 = .ok (.aload_n 0, 1) := by decide +kernel
theorem dX11_keepCopy_38 : decode cX11_keepCopy 38 = .ok (.getfield 44, 3) := by decide +kernel
theorem dX11_keepCopy_41 : decode cX11_keepCopy 41 = .ok (.aload_n 3, 1) := by decide +kernel
theorem dX11_keepCopy_42 : decode cX11_keepCopy 42 = .ok (.invokevirtual 286, 3) := by decide +kernel
theorem dX11_keepCopy_45 : decode cX11_keepCopy 45 = .ok (.aload_n 3, 1) := by decide +kernel
theorem dX11_keepCopy_46 : decode cX11_keepCopy 46 = .ok (.aload_n 0, 1) := by decide +kernel
theorem dX11_keepCopy_47 : decode cX11_keepCopy 47 = .ok (.getfield 51, 3) := by decide +kernel
theorem dX11_keepCopy_50 : decode cX11_keepCopy 50 = .ok (.aload_n 3, 1) := by decide +kernel
theorem dX11_keepCopy_51 : decode cX11_keepCopy 51 = .ok (.invokevirtual 290, 3) := by decide +kernel
theorem dX11_keepCopy_54 : decode cX11_keepCopy 54 = .ok (.putfield 216, 3) := by decide +kernel
theorem dX11_keepCopy_57 : decode cX11_keepCopy 57 = .ok (.aload_n 0, 1) := by decide +kernel
theorem dX11_keepCopy_58 : decode cX11_keepCopy 58 = .ok (.getfield 63, 3) := by decide +kernel
theorem dX11_keepCopy_61 : decode cX11_keepCopy 61 = .ok (.aload_n 0, 1) := by decide +kernel
theorem dX11_keepCopy_62 : decode cX11_keepCopy 62 = .ok (.getfield 140, 3) := by decide +kernel
theorem dX11_keepCopy_65 : decode cX11_keepCopy 65 = .ok (.aload_n 3, 1) := by decide +kernel
theorem dX11_keepCopy_66 : decode cX11_keepCopy 66 = .ok (.aastore, 1) := by decide +kernel
theorem dX11_keepCopy_67 : decode cX11_keepCopy 67 = .ok (.aload_n 0, 1) := by decide +kernel
theorem dX11_keepCopy_68 : decode cX11_keepCopy 68 = .ok (.aload_n 0, 1) := by decide +kernel
theorem dX11_keepCopy_69 : decode cX11_keepCopy 69 = .ok (.dup, 1) := by decide +kernel
theorem dX11_keepCopy_70 : decode cX11_keepCopy 70 = .ok (.getfield 140, 3) := by decide +kernel
theorem dX11_keepCopy_73 : decode cX11_keepCopy 73 = .ok (.dup_x1, 1) := by decide +kernel
theorem dX11_keepCopy_74 : decode cX11_keepCopy 74 = .ok (.iconst 1, 1) := by decide +kernel
theorem dX11_keepCopy_75 : decode cX11_keepCopy 75 = .ok (.iadd, 1) := by decide +kernel
theorem dX11_keepCopy_76 : decode cX11_keepCopy 76 = .ok (.putfield 140, 3) := by decide +kernel
theorem dX11_keepCopy_79 : decode cX11_keepCopy 79 = .ok (.invokevirtual 82, 3) := by decide +kernel
theorem dX11_keepCopy_82 : decode cX11_keepCopy 82 = .ok (.ireturn, 1) := by decide +kernel
def X11_keepCopy_16  (this : Nat) : MM Int32 :=
  mb (wc 12 (some this) fun t => X11_refuse t (9 : Int32)) fun v1 =>
  mr v1
def X11_keepCopy (this : Nat) (a1 : Int32) (a2 : Option Nat) : MM Int32 :=
  mb (gI 12 (some this) 9) fun v1 =>
  mb (gR 12 (some this) 7) fun v2 =>
  mb (aN v2) fun v3 =>
  if v3 ≤ v1 then ((X11_keepCopy_16 this)) else (if a2 = none then ((X11_keepCopy_16 this)) else (mb (nO 4 8 [.int 0, .null, .null, .null, .null, .null, .null, .null]) fun v4 =>
  mb (gR 12 (some this) 3) fun v5 =>
  mb (wn v4 fun t => X2_init t a1 a2 v5) fun _ =>
  mb (gR 12 (some this) 4) fun v6 =>
  mb (wc 3 v6 fun t => X1_collate t v4) fun _ =>
  mb (gR 12 (some this) 5) fun v7 =>
  mb (wc 10 v7 fun t => X9_noteText t v4) fun v8 =>
  mb (pR 4 v4 7 v8) fun _ =>
  mb (gR 12 (some this) 7) fun v9 =>
  mb (gI 12 (some this) 9) fun v10 =>
  mb (sR v9 v10 v4) fun _ =>
  mb (gI 12 (some this) 9) fun v11 =>
  mb (pI 12 (some this) 9 (v11 + (1 : Int32))) fun _ =>
  mb (wc 12 (some this) fun t => X11_answer t v11) fun v12 =>
  mr v12))
set_option maxRecDepth 100000 in
set_option maxHeartbeats 4000000 in
theorem s_X11_keepCopy_16 (G : GG)   (this : Nat) : Sn G yX11_keepCopy cX11_keepCopy 4 (some FieldType.int) 10 220 (fun v : Int32 => some (.int v)) (X11_keepCopy_16  this) 16 [some (va_rf (some this)), none, none, none] [] := by
  unfold X11_keepCopy_16
  refine sn_aload_n (v := (some this)) (pc' := 17) dX11_keepCopy_16 rfl rfl rfl ?_
  refine sn_bipush (v := (9 : Int32)) (pc' := 19) dX11_keepCopy_17 rfl (by decide) ?_
  refine sn_cV (r := (some this)) (st := []) (As := [.int (9 : Int32)]) (st2 := (fun v => .int v :: [])) (pc' := 22) ci_12 (fun t => c_X11_refuse G t (9 : Int32)) cw_X11_refuse rfl rfl tw318 pw0 tw320 rfl rfl cat_nil rfl (fun _ => rfl) dX11_keepCopy_19 rfl (fun v1 => ?_)
  exact sn_iret dX11_keepCopy_22 rfl rfl
set_option maxRecDepth 100000 in
set_option maxHeartbeats 4000000 in
theorem s_X11_keepCopy (G : GG) (this : Nat) (a1 : Int32) (a2 : Option Nat) : Sn G yX11_keepCopy cX11_keepCopy 4 (some FieldType.int) 10 220 (fun v : Int32 => some (.int v)) (X11_keepCopy this a1 a2) 0 [some (va_rf (some this)), some (.int a1), some (va_rf a2), none] [] := by
  unfold X11_keepCopy
  refine sn_aload_n (v := (some this)) (pc' := 1) dX11_keepCopy_0 rfl rfl rfl ?_
  refine sn_gI (k := 9) (pc' := 4) ci_12 rfl (Or.inl tw282) dX11_keepCopy_1 rfl (fun v1 => ?_)
  refine sn_aload_n (v := (some this)) (pc' := 5) dX11_keepCopy_4 rfl rfl rfl ?_
  refine sn_gR (k := 7) (pc' := 8) ci_12 rfl (Or.inl tw280) dX11_keepCopy_5 rfl (fun v2 => ?_)
  refine sn_aN (pc' := 9) dX11_keepCopy_8 rfl (fun v3 => ?_)
  refine sn_ic_ge (pt := 16) (pf := 12) dX11_keepCopy_9 rfl rfl ?_ ?_
  · exact sn_weak (le_s (le_n (le_n (le_n le_e)))) (s_X11_keepCopy_16 G this)
  · refine sn_aload_n (v := a2) (pc' := 13) dX11_keepCopy_12 rfl rfl rfl ?_
    refine sn_ifnonnull (pt := 23) (pf := 16) dX11_keepCopy_13 rfl rfl ?_ ?_
    · exact sn_weak (le_s (le_n (le_n (le_n le_e)))) (s_X11_keepCopy_16 G this)
    · refine sn_nO (pc' := 26) ci_4 tw271 tw971 tw26 (by decide +kernel) dX11_keepCopy_23 rfl (fun v4 => ?_)
      refine sn_dup (pc' := 27) dX11_keepCopy_26 rfl (cat_rf _) ?_
      refine sn_iload_n (v := a1) (pc' := 28) dX11_keepCopy_27 rfl rfl rfl ?_
      refine sn_aload_n (v := a2) (pc' := 29) dX11_keepCopy_28 rfl rfl rfl ?_
      refine sn_aload_n (v := (some this)) (pc' := 30) dX11_keepCopy_29 rfl rfl rfl ?_
      refine sn_gR (k := 3) (pc' := 33) ci_12 rfl (Or.inl tw276) dX11_keepCopy_30 rfl (fun v5 => ?_)
      refine sn_cI (r := v4) (st := [va_rf v4]) (As := [.int a1, va_rf a2, va_rf v5]) (st2 := (fun _ => [va_rf v4])) (pc' := 36) (fun t => c_X2_init G t a1 a2 v5) cw_X2_init rfl rfl (Or.inl tw972) tw973 rfl rfl rfl (cat_q cat_nil) rfl (fun _ => rfl) dX11_keepCopy_33 rfl (fun _ => ?_)
      refine sn_astore_n (v := v4) (L' := [some (va_rf (some this)), some (.int a1), some (va_rf a2), some (va_rf v4)]) (pc' := 37) dX11_keepCopy_36 rfl rfl rfl rfl ?_
      refine sn_aload_n (v := (some this)) (pc' := 38) dX11_keepCopy_37 rfl rfl rfl ?_
      refine sn_gR (k := 4) (pc' := 41) ci_12 rfl (Or.inl tw277) dX11_keepCopy_38 rfl (fun v6 => ?_)
      refine sn_aload_n (v := v4) (pc' := 42) dX11_keepCopy_41 rfl rfl rfl ?_
      refine sn_cV (r := v6) (st := []) (As := [va_rf v4]) (st2 := (fun _ => [])) (pc' := 45) ci_3 (fun t => c_X1_collate G t v4) cw_X1_collate rfl rfl tw1026 tw1028 tw1027 rfl rfl cat_nil rfl (fun _ => rfl) dX11_keepCopy_42 rfl (fun _ => ?_)
      refine sn_aload_n (v := v4) (pc' := 46) dX11_keepCopy_45 rfl rfl rfl ?_
      refine sn_aload_n (v := (some this)) (pc' := 47) dX11_keepCopy_46 rfl rfl rfl ?_
      refine sn_gR (k := 5) (pc' := 50) ci_12 rfl (Or.inl tw278) dX11_keepCopy_47 rfl (fun v7 => ?_)
      refine sn_aload_n (v := v4) (pc' := 51) dX11_keepCopy_50 rfl rfl rfl ?_
      refine sn_cV (r := v7) (st := [va_rf v4]) (As := [va_rf v4]) (st2 := (fun v => va_rf v :: [va_rf v4])) (pc' := 54) ci_10 (fun t => c_X9_noteText G t v4) cw_X9_noteText rfl rfl tw1065 tw1067 tw1066 rfl rfl (cat_q cat_nil) rfl (fun _ => rfl) dX11_keepCopy_51 rfl (fun v8 => ?_)
      refine sn_pR (k := 7) (pc' := 57) ci_4 rfl (Or.inr ⟨_, nw1008⟩) (Or.inl rfl) (Or.inl ⟨_, rfl⟩) dX11_keepCopy_54 rfl (fun _ => ?_)
      refine sn_aload_n (v := (some this)) (pc' := 58) dX11_keepCopy_57 rfl rfl rfl ?_
      refine sn_gR (k := 7) (pc' := 61) ci_12 rfl (Or.inl tw280) dX11_keepCopy_58 rfl (fun v9 => ?_)
      refine sn_aload_n (v := (some this)) (pc' := 62) dX11_keepCopy_61 rfl rfl rfl ?_
      refine sn_gI (k := 9) (pc' := 65) ci_12 rfl (Or.inl tw282) dX11_keepCopy_62 rfl (fun v10 => ?_)
      refine sn_aload_n (v := v4) (pc' := 66) dX11_keepCopy_65 rfl rfl rfl ?_
      refine sn_sR (pc' := 67) dX11_keepCopy_66 rfl (fun _ => ?_)
      refine sn_aload_n (v := (some this)) (pc' := 68) dX11_keepCopy_67 rfl rfl rfl ?_
      refine sn_aload_n (v := (some this)) (pc' := 69) dX11_keepCopy_68 rfl rfl rfl ?_
      refine sn_dup (pc' := 70) dX11_keepCopy_69 rfl (cat_rf _) ?_
      refine sn_gI (k := 9) (pc' := 73) ci_12 rfl (Or.inl tw282) dX11_keepCopy_70 rfl (fun v11 => ?_)
      refine sn_dup_x1 (pc' := 74) dX11_keepCopy_73 rfl rfl (cat_rf _) ?_
      refine sn_iconst (v := (1 : Int32)) (pc' := 75) dX11_keepCopy_74 rfl (by decide) ?_
      refine sn_iadd (pc' := 76) dX11_keepCopy_75 rfl ?_
      refine sn_pI (k := 9) (pc' := 79) ci_12 rfl (Or.inl tw282) (Or.inl rfl) rfl dX11_keepCopy_76 rfl (fun _ => ?_)
      refine sn_cV (r := (some this)) (st := []) (As := [.int v11]) (st2 := (fun v => .int v :: [])) (pc' := 82) ci_12 (fun t => c_X11_answer G t v11) cw_X11_answer rfl rfl tw326 pw1 tw328 rfl rfl cat_nil rfl (fun _ => rfl) dX11_keepCopy_79 rfl (fun v12 => ?_)
      exact sn_iret dX11_keepCopy_82 rfl rfl
theorem c_X11_keepCopy (G : GG) (this : Nat) (a1 : Int32) (a2 : Option Nat) : Cal G yX11_keepCopy cX11_keepCopy 4 (some FieldType.int) 10 220 (fun v : Int32 => some (.int v)) (X11_keepCopy this a1 a2) [.ref this, .int a1, va_rf a2] :=
  Cal.of (by decide) (cat_t (cat_i (cat_q cat_nil))) rfl (sn_weak (le_s (le_s (le_s (le_z le_e)))) (s_X11_keepCopy G this a1 a2))
theorem cw_X11_keepCopy : CW yX11_keepCopy cX11_keepCopy 4 (some FieldType.int) 2 := ⟨tw970, tw1, by decide, by decide +kernel⟩
/-! X11_copy -/
theorem dX11_copy_0 : decode cX11_copy 0 = .ok (.aload_n 0, 1) := by decide +kernel
theorem dX11_copy_1 : decode cX11_copy 1 = .ok (.iload_n 1, 1) := by decide +kernel
theorem dX11_copy_2 : decode cX11_copy 2 = .ok (.invokevirtual 102, 3) := by decide +kernel
theorem dX11_copy_5 : decode cX11_copy 5 = .ok (.astore_n 2, 1) := by decide +kernel
theorem dX11_copy_6 : decode cX11_copy 6 = .ok (.aload_n 2, 1) := by decide +kernel
theorem dX11_copy_7 : decode cX11_copy 7 = .ok (.ifnonnull 17, 3) := by decide +kernel
theorem dX11_copy_10 : decode cX11_copy 10 = .ok (.aload_n 0, 1) := by decide +kernel
theorem dX11_copy_11 : decode cX11_copy 11 = .ok (.getfield 12, 3) := by decide +kernel
theorem dX11_copy_14 : decode cX11_copy 14 = .ok (.iconst 0, 1) := by decide +kernel
theorem dX11_copy_15 : decode cX11_copy 15 = .ok (.invokevirtual 85, 3) := by decide +kernel
theorem dX11_copy_18 : decode cX11_copy 18 = .ok (.aload_n 0, 1) := by decide +kernel
theorem dX11_copy_19 : decode cX11_copy 19 = .ok (.iconst 1, 1) := by decide +kernel
theorem dX11_copy_20 : decode cX11_copy 20 = .ok (.invokevirtual 71, 3) := by decide +kernel
theorem dX11_copy_23 : decode cX11_copy 23 = .ok (.ireturn, 1) := by decide +kernel
theorem dX11_copy_24 : decode cX11_copy 24 = .ok (.aload_n 0, 1) := by decide +kernel
theorem dX11_copy_25 : decode cX11_copy 25 = .ok (.iconst 0, 1) := by decide +kernel
theorem dX11_copy_26 : decode cX11_copy 26 = .ok (.putfield 88, 3) := by decide +kernel
theorem dX11_copy_29 : decode cX11_copy 29 = .ok (.aload_n 0, 1) := by decide +kernel
theorem dX11_copy_30 : decode cX11_copy 30 = .ok (.getfield 21, 3) := by decide +kernel
theorem dX11_copy_33 : decode cX11_copy 33 = .ok (.invokevirtual 113, 3) := by decide +kernel
theorem dX11_copy_36 : decode cX11_copy 36 = .ok (.ifCond .eq 11, 3) := by decide +kernel
theorem dX11_copy_39 : decode cX11_copy 39 = .ok (.aload_n 0, 1) := by decide +kernel
theorem dX11_copy_40 : decode cX11_copy 40 = .ok (.aload_n 2, 1) := by decide +kernel
theorem dX11_copy_41 : decode cX11_copy 41 = .ok (.invokevirtual 116, 3) := by decide +kernel
theorem dX11_copy_44 : decode cX11_copy 44 = .ok (.goto 4, 3) := by decide +kernel
theorem dX11_copy_47 : decode cX11_copy 47 = .ok (.iconst 2, 1) := by decide +kernel
theorem dX11_copy_48 : decode cX11_copy 48 = .ok (.istore_n 3, 1) := by decide +kernel
theorem dX11_copy_49 : decode cX11_copy 49 = .ok (.aload_n 0, 1) := by decide +kernel
theorem dX11_copy_50 : decode cX11_copy 50 = .ok (.getfield 12, 3) := by decide +kernel
theorem dX11_copy_53 : decode cX11_copy 53 = .ok (.iconst 0, 1) := by decide +kernel
theorem dX11_copy_54 : decode cX11_copy 54 = .ok (.invokevirtual 85, 3) := by decide +kernel
theorem dX11_copy_57 : decode cX11_copy 57 = .ok (.iload_n 3, 1) := by decide +kernel
theorem dX11_copy_58 : decode cX11_copy 58 = .ok (.ifCond .ne 12, 3) := by decide +kernel
theorem dX11_copy_61 : decode cX11_copy 61 = .ok (.aload_n 0, 1) := by decide +kernel
theorem dX11_copy_62 : decode cX11_copy 62 = .ok (.iload_n 1, 1) := by decide +kernel
theorem dX11_copy_63 : decode cX11_copy 63 = .ok (.aload_n 2, 1) := by decide +kernel
theorem dX11_copy_64 : decode cX11_copy 64 = .ok (.invokevirtual 119, 3) := by decide +kernel
theorem dX11_copy_67 : decode cX11_copy 67 = .ok (.goto 8, 3) := by decide +kernel
theorem dX11_copy_70 : decode cX11_copy 70 = .ok (.aload_n 0, 1) := by decide +kernel
theorem dX11_copy_71 : decode cX11_copy 71 = .ok (.iload_n 3, 1) := by decide +kernel
theorem dX11_copy_72 : decode cX11_copy 72 = .ok (.invokevirtual 71, 3) := by decide +kernel
theorem dX11_copy_75 : decode cX11_copy 75 = .ok (.ireturn, 1) := by decide +kernel
def X11_copy_48  (this : Nat) (x1 : Int32) (x2 : Option Nat) (y0 : Int32) : MM Int32 :=
  mb (gR 12 (some this) 0) fun v1 =>
  mb (wc 11 v1 fun t => X10_cutTo t (0 : Int32)) fun _ =>
  if y0 = 0 then (mb (wc 12 (some this) fun t => X11_keepCopy t x1 x2) fun v2 =>
  mr v2) else (mb (wc 12 (some this) fun t => X11_refuse t y0) fun v3 =>
  mr v3)
def X11_copy (this : Nat) (a1 : Int32) : MM Int32 :=
  mb (wc 12 (some this) fun t => X11_bookAt t a1) fun v1 =>
  if v1 = none then (mb (gR 12 (some this) 0) fun v2 =>
  mb (wc 11 v2 fun t => X10_cutTo t (0 : Int32)) fun _ =>
  mb (wc 12 (some this) fun t => X11_refuse t (1 : Int32)) fun v3 =>
  mr v3) else (mb (pI 12 (some this) 10 (0 : Int32)) fun _ =>
  mb (gR 12 (some this) 1) fun v4 =>
  mb (wc 8 v4 fun t => X7_readsRow t ) fun v5 =>
  if v5 = 0 then ((X11_copy_48 this a1 v1 (2 : Int32))) else (mb (wc 12 (some this) fun t => X11_draftRow t v1) fun v6 =>
  (X11_copy_48 this a1 v1 v6)))
set_option maxRecDepth 100000 in
set_option maxHeartbeats 4000000 in
theorem s_X11_copy_48 (G : GG)   (this : Nat) (x1 : Int32) (x2 : Option Nat) (y0 : Int32) : Sn G yX11_copy cX11_copy 4 (some FieldType.int) 11 243 (fun v : Int32 => some (.int v)) (X11_copy_48  this x1 x2 y0) 48 [some (va_rf (some this)), some (.int x1), some (va_rf x2), none] [.int y0] := by
  unfold X11_copy_48
  refine sn_istore_n (v := y0) (L' := [some (va_rf (some this)), some (.int x1), some (va_rf x2), some (.int y0)]) (pc' := 49) dX11_copy_48 rfl rfl rfl rfl ?_
  refine sn_aload_n (v := (some this)) (pc' := 50) dX11_copy_49 rfl rfl rfl ?_
  refine sn_gR (k := 0) (pc' := 53) ci_12 rfl (Or.inl tw273) dX11_copy_50 rfl (fun v1 => ?_)
  refine sn_iconst (v := (0 : Int32)) (pc' := 54) dX11_copy_53 rfl (by decide) ?_
  refine sn_cV (r := v1) (st := []) (As := [.int (0 : Int32)]) (st2 := (fun _ => [])) (pc' := 57) ci_11 (fun t => c_X10_cutTo G t (0 : Int32)) cw_X10_cutTo rfl rfl tw334 tw336 tw335 rfl rfl cat_nil rfl (fun _ => rfl) dX11_copy_54 rfl (fun _ => ?_)
  refine sn_iload_n (v := y0) (pc' := 58) dX11_copy_57 rfl rfl rfl ?_
  refine sn_if_ne (pt := 70) (pf := 61) dX11_copy_58 rfl rfl ?_ ?_
  · refine sn_aload_n (v := (some this)) (pc' := 62) dX11_copy_61 rfl rfl rfl ?_
    refine sn_iload_n (v := x1) (pc' := 63) dX11_copy_62 rfl rfl rfl ?_
    refine sn_aload_n (v := x2) (pc' := 64) dX11_copy_63 rfl rfl rfl ?_
    refine sn_cV (r := (some this)) (st := []) (As := [.int x1, va_rf x2]) (st2 := (fun v => .int v :: [])) (pc' := 67) ci_12 (fun t => c_X11_keepCopy G t x1 x2) cw_X11_keepCopy rfl rfl tw967 pw27 tw969 rfl rfl cat_nil rfl (fun _ => rfl) dX11_copy_64 rfl (fun v2 => ?_)
    refine sn_goto (pc' := 75) dX11_copy_67 rfl ?_
    exact sn_iret dX11_copy_75 rfl rfl
  · refine sn_aload_n (v := (some this)) (pc' := 71) dX11_copy_70 rfl rfl rfl ?_
    refine sn_iload_n (v := y0) (pc' := 72) dX11_copy_71 rfl rfl rfl ?_
    refine sn_cV (r := (some this)) (st := []) (As := [.int y0]) (st2 := (fun v => .int v :: [])) (pc' := 75) ci_12 (fun t => c_X11_refuse G t y0) cw_X11_refuse rfl rfl tw318 pw0 tw320 rfl rfl cat_nil rfl (fun _ => rfl) dX11_copy_72 rfl (fun v3 => ?_)
    exact sn_iret dX11_copy_75 rfl rfl
set_option maxRecDepth 100000 in
set_option maxHeartbeats 4000000 in
theorem s_X11_copy (G : GG) (this : Nat) (a1 : Int32) : Sn G yX11_copy cX11_copy 4 (some FieldType.int) 11 243 (fun v : Int32 => some (.int v)) (X11_copy this a1) 0 [some (va_rf (some this)), some (.int a1), none, none] [] := by
  unfold X11_copy
  refine sn_aload_n (v := (some this)) (pc' := 1) dX11_copy_0 rfl rfl rfl ?_
  refine sn_iload_n (v := a1) (pc' := 2) dX11_copy_1 rfl rfl rfl ?_
  refine sn_cV (r := (some this)) (st := []) (As := [.int a1]) (st2 := (fun v => va_rf v :: [])) (pc' := 5) ci_12 (fun t => c_X11_bookAt G t a1) cw_X11_bookAt rfl rfl tw910 pw22 tw912 rfl rfl cat_nil rfl (fun _ => rfl) dX11_copy_2 rfl (fun v1 => ?_)
  refine sn_astore_n (v := v1) (L' := [some (va_rf (some this)), some (.int a1), some (va_rf v1), none]) (pc' := 6) dX11_copy_5 rfl rfl rfl rfl ?_
  refine sn_aload_n (v := v1) (pc' := 7) dX11_copy_6 rfl rfl rfl ?_
  refine sn_ifnonnull (pt := 24) (pf := 10) dX11_copy_7 rfl rfl ?_ ?_
  · refine sn_aload_n (v := (some this)) (pc' := 11) dX11_copy_10 rfl rfl rfl ?_
    refine sn_gR (k := 0) (pc' := 14) ci_12 rfl (Or.inl tw273) dX11_copy_11 rfl (fun v2 => ?_)
    refine sn_iconst (v := (0 : Int32)) (pc' := 15) dX11_copy_14 rfl (by decide) ?_
    refine sn_cV (r := v2) (st := []) (As := [.int (0 : Int32)]) (st2 := (fun _ => [])) (pc' := 18) ci_11 (fun t => c_X10_cutTo G t (0 : Int32)) cw_X10_cutTo rfl rfl tw334 tw336 tw335 rfl rfl cat_nil rfl (fun _ => rfl) dX11_copy_15 rfl (fun _ => ?_)
    refine sn_aload_n (v := (some this)) (pc' := 19) dX11_copy_18 rfl rfl rfl ?_
    refine sn_iconst (v := (1 : Int32)) (pc' := 20) dX11_copy_19 rfl (by decide) ?_
    refine sn_cV (r := (some this)) (st := []) (As := [.int (1 : Int32)]) (st2 := (fun v => .int v :: [])) (pc' := 23) ci_12 (fun t => c_X11_refuse G t (1 : Int32)) cw_X11_refuse rfl rfl tw318 pw0 tw320 rfl rfl cat_nil rfl (fun _ => rfl) dX11_copy_20 rfl (fun v3 => ?_)
    exact sn_iret dX11_copy_23 rfl rfl
  · refine sn_aload_n (v := (some this)) (pc' := 25) dX11_copy_24 rfl rfl rfl ?_
    refine sn_iconst (v := (0 : Int32)) (pc' := 26) dX11_copy_25 rfl (by decide) ?_
    refine sn_pI (k := 10) (pc' := 29) ci_12 rfl (Or.inl tw283) (Or.inl rfl) rfl dX11_copy_26 rfl (fun _ => ?_)
    refine sn_aload_n (v := (some this)) (pc' := 30) dX11_copy_29 rfl rfl rfl ?_
    refine sn_gR (k := 1) (pc' := 33) ci_12 rfl (Or.inl tw274) dX11_copy_30 rfl (fun v4 => ?_)
    refine sn_cV (r := v4) (st := []) (As := []) (st2 := (fun v => .int v :: [])) (pc' := 36) ci_8 (fun t => c_X7_readsRow G t ) cw_X7_readsRow rfl rfl tw929 tw931 tw930 rfl rfl cat_nil rfl (fun _ => rfl) dX11_copy_33 rfl (fun v5 => ?_)
    refine sn_if_eq (pt := 47) (pf := 39) dX11_copy_36 rfl rfl ?_ ?_
    · refine sn_iconst (v := (2 : Int32)) (pc' := 48) dX11_copy_47 rfl (by decide) ?_
      exact sn_weak (le_s (le_s (le_s (le_n le_e)))) (s_X11_copy_48 G this a1 v1 (2 : Int32))
    · refine sn_aload_n (v := (some this)) (pc' := 40) dX11_copy_39 rfl rfl rfl ?_
      refine sn_aload_n (v := v1) (pc' := 41) dX11_copy_40 rfl rfl rfl ?_
      refine sn_cV (r := (some this)) (st := []) (As := [va_rf v1]) (st2 := (fun v => .int v :: [])) (pc' := 44) ci_12 (fun t => c_X11_draftRow G t v1) cw_X11_draftRow rfl rfl tw937 pw25 tw939 rfl rfl cat_nil rfl (fun _ => rfl) dX11_copy_41 rfl (fun v6 => ?_)
      refine sn_goto (pc' := 48) dX11_copy_44 rfl ?_
      exact sn_weak (le_s (le_s (le_s (le_n le_e)))) (s_X11_copy_48 G this a1 v1 v6)
theorem c_X11_copy (G : GG) (this : Nat) (a1 : Int32) : Cal G yX11_copy cX11_copy 4 (some FieldType.int) 11 243 (fun v : Int32 => some (.int v)) (X11_copy this a1) [.ref this, .int a1] :=
  Cal.of (by decide) (cat_t (cat_i cat_nil)) rfl (sn_weak (le_s (le_s (le_z (le_z le_e)))) (s_X11_copy G this a1))
theorem cw_X11_copy : CW yX11_copy cX11_copy 4 (some FieldType.int) 1 := ⟨tw928, tw1, by decide, by decide +kernel⟩
/-! X7_readsName -/
theorem dX7_readsName_0 : decode cX7_readsName 0 = .ok (.aload_n 0, 1) := by decide +kernel
theorem dX7_readsName_1 : decode cX7_readsName 1 = .ok (.invokevirtual 33, 3) := by decide +kernel
theorem dX7_readsName_4 : decode cX7_readsName 4 = .ok (.aload_n 0, 1) := by decide +kernel
theorem dX7_readsName_5 : decode cX7_readsName 5 = .ok (.iconst 0, 1) := by decide +kernel
theorem dX7_readsName_6 : decode cX7_readsName 6 = .ok (.invokevirtual 50, 3) := by decide +kernel
theorem dX7_readsName_9 : decode cX7_readsName 9 = .ok (.ifCond .eq 15, 3) := by decide +kernel
theorem dX7_readsName_12 : decode cX7_readsName 12 = .ok (.aload_n 0, 1) := by decide +kernel
theorem dX7_readsName_13 : decode cX7_readsName 13 = .ok (.iconst 0, 1) := by decide +kernel
theorem dX7_readsName_14 : decode cX7_readsName 14 = .ok (.invokevirtual 47, 3) := by decide +kernel
theorem dX7_readsName_17 : decode cX7_readsName 17 = .ok (.ifCond .eq 7, 3) := by decide +kernel
theorem dX7_readsName_20 : decode cX7_readsName 20 = .ok (.iconst 1, 1) := by decide +kernel
theorem dX7_readsName_21 : decode cX7_readsName 21 = .ok (.goto 4, 3) := by decide +kernel
theorem dX7_readsName_24 : decode cX7_readsName 24 = .ok (.iconst 0, 1) := by decide +kernel
theorem dX7_readsName_25 : decode cX7_readsName 25 = .ok (.ireturn, 1) := by decide +kernel
def X7_readsName (this : Nat) : MM Int32 :=
  mb (wc 8 (some this) fun t => X7_begin t ) fun _ =>
  mb (wc 8 (some this) fun t => X7_readsOneName t (0 : Int32)) fun v1 =>
  if v1 = 0 then (mr (0 : Int32)) else (mb (wc 8 (some this) fun t => X7_takes t (0 : Int32)) fun v2 =>
  if v2 = 0 then (mr (0 : Int32)) else (mr (1 : Int32)))
set_option maxRecDepth 100000 in
set_option maxHeartbeats 4000000 in
theorem s_X7_readsName (G : GG) (this : Nat) : Sn G yX7_readsName cX7_readsName 1 (some FieldType.boolean) 8 184 (fun v : Int32 => some (.int v)) (X7_readsName this) 0 [some (va_rf (some this))] [] := by
  unfold X7_readsName
  refine sn_aload_n (v := (some this)) (pc' := 1) dX7_readsName_0 rfl rfl rfl ?_
  refine sn_cV (r := (some this)) (st := []) (As := []) (st2 := (fun _ => [])) (pc' := 4) ci_8 (fun t => c_X7_begin G t ) cw_X7_begin rfl rfl tw346 pw2 tw348 rfl rfl cat_nil rfl (fun _ => rfl) dX7_readsName_1 rfl (fun _ => ?_)
  refine sn_aload_n (v := (some this)) (pc' := 5) dX7_readsName_4 rfl rfl rfl ?_
  refine sn_iconst (v := (0 : Int32)) (pc' := 6) dX7_readsName_5 rfl (by decide) ?_
  refine sn_cV (r := (some this)) (st := []) (As := [.int (0 : Int32)]) (st2 := (fun v => .int v :: [])) (pc' := 9) ci_8 (fun t => c_X7_readsOneName G t (0 : Int32)) cw_X7_readsOneName rfl rfl tw933 pw24 tw935 rfl rfl cat_nil rfl (fun _ => rfl) dX7_readsName_6 rfl (fun v1 => ?_)
  refine sn_if_eq (pt := 24) (pf := 12) dX7_readsName_9 rfl rfl ?_ ?_
  · refine sn_iconst (v := (0 : Int32)) (pc' := 25) dX7_readsName_24 rfl (by decide) ?_
    exact sn_iret dX7_readsName_25 rfl (by decide)
  · refine sn_aload_n (v := (some this)) (pc' := 13) dX7_readsName_12 rfl rfl rfl ?_
    refine sn_iconst (v := (0 : Int32)) (pc' := 14) dX7_readsName_13 rfl (by decide) ?_
    refine sn_cV (r := (some this)) (st := []) (As := [.int (0 : Int32)]) (st2 := (fun v => .int v :: [])) (pc' := 17) ci_8 (fun t => c_X7_takes G t (0 : Int32)) cw_X7_takes rfl rfl tw491 pw9 tw493 rfl rfl cat_nil rfl (fun _ => rfl) dX7_readsName_14 rfl (fun v2 => ?_)
    refine sn_if_eq (pt := 24) (pf := 20) dX7_readsName_17 rfl rfl ?_ ?_
    · refine sn_iconst (v := (0 : Int32)) (pc' := 25) dX7_readsName_24 rfl (by decide) ?_
      exact sn_iret dX7_readsName_25 rfl (by decide)
    · refine sn_iconst (v := (1 : Int32)) (pc' := 21) dX7_readsName_20 rfl (by decide) ?_
      refine sn_goto (pc' := 25) dX7_readsName_21 rfl ?_
      exact sn_iret dX7_readsName_25 rfl (by decide)
theorem c_X7_readsName (G : GG) (this : Nat) : Cal G yX7_readsName cX7_readsName 1 (some FieldType.boolean) 8 184 (fun v : Int32 => some (.int v)) (X7_readsName this) [.ref this] :=
  Cal.of (by decide) (cat_t cat_nil) rfl (sn_weak (le_s le_e) (s_X7_readsName G this))
theorem cw_X7_readsName : CW yX7_readsName cX7_readsName 1 (some FieldType.boolean) 0 := ⟨tw1099, tw5, by decide, by decide +kernel⟩
/-! X11_find -/
theorem dX11_find_0 : decode cX11_find 0 = .ok (.aload_n 0, 1) := by decide +kernel
theorem dX11_find_1 : decode cX11_find 1 = .ok (.iload_n 1, 1) := by decide +kernel
theorem dX11_find_2 : decode cX11_find 2 = .ok (.invokevirtual 102, 3) := by decide +kernel
theorem dX11_find_5 : decode cX11_find 5 = .ok (.astore_n 2, 1) := by decide +kernel
theorem dX11_find_6 : decode cX11_find 6 = .ok (.aload_n 2, 1) := by decide +kernel
theorem dX11_find_7 : decode cX11_find 7 = .ok (.ifnonnull 17, 3) := by decide +kernel
theorem dX11_find_10 : decode cX11_find 10 = .ok (.aload_n 0, 1) := by decide +kernel
theorem dX11_find_11 : decode cX11_find 11 = .ok (.getfield 12, 3) := by decide +kernel
theorem dX11_find_14 : decode cX11_find 14 = .ok (.iconst 0, 1) := by decide +kernel
theorem dX11_find_15 : decode cX11_find 15 = .ok (.invokevirtual 85, 3) := by decide +kernel
theorem dX11_find_18 : decode cX11_find 18 = .ok (.aload_n 0, 1) := by decide +kernel
theorem dX11_find_19 : decode cX11_find 19 = .ok (.iconst 1, 1) := by decide +kernel
theorem dX11_find_20 : decode cX11_find 20 = .ok (.invokevirtual 71, 3) := by decide +kernel
theorem dX11_find_23 : decode cX11_find 23 = .ok (.ireturn, 1) := by decide +kernel
theorem dX11_find_24 : decode cX11_find 24 = .ok (.aload_n 0, 1) := by decide +kernel
theorem dX11_find_25 : decode cX11_find 25 = .ok (.iconst 0, 1) := by decide +kernel
theorem dX11_find_26 : decode cX11_find 26 = .ok (.putfield 88, 3) := by decide +kernel
theorem dX11_find_29 : decode cX11_find 29 = .ok (.aload_n 0, 1) := by decide +kernel
theorem dX11_find_30 : decode cX11_find 30 = .ok (.getfield 21, 3) := by decide +kernel
theorem dX11_find_33 : decode cX11_find 33 = .ok (.invokevirtual 123, 3) := by decide +kernel
theorem dX11_find_36 : decode cX11_find 36 = .ok (.istore_n 3, 1) := by decide +kernel
theorem dX11_find_37 : decode cX11_find 37 = .ok (.aload_n 0, 1) := by decide +kernel
theorem dX11_find_38 : decode cX11_find 38 = .ok (.getfield 12, 3) := by decide +kernel
theorem dX11_find_41 : decode cX11_find 41 = .ok (.iconst 0, 1) := by decide +kernel
theorem dX11_find_42 : decode cX11_find 42 = .ok (.invokevirtual 85, 3) := by decide +kernel
theorem dX11_find_45 : decode cX11_find 45 = .ok (.iload_n 3, 1) := by decide +kernel
theorem dX11_find_46 : decode cX11_find 46 = .ok (.ifCond .eq 22, 3) := by decide +kernel
theorem dX11_find_49 : decode cX11_find 49 = .ok (.aload_n 0, 1) := by decide +kernel
theorem dX11_find_50 : decode cX11_find 50 = .ok (.aload_n 2, 1) := by decide +kernel
theorem dX11_find_51 : decode cX11_find 51 = .ok (.aload_n 0, 1) := by decide +kernel
theorem dX11_find_52 : decode cX11_find 52 = .ok (.getfield 21, 3) := by decide +kernel
theorem dX11_find_55 : decode cX11_find 55 = .ok (.getfield 126, 3) := by decide +kernel
theorem dX11_find_58 : decode cX11_find 58 = .ok (.iconst 0, 1) := by decide +kernel
theorem dX11_find_59 : decode cX11_find 59 = .ok (.invokevirtual 130, 3) := by decide +kernel
theorem dX11_find_62 : decode cX11_find 62 = .ok (.invokevirtual 82, 3) := by decide +kernel
theorem dX11_find_65 : decode cX11_find 65 = .ok (.goto 8, 3) := by decide +kernel
theorem dX11_find_68 : decode cX11_find 68 = .ok (.aload_n 0, 1) := by decide +kernel
theorem dX11_find_69 : decode cX11_find 69 = .ok (.iconst 2, 1) := by decide +kernel
theorem dX11_find_70 : decode cX11_find 70 = .ok (.invokevirtual 71, 3) := by decide +kernel
theorem dX11_find_73 : decode cX11_find 73 = .ok (.ireturn, 1) := by decide +kernel
def X11_find (this : Nat) (a1 : Int32) : MM Int32 :=
  mb (wc 12 (some this) fun t => X11_bookAt t a1) fun v1 =>
  if v1 = none then (mb (gR 12 (some this) 0) fun v2 =>
  mb (wc 11 v2 fun t => X10_cutTo t (0 : Int32)) fun _ =>
  mb (wc 12 (some this) fun t => X11_refuse t (1 : Int32)) fun v3 =>
  mr v3) else (mb (pI 12 (some this) 10 (0 : Int32)) fun _ =>
  mb (gR 12 (some this) 1) fun v4 =>
  mb (wc 8 v4 fun t => X7_readsName t ) fun v5 =>
  mb (gR 12 (some this) 0) fun v6 =>
  mb (wc 11 v6 fun t => X10_cutTo t (0 : Int32)) fun _ =>
  if v5 = 0 then (mb (wc 12 (some this) fun t => X11_refuse t (2 : Int32)) fun v7 =>
  mr v7) else (mb (gR 12 (some this) 1) fun v8 =>
  mb (gR 8 v8 2) fun v9 =>
  mb (wc 2 v1 fun t => X0_placeOf t v9 (0 : Int32)) fun v10 =>
  mb (wc 12 (some this) fun t => X11_answer t v10) fun v11 =>
  mr v11))
set_option maxRecDepth 100000 in
set_option maxHeartbeats 4000000 in
theorem s_X11_find (G : GG) (this : Nat) (a1 : Int32) : Sn G yX11_find cX11_find 4 (some FieldType.int) 9 204 (fun v : Int32 => some (.int v)) (X11_find this a1) 0 [some (va_rf (some this)), some (.int a1), none, none] [] := by
  unfold X11_find
  refine sn_aload_n (v := (some this)) (pc' := 1) dX11_find_0 rfl rfl rfl ?_
  refine sn_iload_n (v := a1) (pc' := 2) dX11_find_1 rfl rfl rfl ?_
  refine sn_cV (r := (some this)) (st := []) (As := [.int a1]) (st2 := (fun v => va_rf v :: [])) (pc' := 5) ci_12 (fun t => c_X11_bookAt G t a1) cw_X11_bookAt rfl rfl tw910 pw22 tw912 rfl rfl cat_nil rfl (fun _ => rfl) dX11_find_2 rfl (fun v1 => ?_)
  refine sn_astore_n (v := v1) (L' := [some (va_rf (some this)), some (.int a1), some (va_rf v1), none]) (pc' := 6) dX11_find_5 rfl rfl rfl rfl ?_
  refine sn_aload_n (v := v1) (pc' := 7) dX11_find_6 rfl rfl rfl ?_
  refine sn_ifnonnull (pt := 24) (pf := 10) dX11_find_7 rfl rfl ?_ ?_
  · refine sn_aload_n (v := (some this)) (pc' := 11) dX11_find_10 rfl rfl rfl ?_
    refine sn_gR (k := 0) (pc' := 14) ci_12 rfl (Or.inl tw273) dX11_find_11 rfl (fun v2 => ?_)
    refine sn_iconst (v := (0 : Int32)) (pc' := 15) dX11_find_14 rfl (by decide) ?_
    refine sn_cV (r := v2) (st := []) (As := [.int (0 : Int32)]) (st2 := (fun _ => [])) (pc' := 18) ci_11 (fun t => c_X10_cutTo G t (0 : Int32)) cw_X10_cutTo rfl rfl tw334 tw336 tw335 rfl rfl cat_nil rfl (fun _ => rfl) dX11_find_15 rfl (fun _ => ?_)
    refine sn_aload_n (v := (some this)) (pc' := 19) dX11_find_18 rfl rfl rfl ?_
    refine sn_iconst (v := (1 : Int32)) (pc' := 20) dX11_find_19 rfl (by decide) ?_
    refine sn_cV (r := (some this)) (st := []) (As := [.int (1 : Int32)]) (st2 := (fun v => .int v :: [])) (pc' := 23) ci_12 (fun t => c_X11_refuse G t (1 : Int32)) cw_X11_refuse rfl rfl tw318 pw0 tw320 rfl rfl cat_nil rfl (fun _ => rfl) dX11_find_20 rfl (fun v3 => ?_)
    exact sn_iret dX11_find_23 rfl rfl
  · refine sn_aload_n (v := (some this)) (pc' := 25) dX11_find_24 rfl rfl rfl ?_
    refine sn_iconst (v := (0 : Int32)) (pc' := 26) dX11_find_25 rfl (by decide) ?_
    refine sn_pI (k := 10) (pc' := 29) ci_12 rfl (Or.inl tw283) (Or.inl rfl) rfl dX11_find_26 rfl (fun _ => ?_)
    refine sn_aload_n (v := (some this)) (pc' := 30) dX11_find_29 rfl rfl rfl ?_
    refine sn_gR (k := 1) (pc' := 33) ci_12 rfl (Or.inl tw274) dX11_find_30 rfl (fun v4 => ?_)
    refine sn_cV (r := v4) (st := []) (As := []) (st2 := (fun v => .int v :: [])) (pc' := 36) ci_8 (fun t => c_X7_readsName G t ) cw_X7_readsName rfl rfl tw1096 tw1098 tw1097 rfl rfl cat_nil rfl (fun _ => rfl) dX11_find_33 rfl (fun v5 => ?_)
    refine sn_istore_n (v := v5) (L' := [some (va_rf (some this)), some (.int a1), some (va_rf v1), some (.int v5)]) (pc' := 37) dX11_find_36 rfl rfl rfl rfl ?_
    refine sn_aload_n (v := (some this)) (pc' := 38) dX11_find_37 rfl rfl rfl ?_
    refine sn_gR (k := 0) (pc' := 41) ci_12 rfl (Or.inl tw273) dX11_find_38 rfl (fun v6 => ?_)
    refine sn_iconst (v := (0 : Int32)) (pc' := 42) dX11_find_41 rfl (by decide) ?_
    refine sn_cV (r := v6) (st := []) (As := [.int (0 : Int32)]) (st2 := (fun _ => [])) (pc' := 45) ci_11 (fun t => c_X10_cutTo G t (0 : Int32)) cw_X10_cutTo rfl rfl tw334 tw336 tw335 rfl rfl cat_nil rfl (fun _ => rfl) dX11_find_42 rfl (fun _ => ?_)
    refine sn_iload_n (v := v5) (pc' := 46) dX11_find_45 rfl rfl rfl ?_
    refine sn_if_eq (pt := 68) (pf := 49) dX11_find_46 rfl rfl ?_ ?_
    · refine sn_aload_n (v := (some this)) (pc' := 69) dX11_find_68 rfl rfl rfl ?_
      refine sn_iconst (v := (2 : Int32)) (pc' := 70) dX11_find_69 rfl (by decide) ?_
      refine sn_cV (r := (some this)) (st := []) (As := [.int (2 : Int32)]) (st2 := (fun v => .int v :: [])) (pc' := 73) ci_12 (fun t => c_X11_refuse G t (2 : Int32)) cw_X11_refuse rfl rfl tw318 pw0 tw320 rfl rfl cat_nil rfl (fun _ => rfl) dX11_find_70 rfl (fun v7 => ?_)
      exact sn_iret dX11_find_73 rfl rfl
    · refine sn_aload_n (v := (some this)) (pc' := 50) dX11_find_49 rfl rfl rfl ?_
      refine sn_aload_n (v := v1) (pc' := 51) dX11_find_50 rfl rfl rfl ?_
      refine sn_aload_n (v := (some this)) (pc' := 52) dX11_find_51 rfl rfl rfl ?_
      refine sn_gR (k := 1) (pc' := 55) ci_12 rfl (Or.inl tw274) dX11_find_52 rfl (fun v8 => ?_)
      refine sn_gR (k := 2) (pc' := 58) ci_8 rfl (Or.inr ⟨_, nw162⟩) dX11_find_55 rfl (fun v9 => ?_)
      refine sn_iconst (v := (0 : Int32)) (pc' := 59) dX11_find_58 rfl (by decide) ?_
      refine sn_cV (r := v1) (st := [va_rf (some this)]) (As := [va_rf v9, .int (0 : Int32)]) (st2 := (fun v => .int v :: [va_rf (some this)])) (pc' := 62) ci_2 (fun t => c_X0_placeOf G t v9 (0 : Int32)) cw_X0_placeOf rfl rfl tw1100 tw947 tw946 rfl rfl (cat_q cat_nil) rfl (fun _ => rfl) dX11_find_59 rfl (fun v10 => ?_)
      refine sn_cV (r := (some this)) (st := []) (As := [.int v10]) (st2 := (fun v => .int v :: [])) (pc' := 65) ci_12 (fun t => c_X11_answer G t v10) cw_X11_answer rfl rfl tw326 pw1 tw328 rfl rfl cat_nil rfl (fun _ => rfl) dX11_find_62 rfl (fun v11 => ?_)
      refine sn_goto (pc' := 73) dX11_find_65 rfl ?_
      exact sn_iret dX11_find_73 rfl rfl
theorem c_X11_find (G : GG) (this : Nat) (a1 : Int32) : Cal G yX11_find cX11_find 4 (some FieldType.int) 9 204 (fun v : Int32 => some (.int v)) (X11_find this a1) [.ref this, .int a1] :=
  Cal.of (by decide) (cat_t (cat_i cat_nil)) rfl (sn_weak (le_s (le_s (le_z (le_z le_e)))) (s_X11_find G this a1))
theorem cw_X11_find : CW yX11_find cX11_find 4 (some FieldType.int) 1 := ⟨tw1095, tw1, by decide, by decide +kernel⟩
/-! X11_place -/
theorem dX11_place_0 : decode cX11_place 0 = .ok (.aload_n 0, 1) := by decide +kernel
theorem dX11_place_1 : decode cX11_place 1 = .ok (.getfield 21, 3) := by decide +kernel
theorem dX11_place_4 : decode cX11_place 4 = .ok (.getfield 134, 3) := by decide +kernel
theorem dX11_place_7 : decode cX11_place 7 = .ok (.ireturn, 1) := by decide +kernel
def X11_place (this : Nat) : MM Int32 :=
  mb (gR 12 (some this) 1) fun v1 =>
  mb (gI 8 v1 5) fun v2 =>
  mr v2
set_option maxRecDepth 100000 in
set_option maxHeartbeats 4000000 in
theorem s_X11_place (G : GG) (this : Nat) : Sn G yX11_place cX11_place 1 (some FieldType.int) 0 0 (fun v : Int32 => some (.int v)) (X11_place this) 0 [some (va_rf (some this))] [] := by
  unfold X11_place
  refine sn_aload_n (v := (some this)) (pc' := 1) dX11_place_0 rfl rfl rfl ?_
  refine sn_gR (k := 1) (pc' := 4) ci_12 rfl (Or.inl tw274) dX11_place_1 rfl (fun v1 => ?_)
  refine sn_gI (k := 5) (pc' := 7) ci_8 rfl (Or.inr ⟨_, nw166⟩) dX11_place_4 rfl (fun v2 => ?_)
  exact sn_iret dX11_place_7 rfl rfl
theorem c_X11_place (G : GG) (this : Nat) : Cal G yX11_place cX11_place 1 (some FieldType.int) 0 0 (fun v : Int32 => some (.int v)) (X11_place this) [.ref this] :=
  Cal.of (by decide) (cat_t cat_nil) rfl (sn_weak (le_s le_e) (s_X11_place G this))
theorem cw_X11_place : CW yX11_place cX11_place 1 (some FieldType.int) 0 := ⟨tw1104, tw1, by decide, by decide +kernel⟩
/-! X11_fault -/
theorem dX11_fault_0 : decode cX11_fault 0 = .ok (.aload_n 0, 1) := by decide +kernel
theorem dX11_fault_1 : decode cX11_fault 1 = .ok (.getfield 88, 3) := by decide +kernel
theorem dX11_fault_4 : decode cX11_fault 4 = .ok (.ireturn, 1) := by decide +kernel
def X11_fault (this : Nat) : MM Int32 :=
  mb (gI 12 (some this) 10) fun v1 =>
  mr v1
set_option maxRecDepth 100000 in
set_option maxHeartbeats 4000000 in
theorem s_X11_fault (G : GG) (this : Nat) : Sn G yX11_fault cX11_fault 1 (some FieldType.int) 0 0 (fun v : Int32 => some (.int v)) (X11_fault this) 0 [some (va_rf (some this))] [] := by
  unfold X11_fault
  refine sn_aload_n (v := (some this)) (pc' := 1) dX11_fault_0 rfl rfl rfl ?_
  refine sn_gI (k := 10) (pc' := 4) ci_12 rfl (Or.inl tw283) dX11_fault_1 rfl (fun v1 => ?_)
  exact sn_iret dX11_fault_4 rfl rfl
theorem c_X11_fault (G : GG) (this : Nat) : Cal G yX11_fault cX11_fault 1 (some FieldType.int) 0 0 (fun v : Int32 => some (.int v)) (X11_fault this) [.ref this] :=
  Cal.of (by decide) (cat_t cat_nil) rfl (sn_weak (le_s le_e) (s_X11_fault G this))
theorem cw_X11_fault : CW yX11_fault cX11_fault 1 (some FieldType.int) 0 := ⟨tw1108, tw1, by decide, by decide +kernel⟩
/-! X11_count -/
theorem dX11_count_0 : decode cX11_count 0 = .ok (.iload_n 1, 1) := by decide +kernel
theorem dX11_count_1 : decode cX11_count 1 = .ok (.tableswitch 57 0 2 #[27, 36, 45], 27) := by decide +kernel
theorem dX11_count_28 : decode cX11_count 28 = .ok (.aload_n 0, 1) := by decide +kernel
theorem dX11_count_29 : decode cX11_count 29 = .ok (.aload_n 0, 1) := by decide +kernel
theorem dX11_count_30 : decode cX11_count 30 = .ok (.getfield 137, 3) := by decide +kernel
theorem dX11_count_33 : decode cX11_count 33 = .ok (.invokevirtual 82, 3) := by decide +kernel
theorem dX11_count_36 : decode cX11_count 36 = .ok (.ireturn, 1) := by decide +kernel
theorem dX11_count_37 : decode cX11_count 37 = .ok (.aload_n 0, 1) := by decide +kernel
theorem dX11_count_38 : decode cX11_count 38 = .ok (.aload_n 0, 1) := by decide +kernel
theorem dX11_count_39 : decode cX11_count 39 = .ok (.getfield 140, 3) := by decide +kernel
theorem dX11_count_42 : decode cX11_count 42 = .ok (.invokevirtual 82, 3) := by decide +kernel
theorem dX11_count_45 : decode cX11_count 45 = .ok (.ireturn, 1) := by decide +kernel
theorem dX11_count_46 : decode cX11_count 46 = .ok (.aload_n 0, 1) := by decide +kernel
theorem dX11_count_47 : decode cX11_count 47 = .ok (.aload_n 0, 1) := by decide +kernel
theorem dX11_count_48 : decode cX11_count 48 = .ok (.getfield 12, 3) := by decide +kernel
theorem dX11_count_51 : decode cX11_count 51 = .ok (.getfield 78, 3) := by decide +kernel
theorem dX11_count_54 : decode cX11_count 54 = .ok (.invokevirtual 82, 3) := by decide +kernel
theorem dX11_count_57 : decode cX11_count 57 = .ok (.ireturn, 1) := by decide +kernel
theorem dX11_count_58 : decode cX11_count 58 = .ok (.aload_n 0, 1) := by decide +kernel
theorem dX11_count_59 : decode cX11_count 59 = .ok (.iconst 3, 1) := by decide +kernel
theorem dX11_count_60 : decode cX11_count 60 = .ok (.invokevirtual 71, 3) := by decide +kernel
theorem dX11_count_63 : decode cX11_count 63 = .ok (.ireturn, 1) := by decide +kernel
def X11_count (this : Nat) (a1 : Int32) : MM Int32 :=
  if a1 = (0 : Int32) then (mb (gI 12 (some this) 8) fun v1 =>
  mb (wc 12 (some this) fun t => X11_answer t v1) fun v2 =>
  mr v2) else (if a1 = (1 : Int32) then (mb (gI 12 (some this) 9) fun v3 =>
  mb (wc 12 (some this) fun t => X11_answer t v3) fun v4 =>
  mr v4) else (if a1 = (2 : Int32) then (mb (gR 12 (some this) 0) fun v5 =>
  mb (gI 11 v5 4) fun v6 =>
  mb (wc 12 (some this) fun t => X11_answer t v6) fun v7 =>
  mr v7) else (mb (wc 12 (some this) fun t => X11_refuse t (3 : Int32)) fun v8 =>
  mr v8)))
set_option maxRecDepth 100000 in
set_option maxHeartbeats 4000000 in
theorem s_X11_count (G : GG) (this : Nat) (a1 : Int32) : Sn G yX11_count cX11_count 2 (some FieldType.int) 1 21 (fun v : Int32 => some (.int v)) (X11_count this a1) 0 [some (va_rf (some this)), some (.int a1)] [] := by
  unfold X11_count
  refine sn_iload_n (v := a1) (pc' := 1) dX11_count_0 rfl rfl rfl ?_
  refine sn_or (d := a1 = (0 : Int32)) (fun hc => ?_) (fun hc0 => ?_)
  · refine sn_tsI (pt := 28) (off := 27) dX11_count_1 (by rw [hc]; decide) (by rw [hc]; decide) (by rw [hc]; rfl) rfl ?_
    refine sn_aload_n (v := (some this)) (pc' := 29) dX11_count_28 rfl rfl rfl ?_
    refine sn_aload_n (v := (some this)) (pc' := 30) dX11_count_29 rfl rfl rfl ?_
    refine sn_gI (k := 8) (pc' := 33) ci_12 rfl (Or.inl tw281) dX11_count_30 rfl (fun v1 => ?_)
    refine sn_cV (r := (some this)) (st := []) (As := [.int v1]) (st2 := (fun v => .int v :: [])) (pc' := 36) ci_12 (fun t => c_X11_answer G t v1) cw_X11_answer rfl rfl tw326 pw1 tw328 rfl rfl cat_nil rfl (fun _ => rfl) dX11_count_33 rfl (fun v2 => ?_)
    exact sn_iret dX11_count_36 rfl rfl
  refine sn_or (d := a1 = (1 : Int32)) (fun hc => ?_) (fun hc1 => ?_)
  · refine sn_tsI (pt := 37) (off := 36) dX11_count_1 (by rw [hc]; decide) (by rw [hc]; decide) (by rw [hc]; rfl) rfl ?_
    refine sn_aload_n (v := (some this)) (pc' := 38) dX11_count_37 rfl rfl rfl ?_
    refine sn_aload_n (v := (some this)) (pc' := 39) dX11_count_38 rfl rfl rfl ?_
    refine sn_gI (k := 9) (pc' := 42) ci_12 rfl (Or.inl tw282) dX11_count_39 rfl (fun v3 => ?_)
    refine sn_cV (r := (some this)) (st := []) (As := [.int v3]) (st2 := (fun v => .int v :: [])) (pc' := 45) ci_12 (fun t => c_X11_answer G t v3) cw_X11_answer rfl rfl tw326 pw1 tw328 rfl rfl cat_nil rfl (fun _ => rfl) dX11_count_42 rfl (fun v4 => ?_)
    exact sn_iret dX11_count_45 rfl rfl
  refine sn_or (d := a1 = (2 : Int32)) (fun hc => ?_) (fun hc2 => ?_)
  · refine sn_tsI (pt := 46) (off := 45) dX11_count_1 (by rw [hc]; decide) (by rw [hc]; decide) (by rw [hc]; rfl) rfl ?_
    refine sn_aload_n (v := (some this)) (pc' := 47) dX11_count_46 rfl rfl rfl ?_
    refine sn_aload_n (v := (some this)) (pc' := 48) dX11_count_47 rfl rfl rfl ?_
    refine sn_gR (k := 0) (pc' := 51) ci_12 rfl (Or.inl tw273) dX11_count_48 rfl (fun v5 => ?_)
    refine sn_gI (k := 4) (pc' := 54) ci_11 rfl (Or.inr ⟨_, nw73⟩) dX11_count_51 rfl (fun v6 => ?_)
    refine sn_cV (r := (some this)) (st := []) (As := [.int v6]) (st2 := (fun v => .int v :: [])) (pc' := 57) ci_12 (fun t => c_X11_answer G t v6) cw_X11_answer rfl rfl tw326 pw1 tw328 rfl rfl cat_nil rfl (fun _ => rfl) dX11_count_54 rfl (fun v7 => ?_)
    exact sn_iret dX11_count_57 rfl rfl
  refine sn_tsO (pt := 58) dX11_count_1 (by
    have h9 := ts_out 0 3 (by decide) (fun j h1 h2 => by
      rcases (show j = 0 ∨ j = 1 ∨ j = 2 by omega) with e | e | e
      · subst e; exact hc0
      · subst e; exact hc1
      · subst e; exact hc2
      )
    omega) rfl ?_
  refine sn_aload_n (v := (some this)) (pc' := 59) dX11_count_58 rfl rfl rfl ?_
  refine sn_iconst (v := (3 : Int32)) (pc' := 60) dX11_count_59 rfl (by decide) ?_
  refine sn_cV (r := (some this)) (st := []) (As := [.int (3 : Int32)]) (st2 := (fun v => .int v :: [])) (pc' := 63) ci_12 (fun t => c_X11_refuse G t (3 : Int32)) cw_X11_refuse rfl rfl tw318 pw0 tw320 rfl rfl cat_nil rfl (fun _ => rfl) dX11_count_60 rfl (fun v8 => ?_)
  exact sn_iret dX11_count_63 rfl rfl
theorem c_X11_count (G : GG) (this : Nat) (a1 : Int32) : Cal G yX11_count cX11_count 2 (some FieldType.int) 1 21 (fun v : Int32 => some (.int v)) (X11_count this a1) [.ref this, .int a1] :=
  Cal.of (by decide) (cat_t (cat_i cat_nil)) rfl (sn_weak (le_s (le_s le_e)) (s_X11_count G this a1))
theorem cw_X11_count : CW yX11_count cX11_count 2 (some FieldType.int) 1 := ⟨tw1112, tw1, by decide, by decide +kernel⟩
/-! X11_gatherings -/
theorem dX11_gatherings_0 : decode cX11_gatherings 0 = .ok (.aload_n 0, 1) := by decide +kernel
theorem dX11_gatherings_1 : decode cX11_gatherings 1 = .ok (.iload_n 1, 1) := by decide +kernel
theorem dX11_gatherings_2 : decode cX11_gatherings 2 = .ok (.invokevirtual 102, 3) := by decide +kernel
theorem dX11_gatherings_5 : decode cX11_gatherings 5 = .ok (.astore_n 2, 1) := by decide +kernel
theorem dX11_gatherings_6 : decode cX11_gatherings 6 = .ok (.aload_n 2, 1) := by decide +kernel
theorem dX11_gatherings_7 : decode cX11_gatherings 7 = .ok (.ifnonnull 11, 3) := by decide +kernel
theorem dX11_gatherings_10 : decode cX11_gatherings 10 = .ok (.aload_n 0, 1) := by decide +kernel
theorem dX11_gatherings_11 : decode cX11_gatherings 11 = .ok (.iconst 1, 1) := by decide +kernel
theorem dX11_gatherings_12 : decode cX11_gatherings 12 = .ok (.invokevirtual 71, 3) := by decide +kernel
theorem dX11_gatherings_15 : decode cX11_gatherings 15 = .ok (.goto 14, 3) := by decide +kernel
theorem dX11_gatherings_18 : decode cX11_gatherings 18 = .ok (.aload_n 0, 1) := by decide +kernel
theorem dX11_gatherings_19 : decode cX11_gatherings 19 = .ok (.aload_n 2, 1) := by decide +kernel
theorem dX11_gatherings_20 : decode cX11_gatherings 20 = .ok (.getfield 143, 3) := by decide +kernel
theorem dX11_gatherings_23 : decode cX11_gatherings 23 = .ok (.getfield 146, 3) := by decide +kernel
theorem dX11_gatherings_26 : decode cX11_gatherings 26 = .ok (.invokevirtual 82, 3) := by decide +kernel
theorem dX11_gatherings_29 : decode cX11_gatherings 29 = .ok (.ireturn, 1) := by decide +kernel
def X11_gatherings (this : Nat) (a1 : Int32) : MM Int32 :=
  mb (wc 12 (some this) fun t => X11_bookAt t a1) fun v1 =>
  if v1 = none then (mb (wc 12 (some this) fun t => X11_refuse t (1 : Int32)) fun v2 =>
  mr v2) else (mb (gR 2 v1 0) fun v3 =>
  mb (gI 7 v3 4) fun v4 =>
  mb (wc 12 (some this) fun t => X11_answer t v4) fun v5 =>
  mr v5)
set_option maxRecDepth 100000 in
set_option maxHeartbeats 4000000 in
theorem s_X11_gatherings (G : GG) (this : Nat) (a1 : Int32) : Sn G yX11_gatherings cX11_gatherings 3 (some FieldType.int) 1 21 (fun v : Int32 => some (.int v)) (X11_gatherings this a1) 0 [some (va_rf (some this)), some (.int a1), none] [] := by
  unfold X11_gatherings
  refine sn_aload_n (v := (some this)) (pc' := 1) dX11_gatherings_0 rfl rfl rfl ?_
  refine sn_iload_n (v := a1) (pc' := 2) dX11_gatherings_1 rfl rfl rfl ?_
  refine sn_cV (r := (some this)) (st := []) (As := [.int a1]) (st2 := (fun v => va_rf v :: [])) (pc' := 5) ci_12 (fun t => c_X11_bookAt G t a1) cw_X11_bookAt rfl rfl tw910 pw22 tw912 rfl rfl cat_nil rfl (fun _ => rfl) dX11_gatherings_2 rfl (fun v1 => ?_)
  refine sn_astore_n (v := v1) (L' := [some (va_rf (some this)), some (.int a1), some (va_rf v1)]) (pc' := 6) dX11_gatherings_5 rfl rfl rfl rfl ?_
  refine sn_aload_n (v := v1) (pc' := 7) dX11_gatherings_6 rfl rfl rfl ?_
  refine sn_ifnonnull (pt := 18) (pf := 10) dX11_gatherings_7 rfl rfl ?_ ?_
  · refine sn_aload_n (v := (some this)) (pc' := 11) dX11_gatherings_10 rfl rfl rfl ?_
    refine sn_iconst (v := (1 : Int32)) (pc' := 12) dX11_gatherings_11 rfl (by decide) ?_
    refine sn_cV (r := (some this)) (st := []) (As := [.int (1 : Int32)]) (st2 := (fun v => .int v :: [])) (pc' := 15) ci_12 (fun t => c_X11_refuse G t (1 : Int32)) cw_X11_refuse rfl rfl tw318 pw0 tw320 rfl rfl cat_nil rfl (fun _ => rfl) dX11_gatherings_12 rfl (fun v2 => ?_)
    refine sn_goto (pc' := 29) dX11_gatherings_15 rfl ?_
    exact sn_iret dX11_gatherings_29 rfl rfl
  · refine sn_aload_n (v := (some this)) (pc' := 19) dX11_gatherings_18 rfl rfl rfl ?_
    refine sn_aload_n (v := v1) (pc' := 20) dX11_gatherings_19 rfl rfl rfl ?_
    refine sn_gR (k := 0) (pc' := 23) ci_2 rfl (Or.inr ⟨_, nw881⟩) dX11_gatherings_20 rfl (fun v3 => ?_)
    refine sn_gI (k := 4) (pc' := 26) ci_7 rfl (Or.inr ⟨_, nw193⟩) dX11_gatherings_23 rfl (fun v4 => ?_)
    refine sn_cV (r := (some this)) (st := []) (As := [.int v4]) (st2 := (fun v => .int v :: [])) (pc' := 29) ci_12 (fun t => c_X11_answer G t v4) cw_X11_answer rfl rfl tw326 pw1 tw328 rfl rfl cat_nil rfl (fun _ => rfl) dX11_gatherings_26 rfl (fun v5 => ?_)
    exact sn_iret dX11_gatherings_29 rfl rfl
theorem c_X11_gatherings (G : GG) (this : Nat) (a1 : Int32) : Cal G yX11_gatherings cX11_gatherings 3 (some FieldType.int) 1 21 (fun v : Int32 => some (.int v)) (X11_gatherings this a1) [.ref this, .int a1] :=
  Cal.of (by decide) (cat_t (cat_i cat_nil)) rfl (sn_weak (le_s (le_s (le_z le_e))) (s_X11_gatherings G this a1))
theorem cw_X11_gatherings : CW yX11_gatherings cX11_gatherings 3 (some FieldType.int) 1 := ⟨tw1116, tw1, by decide, by decide +kernel⟩
/-! X0_cutOf -/
theorem dX0_cutOf_0 : decode cX0_cutOf 0 = .ok (.iconst 0, 1) := by decide +kernel
theorem dX0_cutOf_1 : decode cX0_cutOf 1 = .ok (.istore_n 2, 1) := by decide +kernel
theorem dX0_cutOf_2 : decode cX0_cutOf 2 = .ok (.iconst 1, 1) := by decide +kernel
theorem dX0_cutOf_3 : decode cX0_cutOf 3 = .ok (.istore_n 3, 1) := by decide +kernel
theorem dX0_cutOf_4 : decode cX0_cutOf 4 = .ok (.iload_n 3, 1) := by decide +kernel
theorem dX0_cutOf_5 : decode cX0_cutOf 5 = .ok (.aload_n 0, 1) := by decide +kernel
theorem dX0_cutOf_6 : decode cX0_cutOf 6 = .ok (.getfield 12, 3) := by decide +kernel
theorem dX0_cutOf_9 : decode cX0_cutOf 9 = .ok (.iload_n 1, 1) := by decide +kernel
theorem dX0_cutOf_10 : decode cX0_cutOf 10 = .ok (.invokevirtual 59, 3) := by decide +kernel
theorem dX0_cutOf_13 : decode cX0_cutOf 13 = .ok (.if_icmp .gt 31, 3) := by decide +kernel
theorem dX0_cutOf_16 : decode cX0_cutOf 16 = .ok (.aload_n 0, 1) := by decide +kernel
theorem dX0_cutOf_17 : decode cX0_cutOf 17 = .ok (.getfield 12, 3) := by decide +kernel
theorem dX0_cutOf_20 : decode cX0_cutOf 20 = .ok (.aload_n 0, 1) := by decide +kernel
theorem dX0_cutOf_21 : decode cX0_cutOf 21 = .ok (.getfield 12, 3) := by decide +kernel
theorem dX0_cutOf_24 : decode cX0_cutOf 24 = .ok (.iload_n 1, 1) := by decide +kernel
theorem dX0_cutOf_25 : decode cX0_cutOf 25 = .ok (.iload_n 3, 1) := by decide +kernel
theorem dX0_cutOf_26 : decode cX0_cutOf 26 = .ok (.invokevirtual 62, 3) := by decide +kernel
theorem dX0_cutOf_29 : decode cX0_cutOf 29 = .ok (.invokevirtual 70, 3) := by decide +kernel
theorem dX0_cutOf_32 : decode cX0_cutOf 32 = .ok (.ifCond .eq 6, 3) := by decide +kernel
theorem dX0_cutOf_35 : decode cX0_cutOf 35 = .ok (.iinc 2 1, 3) := by decide +kernel
theorem dX0_cutOf_38 : decode cX0_cutOf 38 = .ok (.iinc 3 1, 3) := by decide +kernel
theorem dX0_cutOf_41 : decode cX0_cutOf 41 = .ok (.goto (-37), 3) := by decide +kernel
theorem dX0_cutOf_44 : decode cX0_cutOf 44 = .ok (.iload_n 2, 1) := by decide +kernel
theorem dX0_cutOf_45 : decode cX0_cutOf 45 = .ok (.ireturn, 1) := by decide +kernel
def X0_cutOf_38 (k4 : Nat → Int32 → Int32 → Int32 → MM Int32) (this : Nat) (x1 : Int32) (x2 : Int32) (x3 : Int32) : MM Int32 :=
  (k4 this x1 x2 (x3 + (1 : Int32)))
def X0_cutOf_4_st  (k4 : Nat → Int32 → Int32 → Int32 → MM Int32) (this : Nat) (x1 : Int32) (x2 : Int32) (x3 : Int32) : MM Int32 :=
  mb (gR 2 (some this) 0) fun v1 =>
  mb (wc 7 v1 fun t => X6_sizeOf t x1) fun v2 =>
  if v2 < x3 then (mr x2) else (mb (gR 2 (some this) 0) fun v3 =>
  mb (gR 2 (some this) 0) fun v4 =>
  mb (wc 7 v4 fun t => X6_slotOf t x1 x3) fun v5 =>
  mb (wc 7 v3 fun t => X6_isCut t v5) fun v6 =>
  if v6 = 0 then ((X0_cutOf_38 k4 this x1 x2 x3)) else ((X0_cutOf_38 k4 this x1 (x2 + (1 : Int32)) x3)))
def X0_cutOf_4  : Nat → Nat → Int32 → Int32 → Int32 → MM Int32
  | 0 => fun _ _ _ _ => mf
  | n + 1 => fun this x1 x2 x3 => X0_cutOf_4_st  (X0_cutOf_4  n) this x1 x2 x3
def X0_cutOf (this : Nat) (a1 : Int32) : MM Int32 :=
  (X0_cutOf_4 LFU this a1 (0 : Int32) (1 : Int32))
set_option maxRecDepth 100000 in
set_option maxHeartbeats 4000000 in
theorem s_X0_cutOf_38 (G : GG) (k4 : Nat → Int32 → Int32 → Int32 → MM Int32) (hk4 : ∀ (this : Nat) (x1 : Int32) (x2 : Int32) (x3 : Int32), Sn G yX0_cutOf cX0_cutOf 4 (some FieldType.int) 2 43 (fun v : Int32 => some (.int v)) (k4 this x1 x2 x3) 4 [some (va_rf (some this)), some (.int x1), some (.int x2), some (.int x3)] []) (this : Nat) (x1 : Int32) (x2 : Int32) (x3 : Int32) : Sn G yX0_cutOf cX0_cutOf 4 (some FieldType.int) 2 43 (fun v : Int32 => some (.int v)) (X0_cutOf_38 k4 this x1 x2 x3) 38 [some (va_rf (some this)), some (.int x1), some (.int x2), some (.int x3)] [] := by
  unfold X0_cutOf_38
  refine sn_iinc (v := x3) (w := 1) (L' := [some (va_rf (some this)), some (.int x1), some (.int x2), some (.int (x3 + (1 : Int32)))]) (pc' := 41) dX0_cutOf_38 rfl rfl rfl (by decide) rfl ?_
  refine sn_goto (pc' := 4) dX0_cutOf_41 rfl ?_
  exact sn_weak (le_s (le_s (le_s (le_s le_e)))) (hk4 this x1 x2 (x3 + (1 : Int32)))
set_option maxRecDepth 100000 in
set_option maxHeartbeats 4000000 in
theorem s_X0_cutOf_4_st (G : GG)   (k4 : Nat → Int32 → Int32 → Int32 → MM Int32) (hk4 : ∀ (this : Nat) (x1 : Int32) (x2 : Int32) (x3 : Int32), Sn G yX0_cutOf cX0_cutOf 4 (some FieldType.int) 2 43 (fun v : Int32 => some (.int v)) (k4 this x1 x2 x3) 4 [some (va_rf (some this)), some (.int x1), some (.int x2), some (.int x3)] []) (this : Nat) (x1 : Int32) (x2 : Int32) (x3 : Int32) : Sn G yX0_cutOf cX0_cutOf 4 (some FieldType.int) 2 43 (fun v : Int32 => some (.int v)) (X0_cutOf_4_st  k4 this x1 x2 x3) 4 [some (va_rf (some this)), some (.int x1), some (.int x2), some (.int x3)] [] := by
  unfold X0_cutOf_4_st
  refine sn_iload_n (v := x3) (pc' := 5) dX0_cutOf_4 rfl rfl rfl ?_
  refine sn_aload_n (v := (some this)) (pc' := 6) dX0_cutOf_5 rfl rfl rfl ?_
  refine sn_gR (k := 0) (pc' := 9) ci_2 rfl (Or.inl tw880) dX0_cutOf_6 rfl (fun v1 => ?_)
  refine sn_iload_n (v := x1) (pc' := 10) dX0_cutOf_9 rfl rfl rfl ?_
  refine sn_cV (r := v1) (st := [.int x3]) (As := [.int x1]) (st2 := (fun v => .int v :: [.int x3])) (pc' := 13) ci_7 (fun t => c_X6_sizeOf G t x1) cw_X6_sizeOf rfl rfl tw859 tw539 tw538 rfl rfl (cat_i cat_nil) rfl (fun _ => rfl) dX0_cutOf_10 rfl (fun v2 => ?_)
  refine sn_ic_gt (pt := 44) (pf := 16) dX0_cutOf_13 rfl rfl ?_ ?_
  · refine sn_iload_n (v := x2) (pc' := 45) dX0_cutOf_44 rfl rfl rfl ?_
    exact sn_iret dX0_cutOf_45 rfl rfl
  · refine sn_aload_n (v := (some this)) (pc' := 17) dX0_cutOf_16 rfl rfl rfl ?_
    refine sn_gR (k := 0) (pc' := 20) ci_2 rfl (Or.inl tw880) dX0_cutOf_17 rfl (fun v3 => ?_)
    refine sn_aload_n (v := (some this)) (pc' := 21) dX0_cutOf_20 rfl rfl rfl ?_
    refine sn_gR (k := 0) (pc' := 24) ci_2 rfl (Or.inl tw880) dX0_cutOf_21 rfl (fun v4 => ?_)
    refine sn_iload_n (v := x1) (pc' := 25) dX0_cutOf_24 rfl rfl rfl ?_
    refine sn_iload_n (v := x3) (pc' := 26) dX0_cutOf_25 rfl rfl rfl ?_
    refine sn_cV (r := v4) (st := [va_rf v3]) (As := [.int x1, .int x3]) (st2 := (fun v => .int v :: [va_rf v3])) (pc' := 29) ci_7 (fun t => c_X6_slotOf G t x1 x3) cw_X6_slotOf rfl rfl tw860 tw560 tw559 rfl rfl (cat_q cat_nil) rfl (fun _ => rfl) dX0_cutOf_26 rfl (fun v5 => ?_)
    refine sn_cV (r := v3) (st := []) (As := [.int v5]) (st2 := (fun v => .int v :: [])) (pc' := 32) ci_7 (fun t => c_X6_isCut G t v5) cw_X6_isCut rfl rfl tw865 tw867 tw866 rfl rfl cat_nil rfl (fun _ => rfl) dX0_cutOf_29 rfl (fun v6 => ?_)
    refine sn_if_eq (pt := 38) (pf := 35) dX0_cutOf_32 rfl rfl ?_ ?_
    · exact sn_weak (le_s (le_s (le_s (le_s le_e)))) (s_X0_cutOf_38 G k4 hk4 this x1 x2 x3)
    · refine sn_iinc (v := x2) (w := 1) (L' := [some (va_rf (some this)), some (.int x1), some (.int (x2 + (1 : Int32))), some (.int x3)]) (pc' := 38) dX0_cutOf_35 rfl rfl rfl (by decide) rfl ?_
      exact sn_weak (le_s (le_s (le_s (le_s le_e)))) (s_X0_cutOf_38 G k4 hk4 this x1 (x2 + (1 : Int32)) x3)
set_option maxRecDepth 100000 in
set_option maxHeartbeats 4000000 in
theorem s_X0_cutOf_4 (G : GG)   : ∀ (n : Nat) (this : Nat) (x1 : Int32) (x2 : Int32) (x3 : Int32), Sn G yX0_cutOf cX0_cutOf 4 (some FieldType.int) 2 43 (fun v : Int32 => some (.int v)) (X0_cutOf_4  n this x1 x2 x3) 4 [some (va_rf (some this)), some (.int x1), some (.int x2), some (.int x3)] [] := by
  intro n
  induction n with
  | zero => intro this x1 x2 x3; exact sn_mf
  | succ n ih => intro this x1 x2 x3; exact s_X0_cutOf_4_st G   (X0_cutOf_4  n) ih this x1 x2 x3
set_option maxRecDepth 100000 in
set_option maxHeartbeats 4000000 in
theorem s_X0_cutOf (G : GG) (this : Nat) (a1 : Int32) : Sn G yX0_cutOf cX0_cutOf 4 (some FieldType.int) 2 43 (fun v : Int32 => some (.int v)) (X0_cutOf this a1) 0 [some (va_rf (some this)), some (.int a1), none, none] [] := by
  unfold X0_cutOf
  refine sn_iconst (v := (0 : Int32)) (pc' := 1) dX0_cutOf_0 rfl (by decide) ?_
  refine sn_istore_n (v := (0 : Int32)) (L' := [some (va_rf (some this)), some (.int a1), some (.int (0 : Int32)), none]) (pc' := 2) dX0_cutOf_1 rfl rfl rfl rfl ?_
  refine sn_iconst (v := (1 : Int32)) (pc' := 3) dX0_cutOf_2 rfl (by decide) ?_
  refine sn_istore_n (v := (1 : Int32)) (L' := [some (va_rf (some this)), some (.int a1), some (.int (0 : Int32)), some (.int (1 : Int32))]) (pc' := 4) dX0_cutOf_3 rfl rfl rfl rfl ?_
  exact sn_weak (le_s (le_s (le_s (le_s le_e)))) (s_X0_cutOf_4 G LFU this a1 (0 : Int32) (1 : Int32))
theorem c_X0_cutOf (G : GG) (this : Nat) (a1 : Int32) : Cal G yX0_cutOf cX0_cutOf 4 (some FieldType.int) 2 43 (fun v : Int32 => some (.int v)) (X0_cutOf this a1) [.ref this, .int a1] :=
  Cal.of (by decide) (cat_t (cat_i cat_nil)) rfl (sn_weak (le_s (le_s (le_z (le_z le_e)))) (s_X0_cutOf G this a1))
theorem cw_X0_cutOf : CW yX0_cutOf cX0_cutOf 4 (some FieldType.int) 1 := ⟨tw1132, tw21, by decide, by decide +kernel⟩
/-! X0_leavesOf -/
theorem dX0_leavesOf_0 : decode cX0_leavesOf 0 = .ok (.aload_n 0, 1) := by decide +kernel
theorem dX0_leavesOf_1 : decode cX0_leavesOf 1 = .ok (.getfield 12, 3) := by decide +kernel
theorem dX0_leavesOf_4 : decode cX0_leavesOf 4 = .ok (.iload_n 1, 1) := by decide +kernel
theorem dX0_leavesOf_5 : decode cX0_leavesOf 5 = .ok (.invokevirtual 59, 3) := by decide +kernel
theorem dX0_leavesOf_8 : decode cX0_leavesOf 8 = .ok (.aload_n 0, 1) := by decide +kernel
theorem dX0_leavesOf_9 : decode cX0_leavesOf 9 = .ok (.iload_n 1, 1) := by decide +kernel
theorem dX0_leavesOf_10 : decode cX0_leavesOf 10 = .ok (.invokevirtual 93, 3) := by decide +kernel
theorem dX0_leavesOf_13 : decode cX0_leavesOf 13 = .ok (.isub, 1) := by decide +kernel
theorem dX0_leavesOf_14 : decode cX0_leavesOf 14 = .ok (.istore_n 2, 1) := by decide +kernel
theorem dX0_leavesOf_15 : decode cX0_leavesOf 15 = .ok (.iconst 1, 1) := by decide +kernel
theorem dX0_leavesOf_16 : decode cX0_leavesOf 16 = .ok (.istore_n 3, 1) := by decide +kernel
theorem dX0_leavesOf_17 : decode cX0_leavesOf 17 = .ok (.iload_n 3, 1) := by decide +kernel
theorem dX0_leavesOf_18 : decode cX0_leavesOf 18 = .ok (.aload_n 0, 1) := by decide +kernel
theorem dX0_leavesOf_19 : decode cX0_leavesOf 19 = .ok (.getfield 12, 3) := by decide +kernel
theorem dX0_leavesOf_22 : decode cX0_leavesOf 22 = .ok (.iload_n 1, 1) := by decide +kernel
theorem dX0_leavesOf_23 : decode cX0_leavesOf 23 = .ok (.invokevirtual 59, 3) := by decide +kernel
theorem dX0_leavesOf_26 : decode cX0_leavesOf 26 = .ok (.if_icmp .gt 28, 3) := by decide +kernel
theorem dX0_leavesOf_29 : decode cX0_leavesOf 29 = .ok (.iload_n 2, 1) := by decide +kernel
theorem dX0_leavesOf_30 : decode cX0_leavesOf 30 = .ok (.aload_n 0, 1) := by decide +kernel
theorem dX0_leavesOf_31 : decode cX0_leavesOf 31 = .ok (.getfield 12, 3) := by decide +kernel
theorem dX0_leavesOf_34 : decode cX0_leavesOf 34 = .ok (.aload_n 0, 1) := by decide +kernel
theorem dX0_leavesOf_35 : decode cX0_leavesOf 35 = .ok (.getfield 12, 3) := by decide +kernel
theorem dX0_leavesOf_38 : decode cX0_leavesOf 38 = .ok (.iload_n 1, 1) := by decide +kernel
theorem dX0_leavesOf_39 : decode cX0_leavesOf 39 = .ok (.iload_n 3, 1) := by decide +kernel
theorem dX0_leavesOf_40 : decode cX0_leavesOf 40 = .ok (.invokevirtual 62, 3) := by decide +kernel
theorem dX0_leavesOf_43 : decode cX0_leavesOf 43 = .ok (.invokevirtual 81, 3) := by decide +kernel
theorem dX0_leavesOf_46 : decode cX0_leavesOf 46 = .ok (.iadd, 1) := by decide +kernel
theorem dX0_leavesOf_47 : decode cX0_leavesOf 47 = .ok (.istore_n 2, 1) := by decide +kernel
theorem dX0_leavesOf_48 : decode cX0_leavesOf 48 = .ok (.iinc 3 1, 3) := by decide +kernel
theorem dX0_leavesOf_51 : decode cX0_leavesOf 51 = .ok (.goto (-34), 3) := by decide +kernel
theorem dX0_leavesOf_54 : decode cX0_leavesOf 54 = .ok (.iload_n 2, 1) := by decide +kernel
theorem dX0_leavesOf_55 : decode cX0_leavesOf 55 = .ok (.ireturn, 1) := by decide +kernel
def X0_leavesOf_17_st  (k17 : Nat → Int32 → Int32 → Int32 → MM Int32) (this : Nat) (x1 : Int32) (x2 : Int32) (x3 : Int32) : MM Int32 :=
  mb (gR 2 (some this) 0) fun v1 =>
  mb (wc 7 v1 fun t => X6_sizeOf t x1) fun v2 =>
  if v2 < x3 then (mr x2) else (mb (gR 2 (some this) 0) fun v3 =>
  mb (gR 2 (some this) 0) fun v4 =>
  mb (wc 7 v4 fun t => X6_slotOf t x1 x3) fun v5 =>
  mb (wc 7 v3 fun t => X6_insertedAt t v5) fun v6 =>
  (k17 this x1 (x2 + v6) (x3 + (1 : Int32))))
def X0_leavesOf_17  : Nat → Nat → Int32 → Int32 → Int32 → MM Int32
  | 0 => fun _ _ _ _ => mf
  | n + 1 => fun this x1 x2 x3 => X0_leavesOf_17_st  (X0_leavesOf_17  n) this x1 x2 x3
def X0_leavesOf (this : Nat) (a1 : Int32) : MM Int32 :=
  mb (gR 2 (some this) 0) fun v1 =>
  mb (wc 7 v1 fun t => X6_sizeOf t a1) fun v2 =>
  mb (wc 2 (some this) fun t => X0_cutOf t a1) fun v3 =>
  (X0_leavesOf_17 LFU this a1 (v2 - v3) (1 : Int32))
set_option maxRecDepth 100000 in
set_option maxHeartbeats 4000000 in
theorem s_X0_leavesOf_17_st (G : GG)   (k17 : Nat → Int32 → Int32 → Int32 → MM Int32) (hk17 : ∀ (this : Nat) (x1 : Int32) (x2 : Int32) (x3 : Int32), Sn G yX0_leavesOf cX0_leavesOf 4 (some FieldType.int) 3 66 (fun v : Int32 => some (.int v)) (k17 this x1 x2 x3) 17 [some (va_rf (some this)), some (.int x1), some (.int x2), some (.int x3)] []) (this : Nat) (x1 : Int32) (x2 : Int32) (x3 : Int32) : Sn G yX0_leavesOf cX0_leavesOf 4 (some FieldType.int) 3 66 (fun v : Int32 => some (.int v)) (X0_leavesOf_17_st  k17 this x1 x2 x3) 17 [some (va_rf (some this)), some (.int x1), some (.int x2), some (.int x3)] [] := by
  unfold X0_leavesOf_17_st
  refine sn_iload_n (v := x3) (pc' := 18) dX0_leavesOf_17 rfl rfl rfl ?_
  refine sn_aload_n (v := (some this)) (pc' := 19) dX0_leavesOf_18 rfl rfl rfl ?_
  refine sn_gR (k := 0) (pc' := 22) ci_2 rfl (Or.inl tw880) dX0_leavesOf_19 rfl (fun v1 => ?_)
  refine sn_iload_n (v := x1) (pc' := 23) dX0_leavesOf_22 rfl rfl rfl ?_
  refine sn_cV (r := v1) (st := [.int x3]) (As := [.int x1]) (st2 := (fun v => .int v :: [.int x3])) (pc' := 26) ci_7 (fun t => c_X6_sizeOf G t x1) cw_X6_sizeOf rfl rfl tw859 tw539 tw538 rfl rfl (cat_i cat_nil) rfl (fun _ => rfl) dX0_leavesOf_23 rfl (fun v2 => ?_)
  refine sn_ic_gt (pt := 54) (pf := 29) dX0_leavesOf_26 rfl rfl ?_ ?_
  · refine sn_iload_n (v := x2) (pc' := 55) dX0_leavesOf_54 rfl rfl rfl ?_
    exact sn_iret dX0_leavesOf_55 rfl rfl
  · refine sn_iload_n (v := x2) (pc' := 30) dX0_leavesOf_29 rfl rfl rfl ?_
    refine sn_aload_n (v := (some this)) (pc' := 31) dX0_leavesOf_30 rfl rfl rfl ?_
    refine sn_gR (k := 0) (pc' := 34) ci_2 rfl (Or.inl tw880) dX0_leavesOf_31 rfl (fun v3 => ?_)
    refine sn_aload_n (v := (some this)) (pc' := 35) dX0_leavesOf_34 rfl rfl rfl ?_
    refine sn_gR (k := 0) (pc' := 38) ci_2 rfl (Or.inl tw880) dX0_leavesOf_35 rfl (fun v4 => ?_)
    refine sn_iload_n (v := x1) (pc' := 39) dX0_leavesOf_38 rfl rfl rfl ?_
    refine sn_iload_n (v := x3) (pc' := 40) dX0_leavesOf_39 rfl rfl rfl ?_
    refine sn_cV (r := v4) (st := [va_rf v3, .int x2]) (As := [.int x1, .int x3]) (st2 := (fun v => .int v :: [va_rf v3, .int x2])) (pc' := 43) ci_7 (fun t => c_X6_slotOf G t x1 x3) cw_X6_slotOf rfl rfl tw860 tw560 tw559 rfl rfl (cat_q (cat_i cat_nil)) rfl (fun _ => rfl) dX0_leavesOf_40 rfl (fun v5 => ?_)
    refine sn_cV (r := v3) (st := [.int x2]) (As := [.int v5]) (st2 := (fun v => .int v :: [.int x2])) (pc' := 46) ci_7 (fun t => c_X6_insertedAt G t v5) cw_X6_insertedAt rfl rfl tw879 tw577 tw576 rfl rfl (cat_i cat_nil) rfl (fun _ => rfl) dX0_leavesOf_43 rfl (fun v6 => ?_)
    refine sn_iadd (pc' := 47) dX0_leavesOf_46 rfl ?_
    refine sn_istore_n (v := (x2 + v6)) (L' := [some (va_rf (some this)), some (.int x1), some (.int (x2 + v6)), some (.int x3)]) (pc' := 48) dX0_leavesOf_47 rfl rfl rfl rfl ?_
    refine sn_iinc (v := x3) (w := 1) (L' := [some (va_rf (some this)), some (.int x1), some (.int (x2 + v6)), some (.int (x3 + (1 : Int32)))]) (pc' := 51) dX0_leavesOf_48 rfl rfl rfl (by decide) rfl ?_
    refine sn_goto (pc' := 17) dX0_leavesOf_51 rfl ?_
    exact sn_weak (le_s (le_s (le_s (le_s le_e)))) (hk17 this x1 (x2 + v6) (x3 + (1 : Int32)))
set_option maxRecDepth 100000 in
set_option maxHeartbeats 4000000 in
theorem s_X0_leavesOf_17 (G : GG)   : ∀ (n : Nat) (this : Nat) (x1 : Int32) (x2 : Int32) (x3 : Int32), Sn G yX0_leavesOf cX0_leavesOf 4 (some FieldType.int) 3 66 (fun v : Int32 => some (.int v)) (X0_leavesOf_17  n this x1 x2 x3) 17 [some (va_rf (some this)), some (.int x1), some (.int x2), some (.int x3)] [] := by
  intro n
  induction n with
  | zero => intro this x1 x2 x3; exact sn_mf
  | succ n ih => intro this x1 x2 x3; exact s_X0_leavesOf_17_st G   (X0_leavesOf_17  n) ih this x1 x2 x3
set_option maxRecDepth 100000 in
set_option maxHeartbeats 4000000 in
theorem s_X0_leavesOf (G : GG) (this : Nat) (a1 : Int32) : Sn G yX0_leavesOf cX0_leavesOf 4 (some FieldType.int) 3 66 (fun v : Int32 => some (.int v)) (X0_leavesOf this a1) 0 [some (va_rf (some this)), some (.int a1), none, none] [] := by
  unfold X0_leavesOf
  refine sn_aload_n (v := (some this)) (pc' := 1) dX0_leavesOf_0 rfl rfl rfl ?_
  refine sn_gR (k := 0) (pc' := 4) ci_2 rfl (Or.inl tw880) dX0_leavesOf_1 rfl (fun v1 => ?_)
  refine sn_iload_n (v := a1) (pc' := 5) dX0_leavesOf_4 rfl rfl rfl ?_
  refine sn_cV (r := v1) (st := []) (As := [.int a1]) (st2 := (fun v => .int v :: [])) (pc' := 8) ci_7 (fun t => c_X6_sizeOf G t a1) cw_X6_sizeOf rfl rfl tw859 tw539 tw538 rfl rfl cat_nil rfl (fun _ => rfl) dX0_leavesOf_5 rfl (fun v2 => ?_)
  refine sn_aload_n (v := (some this)) (pc' := 9) dX0_leavesOf_8 rfl rfl rfl ?_
  refine sn_iload_n (v := a1) (pc' := 10) dX0_leavesOf_9 rfl rfl rfl ?_
  refine sn_cV (r := (some this)) (st := [.int v2]) (As := [.int a1]) (st2 := (fun v => .int v :: [.int v2])) (pc' := 13) ci_2 (fun t => c_X0_cutOf G t a1) cw_X0_cutOf rfl rfl tw1129 pw38 tw1131 rfl rfl (cat_i cat_nil) rfl (fun _ => rfl) dX0_leavesOf_10 rfl (fun v3 => ?_)
  refine sn_isub (pc' := 14) dX0_leavesOf_13 rfl ?_
  refine sn_istore_n (v := (v2 - v3)) (L' := [some (va_rf (some this)), some (.int a1), some (.int (v2 - v3)), none]) (pc' := 15) dX0_leavesOf_14 rfl rfl rfl rfl ?_
  refine sn_iconst (v := (1 : Int32)) (pc' := 16) dX0_leavesOf_15 rfl (by decide) ?_
  refine sn_istore_n (v := (1 : Int32)) (L' := [some (va_rf (some this)), some (.int a1), some (.int (v2 - v3)), some (.int (1 : Int32))]) (pc' := 17) dX0_leavesOf_16 rfl rfl rfl rfl ?_
  exact sn_weak (le_s (le_s (le_s (le_s le_e)))) (s_X0_leavesOf_17 G LFU this a1 (v2 - v3) (1 : Int32))
theorem c_X0_leavesOf (G : GG) (this : Nat) (a1 : Int32) : Cal G yX0_leavesOf cX0_leavesOf 4 (some FieldType.int) 3 66 (fun v : Int32 => some (.int v)) (X0_leavesOf this a1) [.ref this, .int a1] :=
  Cal.of (by decide) (cat_t (cat_i cat_nil)) rfl (sn_weak (le_s (le_s (le_z (le_z le_e)))) (s_X0_leavesOf G this a1))
theorem cw_X0_leavesOf : CW yX0_leavesOf cX0_leavesOf 4 (some FieldType.int) 1 := ⟨tw1128, tw21, by decide, by decide +kernel⟩
/-! X0_aboutGathering -/
theorem dX0_aboutGathering_0 : decode cX0_aboutGathering 0 = .ok (.aload_n 0, 1) := by decide +kernel
theorem dX0_aboutGathering_1 : decode cX0_aboutGathering 1 = .ok (.getfield 12, 3) := by decide +kernel
theorem dX0_aboutGathering_4 : decode cX0_aboutGathering 4 = .ok (.iload_n 1, 1) := by decide +kernel
theorem dX0_aboutGathering_5 : decode cX0_aboutGathering 5 = .ok (.invokevirtual 55, 3) := by decide +kernel
theorem dX0_aboutGathering_8 : decode cX0_aboutGathering 8 = .ok (.istore_n 3, 1) := by decide +kernel
theorem dX0_aboutGathering_9 : decode cX0_aboutGathering 9 = .ok (.iload_n 2, 1) := by decide +kernel
theorem dX0_aboutGathering_10 : decode cX0_aboutGathering 10 = .ok (.tableswitch 43 0 2 #[26, 28, 37], 26) := by decide +kernel
theorem dX0_aboutGathering_36 : decode cX0_aboutGathering 36 = .ok (.iload_n 3, 1) := by decide +kernel
theorem dX0_aboutGathering_37 : decode cX0_aboutGathering 37 = .ok (.ireturn, 1) := by decide +kernel
theorem dX0_aboutGathering_38 : decode cX0_aboutGathering 38 = .ok (.aload_n 0, 1) := by decide +kernel
theorem dX0_aboutGathering_39 : decode cX0_aboutGathering 39 = .ok (.getfield 12, 3) := by decide +kernel
theorem dX0_aboutGathering_42 : decode cX0_aboutGathering 42 = .ok (.iload_n 3, 1) := by decide +kernel
theorem dX0_aboutGathering_43 : decode cX0_aboutGathering 43 = .ok (.invokevirtual 59, 3) := by decide +kernel
theorem dX0_aboutGathering_46 : decode cX0_aboutGathering 46 = .ok (.ireturn, 1) := by decide +kernel
theorem dX0_aboutGathering_47 : decode cX0_aboutGathering 47 = .ok (.aload_n 0, 1) := by decide +kernel
theorem dX0_aboutGathering_48 : decode cX0_aboutGathering 48 = .ok (.iload_n 3, 1) := by decide +kernel
theorem dX0_aboutGathering_49 : decode cX0_aboutGathering 49 = .ok (.invokevirtual 90, 3) := by decide +kernel
theorem dX0_aboutGathering_52 : decode cX0_aboutGathering 52 = .ok (.ireturn, 1) := by decide +kernel
theorem dX0_aboutGathering_53 : decode cX0_aboutGathering 53 = .ok (.aload_n 0, 1) := by decide +kernel
theorem dX0_aboutGathering_54 : decode cX0_aboutGathering 54 = .ok (.iload_n 3, 1) := by decide +kernel
theorem dX0_aboutGathering_55 : decode cX0_aboutGathering 55 = .ok (.invokevirtual 93, 3) := by decide +kernel
theorem dX0_aboutGathering_58 : decode cX0_aboutGathering 58 = .ok (.ireturn, 1) := by decide +kernel
def X0_aboutGathering (this : Nat) (a1 : Int32) (a2 : Int32) : MM Int32 :=
  mb (gR 2 (some this) 0) fun v1 =>
  mb (wc 7 v1 fun t => X6_signOf t a1) fun v2 =>
  if a2 = (0 : Int32) then (mr v2) else (if a2 = (1 : Int32) then (mb (gR 2 (some this) 0) fun v3 =>
  mb (wc 7 v3 fun t => X6_sizeOf t v2) fun v4 =>
  mr v4) else (if a2 = (2 : Int32) then (mb (wc 2 (some this) fun t => X0_leavesOf t v2) fun v5 =>
  mr v5) else (mb (wc 2 (some this) fun t => X0_cutOf t v2) fun v6 =>
  mr v6)))
set_option maxRecDepth 100000 in
set_option maxHeartbeats 4000000 in
theorem s_X0_aboutGathering (G : GG) (this : Nat) (a1 : Int32) (a2 : Int32) : Sn G yX0_aboutGathering cX0_aboutGathering 4 (some FieldType.int) 4 89 (fun v : Int32 => some (.int v)) (X0_aboutGathering this a1 a2) 0 [some (va_rf (some this)), some (.int a1), some (.int a2), none] [] := by
  unfold X0_aboutGathering
  refine sn_aload_n (v := (some this)) (pc' := 1) dX0_aboutGathering_0 rfl rfl rfl ?_
  refine sn_gR (k := 0) (pc' := 4) ci_2 rfl (Or.inl tw880) dX0_aboutGathering_1 rfl (fun v1 => ?_)
  refine sn_iload_n (v := a1) (pc' := 5) dX0_aboutGathering_4 rfl rfl rfl ?_
  refine sn_cV (r := v1) (st := []) (As := [.int a1]) (st2 := (fun v => .int v :: [])) (pc' := 8) ci_7 (fun t => c_X6_signOf G t a1) cw_X6_signOf rfl rfl tw858 tw649 tw648 rfl rfl cat_nil rfl (fun _ => rfl) dX0_aboutGathering_5 rfl (fun v2 => ?_)
  refine sn_istore_n (v := v2) (L' := [some (va_rf (some this)), some (.int a1), some (.int a2), some (.int v2)]) (pc' := 9) dX0_aboutGathering_8 rfl rfl rfl rfl ?_
  refine sn_iload_n (v := a2) (pc' := 10) dX0_aboutGathering_9 rfl rfl rfl ?_
  refine sn_or (d := a2 = (0 : Int32)) (fun hc => ?_) (fun hc0 => ?_)
  · refine sn_tsI (pt := 36) (off := 26) dX0_aboutGathering_10 (by rw [hc]; decide) (by rw [hc]; decide) (by rw [hc]; rfl) rfl ?_
    refine sn_iload_n (v := v2) (pc' := 37) dX0_aboutGathering_36 rfl rfl rfl ?_
    exact sn_iret dX0_aboutGathering_37 rfl rfl
  refine sn_or (d := a2 = (1 : Int32)) (fun hc => ?_) (fun hc1 => ?_)
  · refine sn_tsI (pt := 38) (off := 28) dX0_aboutGathering_10 (by rw [hc]; decide) (by rw [hc]; decide) (by rw [hc]; rfl) rfl ?_
    refine sn_aload_n (v := (some this)) (pc' := 39) dX0_aboutGathering_38 rfl rfl rfl ?_
    refine sn_gR (k := 0) (pc' := 42) ci_2 rfl (Or.inl tw880) dX0_aboutGathering_39 rfl (fun v3 => ?_)
    refine sn_iload_n (v := v2) (pc' := 43) dX0_aboutGathering_42 rfl rfl rfl ?_
    refine sn_cV (r := v3) (st := []) (As := [.int v2]) (st2 := (fun v => .int v :: [])) (pc' := 46) ci_7 (fun t => c_X6_sizeOf G t v2) cw_X6_sizeOf rfl rfl tw859 tw539 tw538 rfl rfl cat_nil rfl (fun _ => rfl) dX0_aboutGathering_43 rfl (fun v4 => ?_)
    exact sn_iret dX0_aboutGathering_46 rfl rfl
  refine sn_or (d := a2 = (2 : Int32)) (fun hc => ?_) (fun hc2 => ?_)
  · refine sn_tsI (pt := 47) (off := 37) dX0_aboutGathering_10 (by rw [hc]; decide) (by rw [hc]; decide) (by rw [hc]; rfl) rfl ?_
    refine sn_aload_n (v := (some this)) (pc' := 48) dX0_aboutGathering_47 rfl rfl rfl ?_
    refine sn_iload_n (v := v2) (pc' := 49) dX0_aboutGathering_48 rfl rfl rfl ?_
    refine sn_cV (r := (some this)) (st := []) (As := [.int v2]) (st2 := (fun v => .int v :: [])) (pc' := 52) ci_2 (fun t => c_X0_leavesOf G t v2) cw_X0_leavesOf rfl rfl tw1125 pw37 tw1127 rfl rfl cat_nil rfl (fun _ => rfl) dX0_aboutGathering_49 rfl (fun v5 => ?_)
    exact sn_iret dX0_aboutGathering_52 rfl rfl
  refine sn_tsO (pt := 53) dX0_aboutGathering_10 (by
    have h9 := ts_out 0 3 (by decide) (fun j h1 h2 => by
      rcases (show j = 0 ∨ j = 1 ∨ j = 2 by omega) with e | e | e
      · subst e; exact hc0
      · subst e; exact hc1
      · subst e; exact hc2
      )
    omega) rfl ?_
  refine sn_aload_n (v := (some this)) (pc' := 54) dX0_aboutGathering_53 rfl rfl rfl ?_
  refine sn_iload_n (v := v2) (pc' := 55) dX0_aboutGathering_54 rfl rfl rfl ?_
  refine sn_cV (r := (some this)) (st := []) (As := [.int v2]) (st2 := (fun v => .int v :: [])) (pc' := 58) ci_2 (fun t => c_X0_cutOf G t v2) cw_X0_cutOf rfl rfl tw1129 pw38 tw1131 rfl rfl cat_nil rfl (fun _ => rfl) dX0_aboutGathering_55 rfl (fun v6 => ?_)
  exact sn_iret dX0_aboutGathering_58 rfl rfl
theorem c_X0_aboutGathering (G : GG) (this : Nat) (a1 : Int32) (a2 : Int32) : Cal G yX0_aboutGathering cX0_aboutGathering 4 (some FieldType.int) 4 89 (fun v : Int32 => some (.int v)) (X0_aboutGathering this a1 a2) [.ref this, .int a1, .int a2] :=
  Cal.of (by decide) (cat_t (cat_i (cat_i cat_nil))) rfl (sn_weak (le_s (le_s (le_s (le_z le_e)))) (s_X0_aboutGathering G this a1 a2))
theorem cw_X0_aboutGathering : CW yX0_aboutGathering cX0_aboutGathering 4 (some FieldType.int) 2 := ⟨tw1124, tw21, by decide, by decide +kernel⟩
/-! X11_gathering -/
theorem dX11_gathering_0 : decode cX11_gathering 0 = .ok (.aload_n 0, 1) := by decide +kernel
theorem dX11_gathering_1 : decode cX11_gathering 1 = .ok (.iload_n 1, 1) := by decide +kernel
theorem dX11_gathering_2 : decode cX11_gathering 2 = .ok (.invokevirtual 102, 3) := by decide +kernel
theorem dX11_gathering_5 : decode cX11_gathering 5 = .ok (.astore 4, 2) := by decide +kernel
theorem dX11_gathering_7 : decode cX11_gathering 7 = .ok (.aload 4, 2) := by decide +kernel
theorem dX11_gathering_9 : decode cX11_gathering 9 = .ok (.ifnull 19, 3) := by decide +kernel
theorem dX11_gathering_12 : decode cX11_gathering 12 = .ok (.iload_n 2, 1) := by decide +kernel
theorem dX11_gathering_13 : decode cX11_gathering 13 = .ok (.ifCond .lt 15, 3) := by decide +kernel
theorem dX11_gathering_16 : decode cX11_gathering 16 = .ok (.iload_n 2, 1) := by decide +kernel
theorem dX11_gathering_17 : decode cX11_gathering 17 = .ok (.aload 4, 2) := by decide +kernel
theorem dX11_gathering_19 : decode cX11_gathering 19 = .ok (.getfield 143, 3) := by decide +kernel
theorem dX11_gathering_22 : decode cX11_gathering 22 = .ok (.getfield 146, 3) := by decide +kernel
theorem dX11_gathering_25 : decode cX11_gathering 25 = .ok (.if_icmp .lt 9, 3) := by decide +kernel
theorem dX11_gathering_28 : decode cX11_gathering 28 = .ok (.aload_n 0, 1) := by decide +kernel
theorem dX11_gathering_29 : decode cX11_gathering 29 = .ok (.iconst 1, 1) := by decide +kernel
theorem dX11_gathering_30 : decode cX11_gathering 30 = .ok (.invokevirtual 71, 3) := by decide +kernel
theorem dX11_gathering_33 : decode cX11_gathering 33 = .ok (.ireturn, 1) := by decide +kernel
theorem dX11_gathering_34 : decode cX11_gathering 34 = .ok (.iload_n 3, 1) := by decide +kernel
theorem dX11_gathering_35 : decode cX11_gathering 35 = .ok (.ifCond .lt 8, 3) := by decide +kernel
theorem dX11_gathering_38 : decode cX11_gathering 38 = .ok (.iload_n 3, 1) := by decide +kernel
theorem dX11_gathering_39 : decode cX11_gathering 39 = .ok (.iconst 3, 1) := by decide +kernel
theorem dX11_gathering_40 : decode cX11_gathering 40 = .ok (.if_icmp .le 11, 3) := by decide +kernel
theorem dX11_gathering_43 : decode cX11_gathering 43 = .ok (.aload_n 0, 1) := by decide +kernel
theorem dX11_gathering_44 : decode cX11_gathering 44 = .ok (.iconst 3, 1) := by decide +kernel
theorem dX11_gathering_45 : decode cX11_gathering 45 = .ok (.invokevirtual 71, 3) := by decide +kernel
theorem dX11_gathering_48 : decode cX11_gathering 48 = .ok (.goto 14, 3) := by decide +kernel
theorem dX11_gathering_51 : decode cX11_gathering 51 = .ok (.aload_n 0, 1) := by decide +kernel
theorem dX11_gathering_52 : decode cX11_gathering 52 = .ok (.aload 4, 2) := by decide +kernel
theorem dX11_gathering_54 : decode cX11_gathering 54 = .ok (.iload_n 2, 1) := by decide +kernel
theorem dX11_gathering_55 : decode cX11_gathering 55 = .ok (.iload_n 3, 1) := by decide +kernel
theorem dX11_gathering_56 : decode cX11_gathering 56 = .ok (.invokevirtual 149, 3) := by decide +kernel
theorem dX11_gathering_59 : decode cX11_gathering 59 = .ok (.invokevirtual 82, 3) := by decide +kernel
theorem dX11_gathering_62 : decode cX11_gathering 62 = .ok (.ireturn, 1) := by decide +kernel
def X11_gathering_28  (this : Nat) : MM Int32 :=
  mb (wc 12 (some this) fun t => X11_refuse t (1 : Int32)) fun v1 =>
  mr v1
def X11_gathering_43  (this : Nat) : MM Int32 :=
  mb (wc 12 (some this) fun t => X11_refuse t (3 : Int32)) fun v1 =>
  mr v1
def X11_gathering (this : Nat) (a1 : Int32) (a2 : Int32) (a3 : Int32) : MM Int32 :=
  mb (wc 12 (some this) fun t => X11_bookAt t a1) fun v1 =>
  if v1 = none then ((X11_gathering_28 this)) else (if a2 < 0 then ((X11_gathering_28 this)) else (mb (gR 2 v1 0) fun v2 =>
  mb (gI 7 v2 4) fun v3 =>
  if a2 < v3 then (if a3 < 0 then ((X11_gathering_43 this)) else (if a3 ≤ (3 : Int32) then (mb (wc 2 v1 fun t => X0_aboutGathering t a2 a3) fun v4 =>
  mb (wc 12 (some this) fun t => X11_answer t v4) fun v5 =>
  mr v5) else ((X11_gathering_43 this)))) else ((X11_gathering_28 this))))
set_option maxRecDepth 100000 in
set_option maxHeartbeats 4000000 in
theorem s_X11_gathering_28 (G : GG)   (this : Nat) : Sn G yX11_gathering cX11_gathering 5 (some FieldType.int) 5 112 (fun v : Int32 => some (.int v)) (X11_gathering_28  this) 28 [some (va_rf (some this)), none, none, none, none] [] := by
  unfold X11_gathering_28
  refine sn_aload_n (v := (some this)) (pc' := 29) dX11_gathering_28 rfl rfl rfl ?_
  refine sn_iconst (v := (1 : Int32)) (pc' := 30) dX11_gathering_29 rfl (by decide) ?_
  refine sn_cV (r := (some this)) (st := []) (As := [.int (1 : Int32)]) (st2 := (fun v => .int v :: [])) (pc' := 33) ci_12 (fun t => c_X11_refuse G t (1 : Int32)) cw_X11_refuse rfl rfl tw318 pw0 tw320 rfl rfl cat_nil rfl (fun _ => rfl) dX11_gathering_30 rfl (fun v1 => ?_)
  exact sn_iret dX11_gathering_33 rfl rfl
set_option maxRecDepth 100000 in
set_option maxHeartbeats 4000000 in
theorem s_X11_gathering_43 (G : GG)   (this : Nat) : Sn G yX11_gathering cX11_gathering 5 (some FieldType.int) 5 112 (fun v : Int32 => some (.int v)) (X11_gathering_43  this) 43 [some (va_rf (some this)), none, none, none, none] [] := by
  unfold X11_gathering_43
  refine sn_aload_n (v := (some this)) (pc' := 44) dX11_gathering_43 rfl rfl rfl ?_
  refine sn_iconst (v := (3 : Int32)) (pc' := 45) dX11_gathering_44 rfl (by decide) ?_
  refine sn_cV (r := (some this)) (st := []) (As := [.int (3 : Int32)]) (st2 := (fun v => .int v :: [])) (pc' := 48) ci_12 (fun t => c_X11_refuse G t (3 : Int32)) cw_X11_refuse rfl rfl tw318 pw0 tw320 rfl rfl cat_nil rfl (fun _ => rfl) dX11_gathering_45 rfl (fun v1 => ?_)
  refine sn_goto (pc' := 62) dX11_gathering_48 rfl ?_
  exact sn_iret dX11_gathering_62 rfl rfl
set_option maxRecDepth 100000 in
set_option maxHeartbeats 4000000 in
theorem s_X11_gathering (G : GG) (this : Nat) (a1 : Int32) (a2 : Int32) (a3 : Int32) : Sn G yX11_gathering cX11_gathering 5 (some FieldType.int) 5 112 (fun v : Int32 => some (.int v)) (X11_gathering this a1 a2 a3) 0 [some (va_rf (some this)), some (.int a1), some (.int a2), some (.int a3), none] [] := by
  unfold X11_gathering
  refine sn_aload_n (v := (some this)) (pc' := 1) dX11_gathering_0 rfl rfl rfl ?_
  refine sn_iload_n (v := a1) (pc' := 2) dX11_gathering_1 rfl rfl rfl ?_
  refine sn_cV (r := (some this)) (st := []) (As := [.int a1]) (st2 := (fun v => va_rf v :: [])) (pc' := 5) ci_12 (fun t => c_X11_bookAt G t a1) cw_X11_bookAt rfl rfl tw910 pw22 tw912 rfl rfl cat_nil rfl (fun _ => rfl) dX11_gathering_2 rfl (fun v1 => ?_)
  refine sn_astore (v := v1) (L' := [some (va_rf (some this)), some (.int a1), some (.int a2), some (.int a3), some (va_rf v1)]) (pc' := 7) dX11_gathering_5 rfl rfl rfl ?_
  refine sn_aload (v := v1) (pc' := 9) dX11_gathering_7 rfl rfl ?_
  refine sn_ifnull (pt := 28) (pf := 12) dX11_gathering_9 rfl rfl ?_ ?_
  · exact sn_weak (le_s (le_n (le_n (le_n (le_n le_e))))) (s_X11_gathering_28 G this)
  · refine sn_iload_n (v := a2) (pc' := 13) dX11_gathering_12 rfl rfl rfl ?_
    refine sn_if_lt (pt := 28) (pf := 16) dX11_gathering_13 rfl rfl ?_ ?_
    · exact sn_weak (le_s (le_n (le_n (le_n (le_n le_e))))) (s_X11_gathering_28 G this)
    · refine sn_iload_n (v := a2) (pc' := 17) dX11_gathering_16 rfl rfl rfl ?_
      refine sn_aload (v := v1) (pc' := 19) dX11_gathering_17 rfl rfl ?_
      refine sn_gR (k := 0) (pc' := 22) ci_2 rfl (Or.inr ⟨_, nw881⟩) dX11_gathering_19 rfl (fun v2 => ?_)
      refine sn_gI (k := 4) (pc' := 25) ci_7 rfl (Or.inr ⟨_, nw193⟩) dX11_gathering_22 rfl (fun v3 => ?_)
      refine sn_ic_lt (pt := 34) (pf := 28) dX11_gathering_25 rfl rfl ?_ ?_
      · refine sn_iload_n (v := a3) (pc' := 35) dX11_gathering_34 rfl rfl rfl ?_
        refine sn_if_lt (pt := 43) (pf := 38) dX11_gathering_35 rfl rfl ?_ ?_
        · exact sn_weak (le_s (le_n (le_n (le_n (le_n le_e))))) (s_X11_gathering_43 G this)
        · refine sn_iload_n (v := a3) (pc' := 39) dX11_gathering_38 rfl rfl rfl ?_
          refine sn_iconst (v := (3 : Int32)) (pc' := 40) dX11_gathering_39 rfl (by decide) ?_
          refine sn_ic_le (pt := 51) (pf := 43) dX11_gathering_40 rfl rfl ?_ ?_
          · refine sn_aload_n (v := (some this)) (pc' := 52) dX11_gathering_51 rfl rfl rfl ?_
            refine sn_aload (v := v1) (pc' := 54) dX11_gathering_52 rfl rfl ?_
            refine sn_iload_n (v := a2) (pc' := 55) dX11_gathering_54 rfl rfl rfl ?_
            refine sn_iload_n (v := a3) (pc' := 56) dX11_gathering_55 rfl rfl rfl ?_
            refine sn_cV (r := v1) (st := [va_rf (some this)]) (As := [.int a2, .int a3]) (st2 := (fun v => .int v :: [va_rf (some this)])) (pc' := 59) ci_2 (fun t => c_X0_aboutGathering G t a2 a3) cw_X0_aboutGathering rfl rfl tw1121 tw1123 tw1122 rfl rfl (cat_q cat_nil) rfl (fun _ => rfl) dX11_gathering_56 rfl (fun v4 => ?_)
            refine sn_cV (r := (some this)) (st := []) (As := [.int v4]) (st2 := (fun v => .int v :: [])) (pc' := 62) ci_12 (fun t => c_X11_answer G t v4) cw_X11_answer rfl rfl tw326 pw1 tw328 rfl rfl cat_nil rfl (fun _ => rfl) dX11_gathering_59 rfl (fun v5 => ?_)
            exact sn_iret dX11_gathering_62 rfl rfl
          · exact sn_weak (le_s (le_n (le_n (le_n (le_n le_e))))) (s_X11_gathering_43 G this)
      · exact sn_weak (le_s (le_n (le_n (le_n (le_n le_e))))) (s_X11_gathering_28 G this)
theorem c_X11_gathering (G : GG) (this : Nat) (a1 : Int32) (a2 : Int32) (a3 : Int32) : Cal G yX11_gathering cX11_gathering 5 (some FieldType.int) 5 112 (fun v : Int32 => some (.int v)) (X11_gathering this a1 a2 a3) [.ref this, .int a1, .int a2, .int a3] :=
  Cal.of (by decide) (cat_t (cat_i (cat_i (cat_i cat_nil)))) rfl (sn_weak (le_s (le_s (le_s (le_s (le_z le_e))))) (s_X11_gathering G this a1 a2 a3))
theorem cw_X11_gathering : CW yX11_gathering cX11_gathering 5 (some FieldType.int) 3 := ⟨tw1120, tw1, by decide, by decide +kernel⟩
/-! X11_leaves -/
theorem dX11_leaves_0 : decode cX11_leaves 0 = .ok (.aload_n 0, 1) := by decide +kernel
theorem dX11_leaves_1 : decode cX11_leaves 1 = .ok (.iload_n 1, 1) := by decide +kernel
theorem dX11_leaves_2 : decode cX11_leaves 2 = .ok (.invokevirtual 102, 3) := by decide +kernel
theorem dX11_leaves_5 : decode cX11_leaves 5 = .ok (.astore_n 2, 1) := by decide +kernel
theorem dX11_leaves_6 : decode cX11_leaves 6 = .ok (.aload_n 2, 1) := by decide +kernel
theorem dX11_leaves_7 : decode cX11_leaves 7 = .ok (.ifnonnull 11, 3) := by decide +kernel
theorem dX11_leaves_10 : decode cX11_leaves 10 = .ok (.aload_n 0, 1) := by decide +kernel
theorem dX11_leaves_11 : decode cX11_leaves 11 = .ok (.iconst 1, 1) := by decide +kernel
theorem dX11_leaves_12 : decode cX11_leaves 12 = .ok (.invokevirtual 71, 3) := by decide +kernel
theorem dX11_leaves_15 : decode cX11_leaves 15 = .ok (.goto 11, 3) := by decide +kernel
theorem dX11_leaves_18 : decode cX11_leaves 18 = .ok (.aload_n 0, 1) := by decide +kernel
theorem dX11_leaves_19 : decode cX11_leaves 19 = .ok (.aload_n 2, 1) := by decide +kernel
theorem dX11_leaves_20 : decode cX11_leaves 20 = .ok (.invokevirtual 153, 3) := by decide +kernel
theorem dX11_leaves_23 : decode cX11_leaves 23 = .ok (.invokevirtual 82, 3) := by decide +kernel
theorem dX11_leaves_26 : decode cX11_leaves 26 = .ok (.ireturn, 1) := by decide +kernel
def X11_leaves (this : Nat) (a1 : Int32) : MM Int32 :=
  mb (wc 12 (some this) fun t => X11_bookAt t a1) fun v1 =>
  if v1 = none then (mb (wc 12 (some this) fun t => X11_refuse t (1 : Int32)) fun v2 =>
  mr v2) else (mb (wc 2 v1 fun t => X0_leafCount t ) fun v3 =>
  mb (wc 12 (some this) fun t => X11_answer t v3) fun v4 =>
  mr v4)
set_option maxRecDepth 100000 in
set_option maxHeartbeats 4000000 in
theorem s_X11_leaves (G : GG) (this : Nat) (a1 : Int32) : Sn G yX11_leaves cX11_leaves 3 (some FieldType.int) 1 21 (fun v : Int32 => some (.int v)) (X11_leaves this a1) 0 [some (va_rf (some this)), some (.int a1), none] [] := by
  unfold X11_leaves
  refine sn_aload_n (v := (some this)) (pc' := 1) dX11_leaves_0 rfl rfl rfl ?_
  refine sn_iload_n (v := a1) (pc' := 2) dX11_leaves_1 rfl rfl rfl ?_
  refine sn_cV (r := (some this)) (st := []) (As := [.int a1]) (st2 := (fun v => va_rf v :: [])) (pc' := 5) ci_12 (fun t => c_X11_bookAt G t a1) cw_X11_bookAt rfl rfl tw910 pw22 tw912 rfl rfl cat_nil rfl (fun _ => rfl) dX11_leaves_2 rfl (fun v1 => ?_)
  refine sn_astore_n (v := v1) (L' := [some (va_rf (some this)), some (.int a1), some (va_rf v1)]) (pc' := 6) dX11_leaves_5 rfl rfl rfl rfl ?_
  refine sn_aload_n (v := v1) (pc' := 7) dX11_leaves_6 rfl rfl rfl ?_
  refine sn_ifnonnull (pt := 18) (pf := 10) dX11_leaves_7 rfl rfl ?_ ?_
  · refine sn_aload_n (v := (some this)) (pc' := 11) dX11_leaves_10 rfl rfl rfl ?_
    refine sn_iconst (v := (1 : Int32)) (pc' := 12) dX11_leaves_11 rfl (by decide) ?_
    refine sn_cV (r := (some this)) (st := []) (As := [.int (1 : Int32)]) (st2 := (fun v => .int v :: [])) (pc' := 15) ci_12 (fun t => c_X11_refuse G t (1 : Int32)) cw_X11_refuse rfl rfl tw318 pw0 tw320 rfl rfl cat_nil rfl (fun _ => rfl) dX11_leaves_12 rfl (fun v2 => ?_)
    refine sn_goto (pc' := 26) dX11_leaves_15 rfl ?_
    exact sn_iret dX11_leaves_26 rfl rfl
  · refine sn_aload_n (v := (some this)) (pc' := 19) dX11_leaves_18 rfl rfl rfl ?_
    refine sn_aload_n (v := v1) (pc' := 20) dX11_leaves_19 rfl rfl rfl ?_
    refine sn_cV (r := v1) (st := [va_rf (some this)]) (As := []) (st2 := (fun v => .int v :: [va_rf (some this)])) (pc' := 23) ci_2 (fun t => c_X0_leafCount G t ) cw_X0_leafCount rfl rfl tw1137 tw863 tw862 rfl rfl (cat_q cat_nil) rfl (fun _ => rfl) dX11_leaves_20 rfl (fun v3 => ?_)
    refine sn_cV (r := (some this)) (st := []) (As := [.int v3]) (st2 := (fun v => .int v :: [])) (pc' := 26) ci_12 (fun t => c_X11_answer G t v3) cw_X11_answer rfl rfl tw326 pw1 tw328 rfl rfl cat_nil rfl (fun _ => rfl) dX11_leaves_23 rfl (fun v4 => ?_)
    exact sn_iret dX11_leaves_26 rfl rfl
theorem c_X11_leaves (G : GG) (this : Nat) (a1 : Int32) : Cal G yX11_leaves cX11_leaves 3 (some FieldType.int) 1 21 (fun v : Int32 => some (.int v)) (X11_leaves this a1) [.ref this, .int a1] :=
  Cal.of (by decide) (cat_t (cat_i cat_nil)) rfl (sn_weak (le_s (le_s (le_z le_e))) (s_X11_leaves G this a1))
theorem cw_X11_leaves : CW yX11_leaves cX11_leaves 3 (some FieldType.int) 1 := ⟨tw1136, tw1, by decide, by decide +kernel⟩
