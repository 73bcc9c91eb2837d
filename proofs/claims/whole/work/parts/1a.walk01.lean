theorem tw1 : (Jvm.Cond.initialized "LeafFormula") ∈ gtbl := gt_of 94 (by decide +kernel) (by decide +kernel)
theorem tw2 : (Jvm.Cond.initialized "LeafFormula$Tape") ∈ gtbl := gt_of 95 (by decide +kernel) (by decide +kernel)
theorem tw3 : (Jvm.Cond.initialized "LeafFormula$Row") ∈ gtbl := gt_of 96 (by decide +kernel) (by decide +kernel)
theorem tw4 : (Jvm.Cond.initialized "java/lang/Math") ∈ gtbl := gt_of 97 (by decide +kernel) (by decide +kernel)
theorem tw5 : (Jvm.Cond.initialized "LeafFormula$Reader") ∈ gtbl := gt_of 98 (by decide +kernel) (by decide +kernel)
theorem tw6 : (Jvm.Cond.initialized "LeafFormula$Groups") ∈ gtbl := gt_of 99 (by decide +kernel) (by decide +kernel)
theorem tw7 : (Jvm.Cond.initialized "LeafFormula$NamedLeaves") ∈ gtbl := gt_of 100 (by decide +kernel) (by decide +kernel)
theorem tw8 : (Jvm.Cond.initialized "LeafFormula$Plan") ∈ gtbl := gt_of 101 (by decide +kernel) (by decide +kernel)
theorem tw9 : (Jvm.Cond.initialized "LeafFormula$Collator") ∈ gtbl := gt_of 102 (by decide +kernel) (by decide +kernel)
theorem tw10 : (Jvm.Cond.initialized "LeafFormula$Scribe") ∈ gtbl := gt_of 103 (by decide +kernel) (by decide +kernel)
theorem tw11 : (Jvm.Cond.initialized "java/lang/AbstractStringBuilder") ∈ gtbl := gt_of 104 (by decide +kernel) (by decide +kernel)
theorem tw12 : (Jvm.Cond.initialized "java/lang/StringBuilder") ∈ gtbl := gt_of 105 (by decide +kernel) (by decide +kernel)
theorem tw13 : (Jvm.Cond.initialized "java/lang/String") ∈ gtbl := gt_of 106 (by decide +kernel) (by decide +kernel)
theorem tw16 : (Jvm.Cond.initialized "java/lang/StringLatin1") ∈ gtbl := gt_of 109 (by decide +kernel) (by decide +kernel)
theorem tw31 : (Jvm.Cond.code ({ cls := "LeafFormula", name := "<init>", desc := "()V" } : Jvm.MethodName) prog_1_method_1_code (1 : Nat) (Option.none : Option Jvm.ClassFile.FieldType)) ∈ gtbl := gt_of 124 (by decide +kernel) (by decide +kernel)
theorem tw32 : (Jvm.Cond.methodLink "LeafFormula" (3 : Nat) ({ cls := "java/lang/Object", name := "<init>", desc := "()V" } : Jvm.MethodName)) ∈ gtbl := gt_of 125 (by decide +kernel) (by decide +kernel)
theorem tw33 : (Jvm.Cond.instanceMethod ({ cls := "java/lang/Object", name := "<init>", desc := "()V" } : Jvm.MethodName)) ∈ gtbl := gt_of 126 (by decide +kernel) (by decide +kernel)
theorem tw34 : (Jvm.Cond.code ({ cls := "java/lang/Object", name := "<init>", desc := "()V" } : Jvm.MethodName) object_method_1_code (1 : Nat) (Option.none : Option Jvm.ClassFile.FieldType)) ∈ gtbl := gt_of 127 (by decide +kernel) (by decide +kernel)
theorem tw35 : (Jvm.Cond.classLink "LeafFormula" (9 : Nat) "LeafFormula$Tape") ∈ gtbl := gt_of 128 (by decide +kernel) (by decide +kernel)
theorem tw36 : (Jvm.Cond.instantiable "LeafFormula$Tape" (5 : Nat)) ∈ gtbl := gt_of 129 (by decide +kernel) (by decide +kernel)
theorem tw38 : (Jvm.Cond.instanceMethod ({ cls := "LeafFormula$Tape", name := "<init>", desc := "()V" } : Jvm.MethodName)) ∈ gtbl := gt_of 131 (by decide +kernel) (by decide +kernel)
theorem tw39 : (Jvm.Cond.code ({ cls := "LeafFormula$Tape", name := "<init>", desc := "()V" } : Jvm.MethodName) prog_12_method_1_code (1 : Nat) (Option.none : Option Jvm.ClassFile.FieldType)) ∈ gtbl := gt_of 132 (by decide +kernel) (by decide +kernel)
theorem tw40 : (Jvm.Cond.methodLink "LeafFormula$Tape" (3 : Nat) ({ cls := "java/lang/Object", name := "<init>", desc := "()V" } : Jvm.MethodName)) ∈ gtbl := gt_of 133 (by decide +kernel) (by decide +kernel)
theorem tw41 : (Jvm.Cond.classLink "LeafFormula$Tape" (15 : Nat) "LeafFormula$Row") ∈ gtbl := gt_of 134 (by decide +kernel) (by decide +kernel)
theorem tw42 : (Jvm.Cond.instantiable "LeafFormula$Row" (2 : Nat)) ∈ gtbl := gt_of 135 (by decide +kernel) (by decide +kernel)
theorem tw43 : (Jvm.Cond.methodLink "LeafFormula$Tape" (17 : Nat) ({ cls := "LeafFormula$Row", name := "<init>", desc := "(I)V" } : Jvm.MethodName)) ∈ gtbl := gt_of 136 (by decide +kernel) (by decide +kernel)
theorem tw44 : (Jvm.Cond.instanceMethod ({ cls := "LeafFormula$Row", name := "<init>", desc := "(I)V" } : Jvm.MethodName)) ∈ gtbl := gt_of 137 (by decide +kernel) (by decide +kernel)
theorem tw45 : (Jvm.Cond.code ({ cls := "LeafFormula$Row", name := "<init>", desc := "(I)V" } : Jvm.MethodName) prog_10_method_1_code (2 : Nat) (Option.none : Option Jvm.ClassFile.FieldType)) ∈ gtbl := gt_of 138 (by decide +kernel) (by decide +kernel)
theorem tw46 : (Jvm.Cond.methodLink "LeafFormula$Row" (3 : Nat) ({ cls := "java/lang/Object", name := "<init>", desc := "()V" } : Jvm.MethodName)) ∈ gtbl := gt_of 139 (by decide +kernel) (by decide +kernel)
theorem tw47 : (Jvm.Cond.methodLink "LeafFormula$Row" (9 : Nat) ({ cls := "java/lang/Math", name := "max", desc := "(II)I" } : Jvm.MethodName)) ∈ gtbl := gt_of 140 (by decide +kernel) (by decide +kernel)
theorem tw48 : (Jvm.Cond.static ({ cls := "java/lang/Math", name := "max", desc := "(II)I" } : Jvm.MethodName)) ∈ gtbl := gt_of 141 (by decide +kernel) (by decide +kernel)
theorem tw49 : (Jvm.Cond.code ({ cls := "java/lang/Math", name := "max", desc := "(II)I" } : Jvm.MethodName) prog_19_method_65_code (2 : Nat) (Option.some Jvm.ClassFile.FieldType.int)) ∈ gtbl := gt_of 142 (by decide +kernel) (by decide +kernel)
theorem tw50 : (Jvm.Cond.fieldLink "LeafFormula$Row" (15 : Nat) "LeafFormula$Row" "numbers" "[I") ∈ gtbl := gt_of 143 (by decide +kernel) (by decide +kernel)
theorem tw51 : (Jvm.Cond.fieldLink "LeafFormula$Row" (21 : Nat) "LeafFormula$Row" "length" "I") ∈ gtbl := gt_of 144 (by decide +kernel) (by decide +kernel)
theorem tw63 : (Jvm.Cond.arrayClass Jvm.ClassFile.FieldType.byte) ∈ gtbl := gt_of 156 (by decide +kernel) (by decide +kernel)
theorem tw64 : (Jvm.Cond.arrayClass Jvm.ClassFile.FieldType.int) ∈ gtbl := gt_of 157 (by decide +kernel) (by decide +kernel)
theorem tw65 : (Jvm.Cond.fieldLink "LeafFormula$Tape" (9 : Nat) "LeafFormula$Tape" "bytes" "[B") ∈ gtbl := gt_of 158 (by decide +kernel) (by decide +kernel)
theorem tw66 : (Jvm.Cond.fieldLink "LeafFormula$Tape" (20 : Nat) "LeafFormula$Tape" "kinds" "LLeafFormula$Row;") ∈ gtbl := gt_of 159 (by decide +kernel) (by decide +kernel)
theorem tw68 : (Jvm.Cond.fieldLink "LeafFormula$Tape" (24 : Nat) "LeafFormula$Tape" "starts" "LLeafFormula$Row;") ∈ gtbl := gt_of 161 (by decide +kernel) (by decide +kernel)
theorem tw70 : (Jvm.Cond.fieldLink "LeafFormula$Tape" (27 : Nat) "LeafFormula$Tape" "values" "LLeafFormula$Row;") ∈ gtbl := gt_of 163 (by decide +kernel) (by decide +kernel)
theorem tw72 : (Jvm.Cond.fieldLink "LeafFormula$Tape" (30 : Nat) "LeafFormula$Tape" "length" "I") ∈ gtbl := gt_of 165 (by decide +kernel) (by decide +kernel)
theorem tw85 : (Jvm.Cond.classLink "LeafFormula" (16 : Nat) "LeafFormula$Reader") ∈ gtbl := gt_of 178 (by decide +kernel) (by decide +kernel)
theorem tw86 : (Jvm.Cond.instantiable "LeafFormula$Reader" (6 : Nat)) ∈ gtbl := gt_of 179 (by decide +kernel) (by decide +kernel)
theorem tw87 : (Jvm.Cond.methodLink "LeafFormula" (18 : Nat) ({ cls := "LeafFormula$Reader", name := "<init>", desc := "(LLeafFormula$Tape;)V" } : Jvm.MethodName)) ∈ gtbl := gt_of 180 (by decide +kernel) (by decide +kernel)
theorem tw88 : (Jvm.Cond.instanceMethod ({ cls := "LeafFormula$Reader", name := "<init>", desc := "(LLeafFormula$Tape;)V" } : Jvm.MethodName)) ∈ gtbl := gt_of 181 (by decide +kernel) (by decide +kernel)
theorem tw89 : (Jvm.Cond.code ({ cls := "LeafFormula$Reader", name := "<init>", desc := "(LLeafFormula$Tape;)V" } : Jvm.MethodName) prog_9_method_1_code (2 : Nat) (Option.none : Option Jvm.ClassFile.FieldType)) ∈ gtbl := gt_of 182 (by decide +kernel) (by decide +kernel)
theorem tw90 : (Jvm.Cond.methodLink "LeafFormula$Reader" (3 : Nat) ({ cls := "java/lang/Object", name := "<init>", desc := "()V" } : Jvm.MethodName)) ∈ gtbl := gt_of 183 (by decide +kernel) (by decide +kernel)
theorem tw91 : (Jvm.Cond.classLink "LeafFormula$Reader" (9 : Nat) "LeafFormula$Groups") ∈ gtbl := gt_of 184 (by decide +kernel) (by decide +kernel)
theorem tw92 : (Jvm.Cond.instantiable "LeafFormula$Groups" (5 : Nat)) ∈ gtbl := gt_of 185 (by decide +kernel) (by decide +kernel)
theorem tw94 : (Jvm.Cond.instanceMethod ({ cls := "LeafFormula$Groups", name := "<init>", desc := "()V" } : Jvm.MethodName)) ∈ gtbl := gt_of 187 (by decide +kernel) (by decide +kernel)
theorem tw95 : (Jvm.Cond.code ({ cls := "LeafFormula$Groups", name := "<init>", desc := "()V" } : Jvm.MethodName) prog_6_method_1_code (1 : Nat) (Option.none : Option Jvm.ClassFile.FieldType)) ∈ gtbl := gt_of 188 (by decide +kernel) (by decide +kernel)
theorem tw96 : (Jvm.Cond.methodLink "LeafFormula$Groups" (3 : Nat) ({ cls := "java/lang/Object", name := "<init>", desc := "()V" } : Jvm.MethodName)) ∈ gtbl := gt_of 189 (by decide +kernel) (by decide +kernel)
theorem tw97 : (Jvm.Cond.classLink "LeafFormula$Groups" (9 : Nat) "LeafFormula$Row") ∈ gtbl := gt_of 190 (by decide +kernel) (by decide +kernel)
theorem tw98 : (Jvm.Cond.methodLink "LeafFormula$Groups" (11 : Nat) ({ cls := "LeafFormula$Row", name := "<init>", desc := "(I)V" } : Jvm.MethodName)) ∈ gtbl := gt_of 191 (by decide +kernel) (by decide +kernel)
theorem tw99 : (Jvm.Cond.fieldLink "LeafFormula$Groups" (14 : Nat) "LeafFormula$Groups" "first" "LLeafFormula$Row;") ∈ gtbl := gt_of 192 (by decide +kernel) (by decide +kernel)
theorem tw102 : (Jvm.Cond.fieldLink "LeafFormula$Groups" (20 : Nat) "LeafFormula$Groups" "last" "LLeafFormula$Row;") ∈ gtbl := gt_of 195 (by decide +kernel) (by decide +kernel)
theorem tw105 : (Jvm.Cond.fieldLink "LeafFormula$Groups" (23 : Nat) "LeafFormula$Groups" "odd" "LLeafFormula$Row;") ∈ gtbl := gt_of 198 (by decide +kernel) (by decide +kernel)
theorem tw108 : (Jvm.Cond.fieldLink "LeafFormula$Groups" (26 : Nat) "LeafFormula$Groups" "even" "LLeafFormula$Row;") ∈ gtbl := gt_of 201 (by decide +kernel) (by decide +kernel)
theorem tw111 : (Jvm.Cond.fieldLink "LeafFormula$Groups" (29 : Nat) "LeafFormula$Groups" "changesEnd" "LLeafFormula$Row;") ∈ gtbl := gt_of 204 (by decide +kernel) (by decide +kernel)
theorem tw125 : (Jvm.Cond.classLink "LeafFormula$Reader" (18 : Nat) "LeafFormula$NamedLeaves") ∈ gtbl := gt_of 218 (by decide +kernel) (by decide +kernel)
theorem tw126 : (Jvm.Cond.instantiable "LeafFormula$NamedLeaves" (4 : Nat)) ∈ gtbl := gt_of 219 (by decide +kernel) (by decide +kernel)
theorem tw128 : (Jvm.Cond.instanceMethod ({ cls := "LeafFormula$NamedLeaves", name := "<init>", desc := "()V" } : Jvm.MethodName)) ∈ gtbl := gt_of 221 (by decide +kernel) (by decide +kernel)
theorem tw129 : (Jvm.Cond.code ({ cls := "LeafFormula$NamedLeaves", name := "<init>", desc := "()V" } : Jvm.MethodName) prog_7_method_1_code (1 : Nat) (Option.none : Option Jvm.ClassFile.FieldType)) ∈ gtbl := gt_of 222 (by decide +kernel) (by decide +kernel)
theorem tw130 : (Jvm.Cond.methodLink "LeafFormula$NamedLeaves" (3 : Nat) ({ cls := "java/lang/Object", name := "<init>", desc := "()V" } : Jvm.MethodName)) ∈ gtbl := gt_of 223 (by decide +kernel) (by decide +kernel)
theorem tw131 : (Jvm.Cond.classLink "LeafFormula$NamedLeaves" (9 : Nat) "LeafFormula$Row") ∈ gtbl := gt_of 224 (by decide +kernel) (by decide +kernel)
theorem tw132 : (Jvm.Cond.methodLink "LeafFormula$NamedLeaves" (11 : Nat) ({ cls := "LeafFormula$Row", name := "<init>", desc := "(I)V" } : Jvm.MethodName)) ∈ gtbl := gt_of 225 (by decide +kernel) (by decide +kernel)
theorem tw133 : (Jvm.Cond.fieldLink "LeafFormula$NamedLeaves" (14 : Nat) "LeafFormula$NamedLeaves" "mark" "LLeafFormula$Row;") ∈ gtbl := gt_of 226 (by decide +kernel) (by decide +kernel)
theorem tw136 : (Jvm.Cond.fieldLink "LeafFormula$NamedLeaves" (20 : Nat) "LeafFormula$NamedLeaves" "sign" "LLeafFormula$Row;") ∈ gtbl := gt_of 229 (by decide +kernel) (by decide +kernel)
theorem tw140 : (Jvm.Cond.fieldLink "LeafFormula$NamedLeaves" (23 : Nat) "LeafFormula$NamedLeaves" "number" "LLeafFormula$Row;") ∈ gtbl := gt_of 233 (by decide +kernel) (by decide +kernel)
theorem tw144 : (Jvm.Cond.fieldLink "LeafFormula$NamedLeaves" (26 : Nat) "LeafFormula$NamedLeaves" "inserted" "LLeafFormula$Row;") ∈ gtbl := gt_of 237 (by decide +kernel) (by decide +kernel)
theorem tw157 : (Jvm.Cond.fieldLink "LeafFormula$Reader" (29 : Nat) "LeafFormula$Reader" "tape" "LLeafFormula$Tape;") ∈ gtbl := gt_of 250 (by decide +kernel) (by decide +kernel)
theorem tw158 : (Jvm.Cond.fieldLink "LeafFormula$Reader" (12 : Nat) "LeafFormula$Reader" "groups" "LLeafFormula$Groups;") ∈ gtbl := gt_of 251 (by decide +kernel) (by decide +kernel)
theorem tw160 : (Jvm.Cond.fieldLink "LeafFormula$Reader" (21 : Nat) "LeafFormula$Reader" "leaves" "LLeafFormula$NamedLeaves;") ∈ gtbl := gt_of 253 (by decide +kernel) (by decide +kernel)
theorem tw165 : (Jvm.Cond.fieldLink "LeafFormula$Reader" (25 : Nat) "LeafFormula$Reader" "wrongAt" "I") ∈ gtbl := gt_of 258 (by decide +kernel) (by decide +kernel)
theorem tw180 : (Jvm.Cond.classLink "LeafFormula" (25 : Nat) "LeafFormula$Plan") ∈ gtbl := gt_of 273 (by decide +kernel) (by decide +kernel)
theorem tw181 : (Jvm.Cond.instantiable "LeafFormula$Plan" (6 : Nat)) ∈ gtbl := gt_of 274 (by decide +kernel) (by decide +kernel)
theorem tw183 : (Jvm.Cond.instanceMethod ({ cls := "LeafFormula$Plan", name := "<init>", desc := "()V" } : Jvm.MethodName)) ∈ gtbl := gt_of 276 (by decide +kernel) (by decide +kernel)
theorem tw184 : (Jvm.Cond.code ({ cls := "LeafFormula$Plan", name := "<init>", desc := "()V" } : Jvm.MethodName) prog_8_method_1_code (1 : Nat) (Option.none : Option Jvm.ClassFile.FieldType)) ∈ gtbl := gt_of 277 (by decide +kernel) (by decide +kernel)
theorem tw185 : (Jvm.Cond.methodLink "LeafFormula$Plan" (3 : Nat) ({ cls := "java/lang/Object", name := "<init>", desc := "()V" } : Jvm.MethodName)) ∈ gtbl := gt_of 278 (by decide +kernel) (by decide +kernel)
theorem tw186 : (Jvm.Cond.fieldLink "LeafFormula$Plan" (9 : Nat) "LeafFormula$Plan" "signs" "[I") ∈ gtbl := gt_of 279 (by decide +kernel) (by decide +kernel)
theorem tw187 : (Jvm.Cond.fieldLink "LeafFormula$Plan" (15 : Nat) "LeafFormula$Plan" "sizes" "[I") ∈ gtbl := gt_of 280 (by decide +kernel) (by decide +kernel)
theorem tw188 : (Jvm.Cond.fieldLink "LeafFormula$Plan" (18 : Nat) "LeafFormula$Plan" "fates" "[B") ∈ gtbl := gt_of 281 (by decide +kernel) (by decide +kernel)
theorem tw189 : (Jvm.Cond.fieldLink "LeafFormula$Plan" (22 : Nat) "LeafFormula$Plan" "insertions" "[B") ∈ gtbl := gt_of 282 (by decide +kernel) (by decide +kernel)
theorem tw194 : (Jvm.Cond.fieldLink "LeafFormula$Plan" (25 : Nat) "LeafFormula$Plan" "highest" "I") ∈ gtbl := gt_of 287 (by decide +kernel) (by decide +kernel)
theorem tw209 : (Jvm.Cond.classLink "LeafFormula" (32 : Nat) "LeafFormula$Row") ∈ gtbl := gt_of 302 (by decide +kernel) (by decide +kernel)
theorem tw210 : (Jvm.Cond.methodLink "LeafFormula" (34 : Nat) ({ cls := "LeafFormula$Row", name := "<init>", desc := "(I)V" } : Jvm.MethodName)) ∈ gtbl := gt_of 303 (by decide +kernel) (by decide +kernel)
theorem tw211 : (Jvm.Cond.classLink "LeafFormula" (41 : Nat) "LeafFormula$Collator") ∈ gtbl := gt_of 304 (by decide +kernel) (by decide +kernel)
theorem tw212 : (Jvm.Cond.instantiable "LeafFormula$Collator" (3 : Nat)) ∈ gtbl := gt_of 305 (by decide +kernel) (by decide +kernel)
theorem tw214 : (Jvm.Cond.instanceMethod ({ cls := "LeafFormula$Collator", name := "<init>", desc := "()V" } : Jvm.MethodName)) ∈ gtbl := gt_of 307 (by decide +kernel) (by decide +kernel)
theorem tw215 : (Jvm.Cond.code ({ cls := "LeafFormula$Collator", name := "<init>", desc := "()V" } : Jvm.MethodName) prog_3_method_1_code (1 : Nat) (Option.none : Option Jvm.ClassFile.FieldType)) ∈ gtbl := gt_of 308 (by decide +kernel) (by decide +kernel)
theorem tw216 : (Jvm.Cond.methodLink "LeafFormula$Collator" (3 : Nat) ({ cls := "java/lang/Object", name := "<init>", desc := "()V" } : Jvm.MethodName)) ∈ gtbl := gt_of 309 (by decide +kernel) (by decide +kernel)
theorem tw217 : (Jvm.Cond.fieldLink "LeafFormula$Collator" (9 : Nat) "LeafFormula$Collator" "marks" "[I") ∈ gtbl := gt_of 310 (by decide +kernel) (by decide +kernel)
theorem tw218 : (Jvm.Cond.fieldLink "LeafFormula$Collator" (15 : Nat) "LeafFormula$Collator" "reach" "[I") ∈ gtbl := gt_of 311 (by decide +kernel) (by decide +kernel)
theorem tw219 : (Jvm.Cond.fieldLink "LeafFormula$Collator" (18 : Nat) "LeafFormula$Collator" "begins" "[I") ∈ gtbl := gt_of 312 (by decide +kernel) (by decide +kernel)
theorem tw227 : (Jvm.Cond.classLink "LeafFormula" (48 : Nat) "LeafFormula$Scribe") ∈ gtbl := gt_of 320 (by decide +kernel) (by decide +kernel)
theorem tw228 : (Jvm.Cond.instantiable "LeafFormula$Scribe" (1 : Nat)) ∈ gtbl := gt_of 321 (by decide +kernel) (by decide +kernel)
theorem tw230 : (Jvm.Cond.instanceMethod ({ cls := "LeafFormula$Scribe", name := "<init>", desc := "()V" } : Jvm.MethodName)) ∈ gtbl := gt_of 323 (by decide +kernel) (by decide +kernel)
theorem tw231 : (Jvm.Cond.code ({ cls := "LeafFormula$Scribe", name := "<init>", desc := "()V" } : Jvm.MethodName) prog_11_method_1_code (1 : Nat) (Option.none : Option Jvm.ClassFile.FieldType)) ∈ gtbl := gt_of 324 (by decide +kernel) (by decide +kernel)
theorem tw232 : (Jvm.Cond.methodLink "LeafFormula$Scribe" (3 : Nat) ({ cls := "java/lang/Object", name := "<init>", desc := "()V" } : Jvm.MethodName)) ∈ gtbl := gt_of 325 (by decide +kernel) (by decide +kernel)
theorem tw233 : (Jvm.Cond.classLink "LeafFormula$Scribe" (9 : Nat) "java/lang/StringBuilder") ∈ gtbl := gt_of 326 (by decide +kernel) (by decide +kernel)
theorem tw234 : (Jvm.Cond.instantiable "java/lang/StringBuilder" (4 : Nat)) ∈ gtbl := gt_of 327 (by decide +kernel) (by decide +kernel)
theorem tw235 : (Jvm.Cond.methodLink "LeafFormula$Scribe" (11 : Nat) ({ cls := "java/lang/StringBuilder", name := "<init>", desc := "()V" } : Jvm.MethodName)) ∈ gtbl := gt_of 328 (by decide +kernel) (by decide +kernel)
theorem tw236 : (Jvm.Cond.instanceMethod ({ cls := "java/lang/StringBuilder", name := "<init>", desc := "()V" } : Jvm.MethodName)) ∈ gtbl := gt_of 329 (by decide +kernel) (by decide +kernel)
theorem tw237 : (Jvm.Cond.code ({ cls := "java/lang/StringBuilder", name := "<init>", desc := "()V" } : Jvm.MethodName) prog_22_method_1_code (1 : Nat) (Option.none : Option Jvm.ClassFile.FieldType)) ∈ gtbl := gt_of 330 (by decide +kernel) (by decide +kernel)
theorem tw238 : (Jvm.Cond.methodLink "java/lang/StringBuilder" (1 : Nat) ({ cls := "java/lang/AbstractStringBuilder", name := "<init>", desc := "(I)V" } : Jvm.MethodName)) ∈ gtbl := gt_of 331 (by decide +kernel) (by decide +kernel)
theorem tw239 : (Jvm.Cond.instanceMethod ({ cls := "java/lang/AbstractStringBuilder", name := "<init>", desc := "(I)V" } : Jvm.MethodName)) ∈ gtbl := gt_of 332 (by decide +kernel) (by decide +kernel)
theorem tw240 : (Jvm.Cond.code ({ cls := "java/lang/AbstractStringBuilder", name := "<init>", desc := "(I)V" } : Jvm.MethodName) prog_15_method_2_code (2 : Nat) (Option.none : Option Jvm.ClassFile.FieldType)) ∈ gtbl := gt_of 333 (by decide +kernel) (by decide +kernel)
theorem tw241 : (Jvm.Cond.methodLink "java/lang/AbstractStringBuilder" (3 : Nat) ({ cls := "java/lang/Object", name := "<init>", desc := "()V" } : Jvm.MethodName)) ∈ gtbl := gt_of 334 (by decide +kernel) (by decide +kernel)
theorem tw242 : (Jvm.Cond.fieldLink "java/lang/AbstractStringBuilder" (18 : Nat) "java/lang/String" "COMPACT_STRINGS" "Z") ∈ gtbl := gt_of 335 (by decide +kernel) (by decide +kernel)
theorem tw251 : (Jvm.Cond.fieldLink "java/lang/AbstractStringBuilder" (15 : Nat) "java/lang/AbstractStringBuilder" "value" "[B") ∈ gtbl := gt_of 344 (by decide +kernel) (by decide +kernel)
theorem tw252 : (Jvm.Cond.fieldLink "java/lang/AbstractStringBuilder" (22 : Nat) "java/lang/AbstractStringBuilder" "coder" "B") ∈ gtbl := gt_of 345 (by decide +kernel) (by decide +kernel)
theorem tw265 : (Jvm.Cond.fieldLink "LeafFormula$Scribe" (12 : Nat) "LeafFormula$Scribe" "text" "Ljava/lang/StringBuilder;") ∈ gtbl := gt_of 358 (by decide +kernel) (by decide +kernel)
theorem tw269 : (Jvm.Cond.classLink "LeafFormula" (55 : Nat) "LeafFormula$Book") ∈ gtbl := gt_of 362 (by decide +kernel) (by decide +kernel)
theorem tw271 : (Jvm.Cond.classLink "LeafFormula" (61 : Nat) "LeafFormula$Copy") ∈ gtbl := gt_of 364 (by decide +kernel) (by decide +kernel)
theorem tw273 : (Jvm.Cond.fieldLink "LeafFormula" (12 : Nat) "LeafFormula" "tape" "LLeafFormula$Tape;") ∈ gtbl := gt_of 366 (by decide +kernel) (by decide +kernel)
theorem tw274 : (Jvm.Cond.fieldLink "LeafFormula" (21 : Nat) "LeafFormula" "reader" "LLeafFormula$Reader;") ∈ gtbl := gt_of 367 (by decide +kernel) (by decide +kernel)
theorem tw275 : (Jvm.Cond.fieldLink "LeafFormula" (28 : Nat) "LeafFormula" "draft" "LLeafFormula$Plan;") ∈ gtbl := gt_of 368 (by decide +kernel) (by decide +kernel)
theorem tw276 : (Jvm.Cond.fieldLink "LeafFormula" (37 : Nat) "LeafFormula" "row" "LLeafFormula$Row;") ∈ gtbl := gt_of 369 (by decide +kernel) (by decide +kernel)
theorem tw277 : (Jvm.Cond.fieldLink "LeafFormula" (44 : Nat) "LeafFormula" "collator" "LLeafFormula$Collator;") ∈ gtbl := gt_of 370 (by decide +kernel) (by decide +kernel)
theorem tw278 : (Jvm.Cond.fieldLink "LeafFormula" (51 : Nat) "LeafFormula" "scribe" "LLeafFormula$Scribe;") ∈ gtbl := gt_of 371 (by decide +kernel) (by decide +kernel)
theorem tw279 : (Jvm.Cond.fieldLink "LeafFormula" (57 : Nat) "LeafFormula" "books" "[LLeafFormula$Book;") ∈ gtbl := gt_of 372 (by decide +kernel) (by decide +kernel)
theorem tw280 : (Jvm.Cond.fieldLink "LeafFormula" (63 : Nat) "LeafFormula" "copies" "[LLeafFormula$Copy;") ∈ gtbl := gt_of 373 (by decide +kernel) (by decide +kernel)
theorem tw284 : (Jvm.Cond.fieldLink "LeafFormula" (231 : Nat) "LeafFormula" "latestStatus" "I") ∈ gtbl := gt_of 377 (by decide +kernel) (by decide +kernel)
theorem tw313 : (Jvm.Cond.code ({ cls := "LeafFormula", name := "feed", desc := "(IIIII)I" } : Jvm.MethodName) prog_1_method_2_code (6 : Nat) (Option.some Jvm.ClassFile.FieldType.int)) ∈ gtbl := gt_of 406 (by decide +kernel) (by decide +kernel)
theorem tw314 : (Jvm.Cond.methodLink "LeafFormula" (67 : Nat) ({ cls := "LeafFormula$Tape", name := "hasRoom", desc := "(I)Z" } : Jvm.MethodName)) ∈ gtbl := gt_of 407 (by decide +kernel) (by decide +kernel)
theorem tw315 : (Jvm.Cond.instanceMethod ({ cls := "LeafFormula$Tape", name := "hasRoom", desc := "(I)Z" } : Jvm.MethodName)) ∈ gtbl := gt_of 408 (by decide +kernel) (by decide +kernel)
theorem tw316 : (Jvm.Cond.selects "LeafFormula$Tape" ({ cls := "LeafFormula$Tape", name := "hasRoom", desc := "(I)Z" } : Jvm.MethodName) ({ cls := "LeafFormula$Tape", name := "hasRoom", desc := "(I)Z" } : Jvm.MethodName)) ∈ gtbl := gt_of 409 (by decide +kernel) (by decide +kernel)
theorem tw317 : (Jvm.Cond.code ({ cls := "LeafFormula$Tape", name := "hasRoom", desc := "(I)Z" } : Jvm.MethodName) prog_12_method_2_code (2 : Nat) (Option.some Jvm.ClassFile.FieldType.boolean)) ∈ gtbl := gt_of 410 (by decide +kernel) (by decide +kernel)
theorem tw318 : (Jvm.Cond.methodLink "LeafFormula" (71 : Nat) ({ cls := "LeafFormula", name := "refuse", desc := "(I)I" } : Jvm.MethodName)) ∈ gtbl := gt_of 411 (by decide +kernel) (by decide +kernel)
theorem tw320 : (Jvm.Cond.instanceMethod ({ cls := "LeafFormula", name := "refuse", desc := "(I)I" } : Jvm.MethodName)) ∈ gtbl := gt_of 413 (by decide +kernel) (by decide +kernel)
theorem tw321 : (Jvm.Cond.code ({ cls := "LeafFormula", name := "refuse", desc := "(I)I" } : Jvm.MethodName) prog_1_method_28_code (2 : Nat) (Option.some Jvm.ClassFile.FieldType.int)) ∈ gtbl := gt_of 414 (by decide +kernel) (by decide +kernel)
theorem tw322 : (Jvm.Cond.methodLink "LeafFormula" (75 : Nat) ({ cls := "LeafFormula$Tape", name := "addWord", desc := "(I)V" } : Jvm.MethodName)) ∈ gtbl := gt_of 415 (by decide +kernel) (by decide +kernel)
theorem tw323 : (Jvm.Cond.instanceMethod ({ cls := "LeafFormula$Tape", name := "addWord", desc := "(I)V" } : Jvm.MethodName)) ∈ gtbl := gt_of 416 (by decide +kernel) (by decide +kernel)
theorem tw324 : (Jvm.Cond.selects "LeafFormula$Tape" ({ cls := "LeafFormula$Tape", name := "addWord", desc := "(I)V" } : Jvm.MethodName) ({ cls := "LeafFormula$Tape", name := "addWord", desc := "(I)V" } : Jvm.MethodName)) ∈ gtbl := gt_of 417 (by decide +kernel) (by decide +kernel)
theorem tw325 : (Jvm.Cond.code ({ cls := "LeafFormula$Tape", name := "addWord", desc := "(I)V" } : Jvm.MethodName) prog_12_method_3_code (3 : Nat) (Option.none : Option Jvm.ClassFile.FieldType)) ∈ gtbl := gt_of 418 (by decide +kernel) (by decide +kernel)
theorem tw326 : (Jvm.Cond.methodLink "LeafFormula" (82 : Nat) ({ cls := "LeafFormula", name := "answer", desc := "(I)I" } : Jvm.MethodName)) ∈ gtbl := gt_of 419 (by decide +kernel) (by decide +kernel)
theorem tw328 : (Jvm.Cond.instanceMethod ({ cls := "LeafFormula", name := "answer", desc := "(I)I" } : Jvm.MethodName)) ∈ gtbl := gt_of 421 (by decide +kernel) (by decide +kernel)
theorem tw329 : (Jvm.Cond.code ({ cls := "LeafFormula", name := "answer", desc := "(I)I" } : Jvm.MethodName) prog_1_method_29_code (2 : Nat) (Option.some Jvm.ClassFile.FieldType.int)) ∈ gtbl := gt_of 422 (by decide +kernel) (by decide +kernel)
theorem tw333 : (Jvm.Cond.code ({ cls := "LeafFormula", name := "end", desc := "(I)I" } : Jvm.MethodName) prog_1_method_3_code (2 : Nat) (Option.some Jvm.ClassFile.FieldType.int)) ∈ gtbl := gt_of 426 (by decide +kernel) (by decide +kernel)
theorem tw334 : (Jvm.Cond.methodLink "LeafFormula" (85 : Nat) ({ cls := "LeafFormula$Tape", name := "cutTo", desc := "(I)V" } : Jvm.MethodName)) ∈ gtbl := gt_of 427 (by decide +kernel) (by decide +kernel)
theorem tw335 : (Jvm.Cond.instanceMethod ({ cls := "LeafFormula$Tape", name := "cutTo", desc := "(I)V" } : Jvm.MethodName)) ∈ gtbl := gt_of 428 (by decide +kernel) (by decide +kernel)
theorem tw336 : (Jvm.Cond.selects "LeafFormula$Tape" ({ cls := "LeafFormula$Tape", name := "cutTo", desc := "(I)V" } : Jvm.MethodName) ({ cls := "LeafFormula$Tape", name := "cutTo", desc := "(I)V" } : Jvm.MethodName)) ∈ gtbl := gt_of 429 (by decide +kernel) (by decide +kernel)
theorem tw337 : (Jvm.Cond.code ({ cls := "LeafFormula$Tape", name := "cutTo", desc := "(I)V" } : Jvm.MethodName) prog_12_method_4_code (2 : Nat) (Option.none : Option Jvm.ClassFile.FieldType)) ∈ gtbl := gt_of 430 (by decide +kernel) (by decide +kernel)
theorem tw353 : (Jvm.Cond.code ({ cls := "LeafFormula$Groups", name := "clear", desc := "()V" } : Jvm.MethodName) prog_6_method_2_code (1 : Nat) (Option.none : Option Jvm.ClassFile.FieldType)) ∈ gtbl := gt_of 446 (by decide +kernel) (by decide +kernel)
theorem tw354 : (Jvm.Cond.methodLink "LeafFormula$Groups" (32 : Nat) ({ cls := "LeafFormula$Row", name := "clear", desc := "()V" } : Jvm.MethodName)) ∈ gtbl := gt_of 447 (by decide +kernel) (by decide +kernel)
theorem tw355 : (Jvm.Cond.instanceMethod ({ cls := "LeafFormula$Row", name := "clear", desc := "()V" } : Jvm.MethodName)) ∈ gtbl := gt_of 448 (by decide +kernel) (by decide +kernel)
theorem tw356 : (Jvm.Cond.selects "LeafFormula$Row" ({ cls := "LeafFormula$Row", name := "clear", desc := "()V" } : Jvm.MethodName) ({ cls := "LeafFormula$Row", name := "clear", desc := "()V" } : Jvm.MethodName)) ∈ gtbl := gt_of 449 (by decide +kernel) (by decide +kernel)
theorem tw357 : (Jvm.Cond.code ({ cls := "LeafFormula$Row", name := "clear", desc := "()V" } : Jvm.MethodName) prog_10_method_4_code (1 : Nat) (Option.none : Option Jvm.ClassFile.FieldType)) ∈ gtbl := gt_of 450 (by decide +kernel) (by decide +kernel)
theorem tw361 : (Jvm.Cond.code ({ cls := "LeafFormula$NamedLeaves", name := "clear", desc := "()V" } : Jvm.MethodName) prog_7_method_2_code (1 : Nat) (Option.none : Option Jvm.ClassFile.FieldType)) ∈ gtbl := gt_of 454 (by decide +kernel) (by decide +kernel)
theorem tw362 : (Jvm.Cond.methodLink "LeafFormula$NamedLeaves" (29 : Nat) ({ cls := "LeafFormula$Row", name := "clear", desc := "()V" } : Jvm.MethodName)) ∈ gtbl := gt_of 455 (by decide +kernel) (by decide +kernel)
theorem tw371 : (Jvm.Cond.code ({ cls := "LeafFormula$Tape", name := "widthAt", desc := "(I)I" } : Jvm.MethodName) prog_12_method_6_code (5 : Nat) (Option.some Jvm.ClassFile.FieldType.int)) ∈ gtbl := gt_of 464 (by decide +kernel) (by decide +kernel)
theorem tw372 : (Jvm.Cond.methodLink "LeafFormula$Tape" (41 : Nat) ({ cls := "LeafFormula$Tape", name := "byteAt", desc := "(I)I" } : Jvm.MethodName)) ∈ gtbl := gt_of 465 (by decide +kernel) (by decide +kernel)
theorem tw374 : (Jvm.Cond.instanceMethod ({ cls := "LeafFormula$Tape", name := "byteAt", desc := "(I)I" } : Jvm.MethodName)) ∈ gtbl := gt_of 467 (by decide +kernel) (by decide +kernel)
theorem tw375 : (Jvm.Cond.code ({ cls := "LeafFormula$Tape", name := "byteAt", desc := "(I)I" } : Jvm.MethodName) prog_12_method_10_code (2 : Nat) (Option.some Jvm.ClassFile.FieldType.int)) ∈ gtbl := gt_of 468 (by decide +kernel) (by decide +kernel)
theorem tw376 : (Jvm.Cond.methodLink "LeafFormula$Tape" (58 : Nat) ({ cls := "LeafFormula$Tape", name := "isLetter", desc := "(I)Z" } : Jvm.MethodName)) ∈ gtbl := gt_of 469 (by decide +kernel) (by decide +kernel)
theorem tw377 : (Jvm.Cond.static ({ cls := "LeafFormula$Tape", name := "isLetter", desc := "(I)Z" } : Jvm.MethodName)) ∈ gtbl := gt_of 470 (by decide +kernel) (by decide +kernel)
theorem tw378 : (Jvm.Cond.code ({ cls := "LeafFormula$Tape", name := "isLetter", desc := "(I)Z" } : Jvm.MethodName) prog_12_method_11_code (1 : Nat) (Option.some Jvm.ClassFile.FieldType.boolean)) ∈ gtbl := gt_of 471 (by decide +kernel) (by decide +kernel)
theorem tw379 : (Jvm.Cond.methodLink "LeafFormula$Tape" (61 : Nat) ({ cls := "LeafFormula$Tape", name := "isDigit", desc := "(I)Z" } : Jvm.MethodName)) ∈ gtbl := gt_of 472 (by decide +kernel) (by decide +kernel)
theorem tw380 : (Jvm.Cond.static ({ cls := "LeafFormula$Tape", name := "isDigit", desc := "(I)Z" } : Jvm.MethodName)) ∈ gtbl := gt_of 473 (by decide +kernel) (by decide +kernel)
theorem tw381 : (Jvm.Cond.code ({ cls := "LeafFormula$Tape", name := "isDigit", desc := "(I)Z" } : Jvm.MethodName) prog_12_method_12_code (1 : Nat) (Option.some Jvm.ClassFile.FieldType.boolean)) ∈ gtbl := gt_of 474 (by decide +kernel) (by decide +kernel)
theorem tw385 : (Jvm.Cond.code ({ cls := "LeafFormula$Tape", name := "addPiece", desc := "(II)V" } : Jvm.MethodName) prog_12_method_7_code (6 : Nat) (Option.none : Option Jvm.ClassFile.FieldType)) ∈ gtbl := gt_of 478 (by decide +kernel) (by decide +kernel)
theorem tw386 : (Jvm.Cond.methodLink "LeafFormula$Tape" (64 : Nat) ({ cls := "LeafFormula$Tape", name := "isMark", desc := "(I)Z" } : Jvm.MethodName)) ∈ gtbl := gt_of 479 (by decide +kernel) (by decide +kernel)
theorem tw387 : (Jvm.Cond.static ({ cls := "LeafFormula$Tape", name := "isMark", desc := "(I)Z" } : Jvm.MethodName)) ∈ gtbl := gt_of 480 (by decide +kernel) (by decide +kernel)
theorem tw388 : (Jvm.Cond.code ({ cls := "LeafFormula$Tape", name := "isMark", desc := "(I)Z" } : Jvm.MethodName) prog_12_method_13_code (1 : Nat) (Option.some Jvm.ClassFile.FieldType.boolean)) ∈ gtbl := gt_of 481 (by decide +kernel) (by decide +kernel)
theorem tw389 : (Jvm.Cond.methodLink "LeafFormula$Tape" (67 : Nat) ({ cls := "LeafFormula$Tape", name := "signOfWord", desc := "(II)I" } : Jvm.MethodName)) ∈ gtbl := gt_of 482 (by decide +kernel) (by decide +kernel)
theorem tw391 : (Jvm.Cond.instanceMethod ({ cls := "LeafFormula$Tape", name := "signOfWord", desc := "(II)I" } : Jvm.MethodName)) ∈ gtbl := gt_of 484 (by decide +kernel) (by decide +kernel)
theorem tw392 : (Jvm.Cond.code ({ cls := "LeafFormula$Tape", name := "signOfWord", desc := "(II)I" } : Jvm.MethodName) prog_12_method_9_code (7 : Nat) (Option.some Jvm.ClassFile.FieldType.int)) ∈ gtbl := gt_of 485 (by decide +kernel) (by decide +kernel)
theorem tw394 : (Jvm.Cond.methodLink "LeafFormula$Tape" (75 : Nat) ({ cls := "java/lang/String", name := "indexOf", desc := "(I)I" } : Jvm.MethodName)) ∈ gtbl := gt_of 487 (by decide +kernel) (by decide +kernel)
theorem tw395 : (Jvm.Cond.instanceMethod ({ cls := "java/lang/String", name := "indexOf", desc := "(I)I" } : Jvm.MethodName)) ∈ gtbl := gt_of 488 (by decide +kernel) (by decide +kernel)
theorem tw396 : (Jvm.Cond.selects "java/lang/String" ({ cls := "java/lang/String", name := "indexOf", desc := "(I)I" } : Jvm.MethodName) ({ cls := "java/lang/String", name := "indexOf", desc := "(I)I" } : Jvm.MethodName)) ∈ gtbl := gt_of 489 (by decide +kernel) (by decide +kernel)
theorem tw397 : (Jvm.Cond.code ({ cls := "java/lang/String", name := "indexOf", desc := "(I)I" } : Jvm.MethodName) prog_21_method_79_code (2 : Nat) (Option.some Jvm.ClassFile.FieldType.int)) ∈ gtbl := gt_of 490 (by decide +kernel) (by decide +kernel)
theorem tw398 : (Jvm.Cond.methodLink "java/lang/String" (633 : Nat) ({ cls := "java/lang/String", name := "indexOf", desc := "(II)I" } : Jvm.MethodName)) ∈ gtbl := gt_of 491 (by decide +kernel) (by decide +kernel)
theorem tw399 : (Jvm.Cond.instanceMethod ({ cls := "java/lang/String", name := "indexOf", desc := "(II)I" } : Jvm.MethodName)) ∈ gtbl := gt_of 492 (by decide +kernel) (by decide +kernel)
theorem tw400 : (Jvm.Cond.selects "java/lang/String" ({ cls := "java/lang/String", name := "indexOf", desc := "(II)I" } : Jvm.MethodName) ({ cls := "java/lang/String", name := "indexOf", desc := "(II)I" } : Jvm.MethodName)) ∈ gtbl := gt_of 493 (by decide +kernel) (by decide +kernel)
theorem tw401 : (Jvm.Cond.code ({ cls := "java/lang/String", name := "indexOf", desc := "(II)I" } : Jvm.MethodName) prog_21_method_80_code (3 : Nat) (Option.some Jvm.ClassFile.FieldType.int)) ∈ gtbl := gt_of 494 (by decide +kernel) (by decide +kernel)
theorem tw402 : (Jvm.Cond.methodLink "java/lang/String" (492 : Nat) ({ cls := "java/lang/String", name := "isLatin1", desc := "()Z" } : Jvm.MethodName)) ∈ gtbl := gt_of 495 (by decide +kernel) (by decide +kernel)
theorem tw403 : (Jvm.Cond.instanceMethod ({ cls := "java/lang/String", name := "isLatin1", desc := "()Z" } : Jvm.MethodName)) ∈ gtbl := gt_of 496 (by decide +kernel) (by decide +kernel)
theorem tw404 : (Jvm.Cond.selects "java/lang/String" ({ cls := "java/lang/String", name := "isLatin1", desc := "()Z" } : Jvm.MethodName) ({ cls := "java/lang/String", name := "isLatin1", desc := "()Z" } : Jvm.MethodName)) ∈ gtbl := gt_of 497 (by decide +kernel) (by decide +kernel)
theorem tw405 : (Jvm.Cond.code ({ cls := "java/lang/String", name := "isLatin1", desc := "()Z" } : Jvm.MethodName) prog_21_method_154_code (1 : Nat) (Option.some Jvm.ClassFile.FieldType.boolean)) ∈ gtbl := gt_of 498 (by decide +kernel) (by decide +kernel)
theorem tw406 : (Jvm.Cond.fieldLink "java/lang/String" (38 : Nat) "java/lang/String" "COMPACT_STRINGS" "Z") ∈ gtbl := gt_of 499 (by decide +kernel) (by decide +kernel)
theorem tw407 : (Jvm.Cond.methodLink "java/lang/String" (505 : Nat) ({ cls := "java/lang/String", name := "length", desc := "()I" } : Jvm.MethodName)) ∈ gtbl := gt_of 500 (by decide +kernel) (by decide +kernel)
theorem tw408 : (Jvm.Cond.instanceMethod ({ cls := "java/lang/String", name := "length", desc := "()I" } : Jvm.MethodName)) ∈ gtbl := gt_of 501 (by decide +kernel) (by decide +kernel)
theorem tw409 : (Jvm.Cond.selects "java/lang/String" ({ cls := "java/lang/String", name := "length", desc := "()I" } : Jvm.MethodName) ({ cls := "java/lang/String", name := "length", desc := "()I" } : Jvm.MethodName)) ∈ gtbl := gt_of 502 (by decide +kernel) (by decide +kernel)
theorem tw410 : (Jvm.Cond.code ({ cls := "java/lang/String", name := "length", desc := "()I" } : Jvm.MethodName) prog_21_method_54_code (1 : Nat) (Option.some Jvm.ClassFile.FieldType.int)) ∈ gtbl := gt_of 503 (by decide +kernel) (by decide +kernel)
theorem tw411 : (Jvm.Cond.methodLink "java/lang/String" (335 : Nat) ({ cls := "java/lang/String", name := "coder", desc := "()B" } : Jvm.MethodName)) ∈ gtbl := gt_of 504 (by decide +kernel) (by decide +kernel)
theorem tw412 : (Jvm.Cond.instanceMethod ({ cls := "java/lang/String", name := "coder", desc := "()B" } : Jvm.MethodName)) ∈ gtbl := gt_of 505 (by decide +kernel) (by decide +kernel)
theorem tw413 : (Jvm.Cond.selects "java/lang/String" ({ cls := "java/lang/String", name := "coder", desc := "()B" } : Jvm.MethodName) ({ cls := "java/lang/String", name := "coder", desc := "()B" } : Jvm.MethodName)) ∈ gtbl := gt_of 506 (by decide +kernel) (by decide +kernel)
theorem tw414 : (Jvm.Cond.code ({ cls := "java/lang/String", name := "coder", desc := "()B" } : Jvm.MethodName) prog_21_method_152_code (1 : Nat) (Option.some Jvm.ClassFile.FieldType.byte)) ∈ gtbl := gt_of 507 (by decide +kernel) (by decide +kernel)
theorem tw415 : (Jvm.Cond.methodLink "java/lang/String" (637 : Nat) ({ cls := "java/lang/StringLatin1", name := "indexOf", desc := "([BIII)I" } : Jvm.MethodName)) ∈ gtbl := gt_of 508 (by decide +kernel) (by decide +kernel)
theorem tw416 : (Jvm.Cond.static ({ cls := "java/lang/StringLatin1", name := "indexOf", desc := "([BIII)I" } : Jvm.MethodName)) ∈ gtbl := gt_of 509 (by decide +kernel) (by decide +kernel)
theorem tw417 : (Jvm.Cond.code ({ cls := "java/lang/StringLatin1", name := "indexOf", desc := "([BIII)I" } : Jvm.MethodName) prog_23_method_22_code (4 : Nat) (Option.some Jvm.ClassFile.FieldType.int)) ∈ gtbl := gt_of 510 (by decide +kernel) (by decide +kernel)
theorem tw418 : (Jvm.Cond.methodLink "java/lang/StringLatin1" (88 : Nat) ({ cls := "java/lang/StringLatin1", name := "canEncode", desc := "(I)Z" } : Jvm.MethodName)) ∈ gtbl := gt_of 511 (by decide +kernel) (by decide +kernel)
theorem tw419 : (Jvm.Cond.static ({ cls := "java/lang/StringLatin1", name := "canEncode", desc := "(I)Z" } : Jvm.MethodName)) ∈ gtbl := gt_of 512 (by decide +kernel) (by decide +kernel)
theorem tw420 : (Jvm.Cond.code ({ cls := "java/lang/StringLatin1", name := "canEncode", desc := "(I)Z" } : Jvm.MethodName) prog_23_method_4_code (1 : Nat) (Option.some Jvm.ClassFile.FieldType.boolean)) ∈ gtbl := gt_of 513 (by decide +kernel) (by decide +kernel)
theorem tw421 : (Jvm.Cond.methodLink "java/lang/StringLatin1" (92 : Nat) ({ cls := "java/lang/Math", name := "max", desc := "(II)I" } : Jvm.MethodName)) ∈ gtbl := gt_of 514 (by decide +kernel) (by decide +kernel)
theorem tw422 : (Jvm.Cond.methodLink "java/lang/StringLatin1" (38 : Nat) ({ cls := "java/lang/Math", name := "min", desc := "(II)I" } : Jvm.MethodName)) ∈ gtbl := gt_of 515 (by decide +kernel) (by decide +kernel)
theorem tw423 : (Jvm.Cond.static ({ cls := "java/lang/Math", name := "min", desc := "(II)I" } : Jvm.MethodName)) ∈ gtbl := gt_of 516 (by decide +kernel) (by decide +kernel)
theorem tw424 : (Jvm.Cond.code ({ cls := "java/lang/Math", name := "min", desc := "(II)I" } : Jvm.MethodName) prog_19_method_69_code (2 : Nat) (Option.some Jvm.ClassFile.FieldType.int)) ∈ gtbl := gt_of 517 (by decide +kernel) (by decide +kernel)
theorem tw425 : (Jvm.Cond.methodLink "java/lang/StringLatin1" (95 : Nat) ({ cls := "java/lang/StringLatin1", name := "indexOfChar", desc := "([BIII)I" } : Jvm.MethodName)) ∈ gtbl := gt_of 518 (by decide +kernel) (by decide +kernel)
theorem tw426 : (Jvm.Cond.static ({ cls := "java/lang/StringLatin1", name := "indexOfChar", desc := "([BIII)I" } : Jvm.MethodName)) ∈ gtbl := gt_of 519 (by decide +kernel) (by decide +kernel)
theorem tw427 : (Jvm.Cond.code ({ cls := "java/lang/StringLatin1", name := "indexOfChar", desc := "([BIII)I" } : Jvm.MethodName) prog_23_method_23_code (6 : Nat) (Option.some Jvm.ClassFile.FieldType.int)) ∈ gtbl := gt_of 520 (by decide +kernel) (by decide +kernel)
theorem tw477 : (Jvm.Cond.methodLink "LeafFormula$Tape" (80 : Nat) ({ cls := "java/lang/String", name := "length", desc := "()I" } : Jvm.MethodName)) ∈ gtbl := gt_of 570 (by decide +kernel) (by decide +kernel)
theorem tw478 : (Jvm.Cond.methodLink "LeafFormula$Tape" (70 : Nat) ({ cls := "LeafFormula$Tape", name := "valueOfNumber", desc := "(II)I" } : Jvm.MethodName)) ∈ gtbl := gt_of 571 (by decide +kernel) (by decide +kernel)
theorem tw480 : (Jvm.Cond.instanceMethod ({ cls := "LeafFormula$Tape", name := "valueOfNumber", desc := "(II)I" } : Jvm.MethodName)) ∈ gtbl := gt_of 573 (by decide +kernel) (by decide +kernel)
theorem tw481 : (Jvm.Cond.code ({ cls := "LeafFormula$Tape", name := "valueOfNumber", desc := "(II)I" } : Jvm.MethodName) prog_12_method_8_code (5 : Nat) (Option.some Jvm.ClassFile.FieldType.int)) ∈ gtbl := gt_of 574 (by decide +kernel) (by decide +kernel)
theorem tw482 : (Jvm.Cond.methodLink "LeafFormula$Tape" (54 : Nat) ({ cls := "LeafFormula$Row", name := "add", desc := "(I)Z" } : Jvm.MethodName)) ∈ gtbl := gt_of 575 (by decide +kernel) (by decide +kernel)
theorem tw483 : (Jvm.Cond.instanceMethod ({ cls := "LeafFormula$Row", name := "add", desc := "(I)Z" } : Jvm.MethodName)) ∈ gtbl := gt_of 576 (by decide +kernel) (by decide +kernel)
theorem tw484 : (Jvm.Cond.selects "LeafFormula$Row" ({ cls := "LeafFormula$Row", name := "add", desc := "(I)Z" } : Jvm.MethodName) ({ cls := "LeafFormula$Row", name := "add", desc := "(I)Z" } : Jvm.MethodName)) ∈ gtbl := gt_of 577 (by decide +kernel) (by decide +kernel)
theorem tw485 : (Jvm.Cond.code ({ cls := "LeafFormula$Row", name := "add", desc := "(I)Z" } : Jvm.MethodName) prog_10_method_2_code (2 : Nat) (Option.some Jvm.ClassFile.FieldType.boolean)) ∈ gtbl := gt_of 578 (by decide +kernel) (by decide +kernel)
theorem tw830 : (Jvm.Cond.fieldLink "java/lang/String" (9 : Nat) "java/lang/String" "value" "[B") ∈ gtbl := gt_of 923 (by decide +kernel) (by decide +kernel)
theorem tw831 : (Jvm.Cond.fieldLink "java/lang/String" (15 : Nat) "java/lang/String" "coder" "B") ∈ gtbl := gt_of 924 (by decide +kernel) (by decide +kernel)
theorem nw37 : (Jvm.Cond.methodLinkNest "LeafFormula" (11 : Nat) ({ cls := "LeafFormula$Tape", name := "<init>", desc := "()V" } : Jvm.MethodName) "LeafFormula") ∈ ntbl := nt_of 37 (by decide +kernel) (by decide +kernel)
theorem nw73 : (Jvm.Cond.fieldLinkNest "LeafFormula" (78 : Nat) "LeafFormula$Tape" "length" "I" "LeafFormula") ∈ ntbl := nt_of 73 (by decide +kernel) (by decide +kernel)
theorem nw93 : (Jvm.Cond.methodLinkNest "LeafFormula$Reader" (11 : Nat) ({ cls := "LeafFormula$Groups", name := "<init>", desc := "()V" } : Jvm.MethodName) "LeafFormula") ∈ ntbl := nt_of 93 (by decide +kernel) (by decide +kernel)
theorem nw127 : (Jvm.Cond.methodLinkNest "LeafFormula$Reader" (20 : Nat) ({ cls := "LeafFormula$NamedLeaves", name := "<init>", desc := "()V" } : Jvm.MethodName) "LeafFormula") ∈ ntbl := nt_of 127 (by decide +kernel) (by decide +kernel)
theorem nw182 : (Jvm.Cond.methodLinkNest "LeafFormula" (27 : Nat) ({ cls := "LeafFormula$Plan", name := "<init>", desc := "()V" } : Jvm.MethodName) "LeafFormula") ∈ ntbl := nt_of 182 (by decide +kernel) (by decide +kernel)
theorem nw213 : (Jvm.Cond.methodLinkNest "LeafFormula" (43 : Nat) ({ cls := "LeafFormula$Collator", name := "<init>", desc := "()V" } : Jvm.MethodName) "LeafFormula") ∈ ntbl := nt_of 213 (by decide +kernel) (by decide +kernel)
theorem nw229 : (Jvm.Cond.methodLinkNest "LeafFormula" (50 : Nat) ({ cls := "LeafFormula$Scribe", name := "<init>", desc := "()V" } : Jvm.MethodName) "LeafFormula") ∈ ntbl := nt_of 229 (by decide +kernel) (by decide +kernel)
theorem nw270 : (Jvm.Cond.arrayOver (Jvm.ClassFile.FieldType.object "LeafFormula$Book")) ∈ ntbl := nt_of 270 (by decide +kernel) (by decide +kernel)
theorem nw272 : (Jvm.Cond.arrayOver (Jvm.ClassFile.FieldType.object "LeafFormula$Copy")) ∈ ntbl := nt_of 272 (by decide +kernel) (by decide +kernel)
theorem pw0 : Cond.selects "LeafFormula" ⟨"LeafFormula", "refuse", "(I)I"⟩ ⟨"LeafFormula", "refuse", "(I)I"⟩ ∈ gtbl := gt_of 0 (by decide +kernel) (by decide +kernel)
theorem pw1 : Cond.selects "LeafFormula" ⟨"LeafFormula", "answer", "(I)I"⟩ ⟨"LeafFormula", "answer", "(I)I"⟩ ∈ gtbl := gt_of 1 (by decide +kernel) (by decide +kernel)
theorem pw4 : Cond.selects "LeafFormula$Tape" ⟨"LeafFormula$Tape", "byteAt", "(I)I"⟩ ⟨"LeafFormula$Tape", "byteAt", "(I)I"⟩ ∈ gtbl := gt_of 4 (by decide +kernel) (by decide +kernel)
theorem pw6 : Cond.selects "LeafFormula$Tape" ⟨"LeafFormula$Tape", "signOfWord", "(II)I"⟩ ⟨"LeafFormula$Tape", "signOfWord", "(II)I"⟩ ∈ gtbl := gt_of 6 (by decide +kernel) (by decide +kernel)
theorem pw7 : Cond.selects "LeafFormula$Tape" ⟨"LeafFormula$Tape", "valueOfNumber", "(II)I"⟩ ⟨"LeafFormula$Tape", "valueOfNumber", "(II)I"⟩ ∈ gtbl := gt_of 7 (by decide +kernel) (by decide +kernel)
/-! X8_init -/
theorem dX8_init_0 : decode cX8_init 0 = .ok (.aload_n 0, 1) := by decide +kernel
theorem dX8_init_1 : decode cX8_init 1 = .ok (.invokespecial 3, 3) := by decide +kernel
theorem dX8_init_4 : decode cX8_init 4 = .ok (.aload_n 0, 1) := by decide +kernel
theorem dX8_init_5 : decode cX8_init 5 = .ok (.iload_n 1, 1) := by decide +kernel
theorem dX8_init_6 : decode cX8_init 6 = .ok (.iconst 0, 1) := by decide +kernel
theorem dX8_init_7 : decode cX8_init 7 = .ok (.invokestatic 9, 3) := by decide +kernel
theorem dX8_init_10 : decode cX8_init 10 = .ok (.newarray .int, 2) := by decide +kernel
theorem dX8_init_12 : decode cX8_init 12 = .ok (.putfield 15, 3) := by decide +kernel
theorem dX8_init_15 : decode cX8_init 15 = .ok (.return_, 1) := by decide +kernel
def X8_init (this : Nat) (a1 : Int32) : MM Unit :=
  wn (some this) fun _ =>
  mb (nA 0 (if a1 < (0 : Int32) then (0 : Int32) else a1)) fun v1 =>
  mb (pR 9 (some this) 0 v1) fun _ =>
  mr ()
set_option maxRecDepth 100000 in
set_option maxHeartbeats 4000000 in
theorem s_X8_init (G : GG) (this : Nat) (a1 : Int32) : Sn G yX8_init cX8_init 2 none 1 14 (fun _ : Unit => none) (X8_init this a1) 0 [some (va_rf (some this)), some (.int a1)] [] := by
  unfold X8_init
  refine sn_aload_n (v := (some this)) (pc' := 1) dX8_init_0 rfl rfl rfl ?_
  refine sn_oI (pc' := 4) rfl tw46 tw33 tw34 cat_nil rfl dX8_init_1 rfl ?_
  refine sn_aload_n (v := (some this)) (pc' := 5) dX8_init_4 rfl rfl rfl ?_
  refine sn_iload_n (v := a1) (pc' := 6) dX8_init_5 rfl rfl rfl ?_
  refine sn_iconst (v := (0 : Int32)) (pc' := 7) dX8_init_6 rfl (by decide) ?_
  refine sn_max (pc' := 10) rfl tw47 tw48 tw4 tw49 (cat_q cat_nil) rfl dX8_init_7 rfl ?_
  refine sn_nA (t := 0) (pc' := 12) rfl rfl tw64 dX8_init_10 rfl (fun v1 => ?_)
  refine sn_pR (k := 0) (pc' := 15) ci_9 rfl (Or.inl tw50) (Or.inr ⟨rfl, rfl, rfl, tw50⟩) (Or.inr ⟨_, rfl⟩) dX8_init_12 rfl (fun _ => ?_)
  exact sn_vret dX8_init_15 rfl
theorem c_X8_init (G : GG) (this : Nat) (a1 : Int32) : Cal G yX8_init cX8_init 2 none 1 14 (fun _ : Unit => none) (X8_init this a1) [.ref this, .int a1] :=
  Cal.of (by decide) (cat_t (cat_i cat_nil)) rfl (sn_weak (le_s (le_s le_e)) (s_X8_init G this a1))
theorem cw_X8_init : CW yX8_init cX8_init 2 none 1 := ⟨tw45, tw3, by decide, by decide +kernel⟩
/-! X10_init -/
theorem dX10_init_0 : decode cX10_init 0 = .ok (.aload_n 0, 1) := by decide +kernel
theorem dX10_init_1 : decode cX10_init 1 = .ok (.invokespecial 3, 3) := by decide +kernel
theorem dX10_init_4 : decode cX10_init 4 = .ok (.aload_n 0, 1) := by decide +kernel
theorem dX10_init_5 : decode cX10_init 5 = .ok (.bipush 120, 2) := by decide +kernel
theorem dX10_init_7 : decode cX10_init 7 = .ok (.newarray .byte, 2) := by decide +kernel
theorem dX10_init_9 : decode cX10_init 9 = .ok (.putfield 9, 3) := by decide +kernel
theorem dX10_init_12 : decode cX10_init 12 = .ok (.aload_n 0, 1) := by decide +kernel
theorem dX10_init_13 : decode cX10_init 13 = .ok (.new 15, 3) := by decide +kernel
theorem dX10_init_16 : decode cX10_init 16 = .ok (.dup, 1) := by decide +kernel
theorem dX10_init_17 : decode cX10_init 17 = .ok (.bipush 121, 2) := by decide +kernel
theorem dX10_init_19 : decode cX10_init 19 = .ok (.invokespecial 17, 3) := by decide +kernel
theorem dX10_init_22 : decode cX10_init 22 = .ok (.putfield 20, 3) := by decide +kernel
theorem dX10_init_25 : decode cX10_init 25 = .ok (.aload_n 0, 1) := by decide +kernel
theorem dX10_init_26 : decode cX10_init 26 = .ok (.new 15, 3) := by decide +kernel
theorem dX10_init_29 : decode cX10_init 29 = .ok (.dup, 1) := by decide +kernel
theorem dX10_init_30 : decode cX10_init 30 = .ok (.bipush 121, 2) := by decide +kernel
theorem dX10_init_32 : decode cX10_init 32 = .ok (.invokespecial 17, 3) := by decide +kernel
theorem dX10_init_35 : decode cX10_init 35 = .ok (.putfield 24, 3) := by decide +kernel
theorem dX10_init_38 : decode cX10_init 38 = .ok (.aload_n 0, 1) := by decide +kernel
theorem dX10_init_39 : decode cX10_init 39 = .ok (.new 15, 3) := by decide +kernel
theorem dX10_init_42 : decode cX10_init 42 = .ok (.dup, 1) := by decide +kernel
theorem dX10_init_43 : decode cX10_init 43 = .ok (.bipush 121, 2) := by decide +kernel
theorem dX10_init_45 : decode cX10_init 45 = .ok (.invokespecial 17, 3) := by decide +kernel
theorem dX10_init_48 : decode cX10_init 48 = .ok (.putfield 27, 3) := by decide +kernel
theorem dX10_init_51 : decode cX10_init 51 = .ok (.return_, 1) := by decide +kernel
def X10_init (this : Nat) : MM Unit :=
  wn (some this) fun _ =>
  mb (nA 1 (120 : Int32)) fun v1 =>
  mb (pR 11 (some this) 0 v1) fun _ =>
  mb (nO 9 2 [.null, .int 0]) fun v2 =>
  mb (wn v2 fun t => X8_init t (121 : Int32)) fun _ =>
  mb (pR 11 (some this) 1 v2) fun _ =>
  mb (nO 9 2 [.null, .int 0]) fun v3 =>
  mb (wn v3 fun t => X8_init t (121 : Int32)) fun _ =>
  mb (pR 11 (some this) 2 v3) fun _ =>
  mb (nO 9 2 [.null, .int 0]) fun v4 =>
  mb (wn v4 fun t => X8_init t (121 : Int32)) fun _ =>
  mb (pR 11 (some this) 3 v4) fun _ =>
  mr ()
set_option maxRecDepth 100000 in
set_option maxHeartbeats 4000000 in
theorem s_X10_init (G : GG) (this : Nat) : Sn G yX10_init cX10_init 1 none 2 35 (fun _ : Unit => none) (X10_init this) 0 [some (va_rf (some this))] [] := by
  unfold X10_init
  refine sn_aload_n (v := (some this)) (pc' := 1) dX10_init_0 rfl rfl rfl ?_
  refine sn_oI (pc' := 4) rfl tw40 tw33 tw34 cat_nil rfl dX10_init_1 rfl ?_
  refine sn_aload_n (v := (some this)) (pc' := 5) dX10_init_4 rfl rfl rfl ?_
  refine sn_bipush (v := (120 : Int32)) (pc' := 7) dX10_init_5 rfl (by decide) ?_
  refine sn_nA (t := 1) (pc' := 9) rfl rfl tw63 dX10_init_7 rfl (fun v1 => ?_)
  refine sn_pR (k := 0) (pc' := 12) ci_11 rfl (Or.inl tw65) (Or.inr ⟨rfl, rfl, rfl, tw65⟩) (Or.inr ⟨_, rfl⟩) dX10_init_9 rfl (fun _ => ?_)
  refine sn_aload_n (v := (some this)) (pc' := 13) dX10_init_12 rfl rfl rfl ?_
  refine sn_nO (pc' := 16) ci_9 tw41 tw42 tw3 (by decide +kernel) dX10_init_13 rfl (fun v2 => ?_)
  refine sn_dup (pc' := 17) dX10_init_16 rfl (cat_rf _) ?_
  refine sn_bipush (v := (121 : Int32)) (pc' := 19) dX10_init_17 rfl (by decide) ?_
  refine sn_cI (r := v2) (st := [va_rf v2, va_rf (some this)]) (As := [.int (121 : Int32)]) (st2 := (fun _ => [va_rf v2, va_rf (some this)])) (pc' := 22) (fun t => c_X8_init G t (121 : Int32)) cw_X8_init rfl rfl (Or.inl tw43) tw44 rfl rfl rfl (cat_q (cat_q cat_nil)) rfl (fun _ => rfl) dX10_init_19 rfl (fun _ => ?_)
  refine sn_pR (k := 1) (pc' := 25) ci_11 rfl (Or.inl tw66) (Or.inr ⟨rfl, rfl, rfl, tw66⟩) (Or.inl ⟨_, rfl⟩) dX10_init_22 rfl (fun _ => ?_)
  refine sn_aload_n (v := (some this)) (pc' := 26) dX10_init_25 rfl rfl rfl ?_
  refine sn_nO (pc' := 29) ci_9 tw41 tw42 tw3 (by decide +kernel) dX10_init_26 rfl (fun v3 => ?_)
  refine sn_dup (pc' := 30) dX10_init_29 rfl (cat_rf _) ?_
  refine sn_bipush (v := (121 : Int32)) (pc' := 32) dX10_init_30 rfl (by decide) ?_
  refine sn_cI (r := v3) (st := [va_rf v3, va_rf (some this)]) (As := [.int (121 : Int32)]) (st2 := (fun _ => [va_rf v3, va_rf (some this)])) (pc' := 35) (fun t => c_X8_init G t (121 : Int32)) cw_X8_init rfl rfl (Or.inl tw43) tw44 rfl rfl rfl (cat_q (cat_q cat_nil)) rfl (fun _ => rfl) dX10_init_32 rfl (fun _ => ?_)
  refine sn_pR (k := 2) (pc' := 38) ci_11 rfl (Or.inl tw68) (Or.inr ⟨rfl, rfl, rfl, tw68⟩) (Or.inl ⟨_, rfl⟩) dX10_init_35 rfl (fun _ => ?_)
  refine sn_aload_n (v := (some this)) (pc' := 39) dX10_init_38 rfl rfl rfl ?_
  refine sn_nO (pc' := 42) ci_9 tw41 tw42 tw3 (by decide +kernel) dX10_init_39 rfl (fun v4 => ?_)
  refine sn_dup (pc' := 43) dX10_init_42 rfl (cat_rf _) ?_
  refine sn_bipush (v := (121 : Int32)) (pc' := 45) dX10_init_43 rfl (by decide) ?_
  refine sn_cI (r := v4) (st := [va_rf v4, va_rf (some this)]) (As := [.int (121 : Int32)]) (st2 := (fun _ => [va_rf v4, va_rf (some this)])) (pc' := 48) (fun t => c_X8_init G t (121 : Int32)) cw_X8_init rfl rfl (Or.inl tw43) tw44 rfl rfl rfl (cat_q (cat_q cat_nil)) rfl (fun _ => rfl) dX10_init_45 rfl (fun _ => ?_)
  refine sn_pR (k := 3) (pc' := 51) ci_11 rfl (Or.inl tw70) (Or.inr ⟨rfl, rfl, rfl, tw70⟩) (Or.inl ⟨_, rfl⟩) dX10_init_48 rfl (fun _ => ?_)
  exact sn_vret dX10_init_51 rfl
theorem c_X10_init (G : GG) (this : Nat) : Cal G yX10_init cX10_init 1 none 2 35 (fun _ : Unit => none) (X10_init this) [.ref this] :=
  Cal.of (by decide) (cat_t cat_nil) rfl (sn_weak (le_s le_e) (s_X10_init G this))
theorem cw_X10_init : CW yX10_init cX10_init 1 none 0 := ⟨tw39, tw2, by decide, by decide +kernel⟩
/-! X4_init -/
theorem dX4_init_0 : decode cX4_init 0 = .ok (.aload_n 0, 1) := by decide +kernel
theorem dX4_init_1 : decode cX4_init 1 = .ok (.invokespecial 3, 3) := by decide +kernel
theorem dX4_init_4 : decode cX4_init 4 = .ok (.aload_n 0, 1) := by decide +kernel
theorem dX4_init_5 : decode cX4_init 5 = .ok (.new 9, 3) := by decide +kernel
theorem dX4_init_8 : decode cX4_init 8 = .ok (.dup, 1) := by decide +kernel
theorem dX4_init_9 : decode cX4_init 9 = .ok (.bipush 121, 2) := by decide +kernel
theorem dX4_init_11 : decode cX4_init 11 = .ok (.invokespecial 11, 3) := by decide +kernel
theorem dX4_init_14 : decode cX4_init 14 = .ok (.putfield 14, 3) := by decide +kernel
theorem dX4_init_17 : decode cX4_init 17 = .ok (.aload_n 0, 1) := by decide +kernel
theorem dX4_init_18 : decode cX4_init 18 = .ok (.new 9, 3) := by decide +kernel
theorem dX4_init_21 : decode cX4_init 21 = .ok (.dup, 1) := by decide +kernel
theorem dX4_init_22 : decode cX4_init 22 = .ok (.bipush 121, 2) := by decide +kernel
theorem dX4_init_24 : decode cX4_init 24 = .ok (.invokespecial 11, 3) := by decide +kernel
theorem dX4_init_27 : decode cX4_init 27 = .ok (.putfield 20, 3) := by decide +kernel
theorem dX4_init_30 : decode cX4_init 30 = .ok (.aload_n 0, 1) := by decide +kernel
theorem dX4_init_31 : decode cX4_init 31 = .ok (.new 9, 3) := by decide +kernel
theorem dX4_init_34 : decode cX4_init 34 = .ok (.dup, 1) := by decide +kernel
theorem dX4_init_35 : decode cX4_init 35 = .ok (.bipush 121, 2) := by decide +kernel
theorem dX4_init_37 : decode cX4_init 37 = .ok (.invokespecial 11, 3) := by decide +kernel
theorem dX4_init_40 : decode cX4_init 40 = .ok (.putfield 23, 3) := by decide +kernel
theorem dX4_init_43 : decode cX4_init 43 = .ok (.aload_n 0, 1) := by decide +kernel
theorem dX4_init_44 : decode cX4_init 44 = .ok (.new 9, 3) := by decide +kernel
theorem dX4_init_47 : decode cX4_init 47 = .ok (.dup, 1) := by decide +kernel
theorem dX4_init_48 : decode cX4_init 48 = .ok (.bipush 121, 2) := by decide +kernel
theorem dX4_init_50 : decode cX4_init 50 = .ok (.invokespecial 11, 3) := by decide +kernel
theorem dX4_init_53 : decode cX4_init 53 = .ok (.putfield 26, 3) := by decide +kernel
theorem dX4_init_56 : decode cX4_init 56 = .ok (.aload_n 0, 1) := by decide +kernel
theorem dX4_init_57 : decode cX4_init 57 = .ok (.new 9, 3) := by decide +kernel
theorem dX4_init_60 : decode cX4_init 60 = .ok (.dup, 1) := by decide +kernel
theorem dX4_init_61 : decode cX4_init 61 = .ok (.bipush 121, 2) := by decide +kernel
theorem dX4_init_63 : decode cX4_init 63 = .ok (.invokespecial 11, 3) := by decide +kernel
theorem dX4_init_66 : decode cX4_init 66 = .ok (.putfield 29, 3) := by decide +kernel
theorem dX4_init_69 : decode cX4_init 69 = .ok (.return_, 1) := by decide +kernel
def X4_init (this : Nat) : MM Unit :=
  wn (some this) fun _ =>
  mb (nO 9 2 [.null, .int 0]) fun v1 =>
  mb (wn v1 fun t => X8_init t (121 : Int32)) fun _ =>
  mb (pR 5 (some this) 0 v1) fun _ =>
  mb (nO 9 2 [.null, .int 0]) fun v2 =>
  mb (wn v2 fun t => X8_init t (121 : Int32)) fun _ =>
  mb (pR 5 (some this) 1 v2) fun _ =>
  mb (nO 9 2 [.null, .int 0]) fun v3 =>
  mb (wn v3 fun t => X8_init t (121 : Int32)) fun _ =>
  mb (pR 5 (some this) 2 v3) fun _ =>
  mb (nO 9 2 [.null, .int 0]) fun v4 =>
  mb (wn v4 fun t => X8_init t (121 : Int32)) fun _ =>
  mb (pR 5 (some this) 3 v4) fun _ =>
  mb (nO 9 2 [.null, .int 0]) fun v5 =>
  mb (wn v5 fun t => X8_init t (121 : Int32)) fun _ =>
  mb (pR 5 (some this) 4 v5) fun _ =>
  mr ()
set_option maxRecDepth 100000 in
set_option maxHeartbeats 4000000 in
theorem s_X4_init (G : GG) (this : Nat) : Sn G yX4_init cX4_init 1 none 2 35 (fun _ : Unit => none) (X4_init this) 0 [some (va_rf (some this))] [] := by
  unfold X4_init
  refine sn_aload_n (v := (some this)) (pc' := 1) dX4_init_0 rfl rfl rfl ?_
  refine sn_oI (pc' := 4) rfl tw96 tw33 tw34 cat_nil rfl dX4_init_1 rfl ?_
  refine sn_aload_n (v := (some this)) (pc' := 5) dX4_init_4 rfl rfl rfl ?_
  refine sn_nO (pc' := 8) ci_9 tw97 tw42 tw3 (by decide +kernel) dX4_init_5 rfl (fun v1 => ?_)
  refine sn_dup (pc' := 9) dX4_init_8 rfl (cat_rf _) ?_
  refine sn_bipush (v := (121 : Int32)) (pc' := 11) dX4_init_9 rfl (by decide) ?_
  refine sn_cI (r := v1) (st := [va_rf v1, va_rf (some this)]) (As := [.int (121 : Int32)]) (st2 := (fun _ => [va_rf v1, va_rf (some this)])) (pc' := 14) (fun t => c_X8_init G t (121 : Int32)) cw_X8_init rfl rfl (Or.inl tw98) tw44 rfl rfl rfl (cat_q (cat_q cat_nil)) rfl (fun _ => rfl) dX4_init_11 rfl (fun _ => ?_)
  refine sn_pR (k := 0) (pc' := 17) ci_5 rfl (Or.inl tw99) (Or.inr ⟨rfl, rfl, rfl, tw99⟩) (Or.inl ⟨_, rfl⟩) dX4_init_14 rfl (fun _ => ?_)
  refine sn_aload_n (v := (some this)) (pc' := 18) dX4_init_17 rfl rfl rfl ?_
  refine sn_nO (pc' := 21) ci_9 tw97 tw42 tw3 (by decide +kernel) dX4_init_18 rfl (fun v2 => ?_)
  refine sn_dup (pc' := 22) dX4_init_21 rfl (cat_rf _) ?_
  refine sn_bipush (v := (121 : Int32)) (pc' := 24) dX4_init_22 rfl (by decide) ?_
  refine sn_cI (r := v2) (st := [va_rf v2, va_rf (some this)]) (As := [.int (121 : Int32)]) (st2 := (fun _ => [va_rf v2, va_rf (some this)])) (pc' := 27) (fun t => c_X8_init G t (121 : Int32)) cw_X8_init rfl rfl (Or.inl tw98) tw44 rfl rfl rfl (cat_q (cat_q cat_nil)) rfl (fun _ => rfl) dX4_init_24 rfl (fun _ => ?_)
  refine sn_pR (k := 1) (pc' := 30) ci_5 rfl (Or.inl tw102) (Or.inr ⟨rfl, rfl, rfl, tw102⟩) (Or.inl ⟨_, rfl⟩) dX4_init_27 rfl (fun _ => ?_)
  refine sn_aload_n (v := (some this)) (pc' := 31) dX4_init_30 rfl rfl rfl ?_
  refine sn_nO (pc' := 34) ci_9 tw97 tw42 tw3 (by decide +kernel) dX4_init_31 rfl (fun v3 => ?_)
  refine sn_dup (pc' := 35) dX4_init_34 rfl (cat_rf _) ?_
  refine sn_bipush (v := (121 : Int32)) (pc' := 37) dX4_init_35 rfl (by decide) ?_
  refine sn_cI (r := v3) (st := [va_rf v3, va_rf (some this)]) (As := [.int (121 : Int32)]) (st2 := (fun _ => [va_rf v3, va_rf (some this)])) (pc' := 40) (fun t => c_X8_init G t (121 : Int32)) cw_X8_init rfl rfl (Or.inl tw98) tw44 rfl rfl rfl (cat_q (cat_q cat_nil)) rfl (fun _ => rfl) dX4_init_37 rfl (fun _ => ?_)
  refine sn_pR (k := 2) (pc' := 43) ci_5 rfl (Or.inl tw105) (Or.inr ⟨rfl, rfl, rfl, tw105⟩) (Or.inl ⟨_, rfl⟩) dX4_init_40 rfl (fun _ => ?_)
  refine sn_aload_n (v := (some this)) (pc' := 44) dX4_init_43 rfl rfl rfl ?_
  refine sn_nO (pc' := 47) ci_9 tw97 tw42 tw3 (by decide +kernel) dX4_init_44 rfl (fun v4 => ?_)
  refine sn_dup (pc' := 48) dX4_init_47 rfl (cat_rf _) ?_
  refine sn_bipush (v := (121 : Int32)) (pc' := 50) dX4_init_48 rfl (by decide) ?_
  refine sn_cI (r := v4) (st := [va_rf v4, va_rf (some this)]) (As := [.int (121 : Int32)]) (st2 := (fun _ => [va_rf v4, va_rf (some this)])) (pc' := 53) (fun t => c_X8_init G t (121 : Int32)) cw_X8_init rfl rfl (Or.inl tw98) tw44 rfl rfl rfl (cat_q (cat_q cat_nil)) rfl (fun _ => rfl) dX4_init_50 rfl (fun _ => ?_)
  refine sn_pR (k := 3) (pc' := 56) ci_5 rfl (Or.inl tw108) (Or.inr ⟨rfl, rfl, rfl, tw108⟩) (Or.inl ⟨_, rfl⟩) dX4_init_53 rfl (fun _ => ?_)
  refine sn_aload_n (v := (some this)) (pc' := 57) dX4_init_56 rfl rfl rfl ?_
  refine sn_nO (pc' := 60) ci_9 tw97 tw42 tw3 (by decide +kernel) dX4_init_57 rfl (fun v5 => ?_)
  refine sn_dup (pc' := 61) dX4_init_60 rfl (cat_rf _) ?_
  refine sn_bipush (v := (121 : Int32)) (pc' := 63) dX4_init_61 rfl (by decide) ?_
  refine sn_cI (r := v5) (st := [va_rf v5, va_rf (some this)]) (As := [.int (121 : Int32)]) (st2 := (fun _ => [va_rf v5, va_rf (some this)])) (pc' := 66) (fun t => c_X8_init G t (121 : Int32)) cw_X8_init rfl rfl (Or.inl tw98) tw44 rfl rfl rfl (cat_q (cat_q cat_nil)) rfl (fun _ => rfl) dX4_init_63 rfl (fun _ => ?_)
  refine sn_pR (k := 4) (pc' := 69) ci_5 rfl (Or.inl tw111) (Or.inr ⟨rfl, rfl, rfl, tw111⟩) (Or.inl ⟨_, rfl⟩) dX4_init_66 rfl (fun _ => ?_)
  exact sn_vret dX4_init_69 rfl
theorem c_X4_init (G : GG) (this : Nat) : Cal G yX4_init cX4_init 1 none 2 35 (fun _ : Unit => none) (X4_init this) [.ref this] :=
  Cal.of (by decide) (cat_t cat_nil) rfl (sn_weak (le_s le_e) (s_X4_init G this))
theorem cw_X4_init : CW yX4_init cX4_init 1 none 0 := ⟨tw95, tw6, by decide, by decide +kernel⟩
/-! X5_init -/
theorem dX5_init_0 : decode cX5_init 0 = .ok (.aload_n 0, 1) := by decide +kernel
theorem dX5_init_1 : decode cX5_init 1 = .ok (.invokespecial 3, 3) := by decide +kernel
theorem dX5_init_4 : decode cX5_init 4 = .ok (.aload_n 0, 1) := by decide +kernel
theorem dX5_init_5 : decode cX5_init 5 = .ok (.new 9, 3) := by decide +kernel
theorem dX5_init_8 : decode cX5_init 8 = .ok (.dup, 1) := by decide +kernel
theorem dX5_init_9 : decode cX5_init 9 = .ok (.bipush 121, 2) := by decide +kernel
theorem dX5_init_11 : decode cX5_init 11 = .ok (.invokespecial 11, 3) := by decide +kernel
theorem dX5_init_14 : decode cX5_init 14 = .ok (.putfield 14, 3) := by decide +kernel
theorem dX5_init_17 : decode cX5_init 17 = .ok (.aload_n 0, 1) := by decide +kernel
theorem dX5_init_18 : decode cX5_init 18 = .ok (.new 9, 3) := by decide +kernel
theorem dX5_init_21 : decode cX5_init 21 = .ok (.dup, 1) := by decide +kernel
theorem dX5_init_22 : decode cX5_init 22 = .ok (.bipush 121, 2) := by decide +kernel
theorem dX5_init_24 : decode cX5_init 24 = .ok (.invokespecial 11, 3) := by decide +kernel
theorem dX5_init_27 : decode cX5_init 27 = .ok (.putfield 20, 3) := by decide +kernel
theorem dX5_init_30 : decode cX5_init 30 = .ok (.aload_n 0, 1) := by decide +kernel
theorem dX5_init_31 : decode cX5_init 31 = .ok (.new 9, 3) := by decide +kernel
theorem dX5_init_34 : decode cX5_init 34 = .ok (.dup, 1) := by decide +kernel
theorem dX5_init_35 : decode cX5_init 35 = .ok (.bipush 121, 2) := by decide +kernel
theorem dX5_init_37 : decode cX5_init 37 = .ok (.invokespecial 11, 3) := by decide +kernel
theorem dX5_init_40 : decode cX5_init 40 = .ok (.putfield 23, 3) := by decide +kernel
theorem dX5_init_43 : decode cX5_init 43 = .ok (.aload_n 0, 1) := by decide +kernel
theorem dX5_init_44 : decode cX5_init 44 = .ok (.new 9, 3) := by decide +kernel
theorem dX5_init_47 : decode cX5_init 47 = .ok (.dup, 1) := by decide +kernel
theorem dX5_init_48 : decode cX5_init 48 = .ok (.bipush 121, 2) := by decide +kernel
theorem dX5_init_50 : decode cX5_init 50 = .ok (.invokespecial 11, 3) := by decide +kernel
theorem dX5_init_53 : decode cX5_init 53 = .ok (.putfield 26, 3) := by decide +kernel
theorem dX5_init_56 : decode cX5_init 56 = .ok (.return_, 1) := by decide +kernel
def X5_init (this : Nat) : MM Unit :=
  wn (some this) fun _ =>
  mb (nO 9 2 [.null, .int 0]) fun v1 =>
  mb (wn v1 fun t => X8_init t (121 : Int32)) fun _ =>
  mb (pR 6 (some this) 0 v1) fun _ =>
  mb (nO 9 2 [.null, .int 0]) fun v2 =>
  mb (wn v2 fun t => X8_init t (121 : Int32)) fun _ =>
  mb (pR 6 (some this) 1 v2) fun _ =>
  mb (nO 9 2 [.null, .int 0]) fun v3 =>
  mb (wn v3 fun t => X8_init t (121 : Int32)) fun _ =>
  mb (pR 6 (some this) 2 v3) fun _ =>
  mb (nO 9 2 [.null, .int 0]) fun v4 =>
  mb (wn v4 fun t => X8_init t (121 : Int32)) fun _ =>
  mb (pR 6 (some this) 3 v4) fun _ =>
  mr ()
set_option maxRecDepth 100000 in
set_option maxHeartbeats 4000000 in
theorem s_X5_init (G : GG) (this : Nat) : Sn G yX5_init cX5_init 1 none 2 35 (fun _ : Unit => none) (X5_init this) 0 [some (va_rf (some this))] [] := by
  unfold X5_init
  refine sn_aload_n (v := (some this)) (pc' := 1) dX5_init_0 rfl rfl rfl ?_
  refine sn_oI (pc' := 4) rfl tw130 tw33 tw34 cat_nil rfl dX5_init_1 rfl ?_
  refine sn_aload_n (v := (some this)) (pc' := 5) dX5_init_4 rfl rfl rfl ?_
  refine sn_nO (pc' := 8) ci_9 tw131 tw42 tw3 (by decide +kernel) dX5_init_5 rfl (fun v1 => ?_)
  refine sn_dup (pc' := 9) dX5_init_8 rfl (cat_rf _) ?_
  refine sn_bipush (v := (121 : Int32)) (pc' := 11) dX5_init_9 rfl (by decide) ?_
  refine sn_cI (r := v1) (st := [va_rf v1, va_rf (some this)]) (As := [.int (121 : Int32)]) (st2 := (fun _ => [va_rf v1, va_rf (some this)])) (pc' := 14) (fun t => c_X8_init G t (121 : Int32)) cw_X8_init rfl rfl (Or.inl tw132) tw44 rfl rfl rfl (cat_q (cat_q cat_nil)) rfl (fun _ => rfl) dX5_init_11 rfl (fun _ => ?_)
  refine sn_pR (k := 0) (pc' := 17) ci_6 rfl (Or.inl tw133) (Or.inr ⟨rfl, rfl, rfl, tw133⟩) (Or.inl ⟨_, rfl⟩) dX5_init_14 rfl (fun _ => ?_)
  refine sn_aload_n (v := (some this)) (pc' := 18) dX5_init_17 rfl rfl rfl ?_
  refine sn_nO (pc' := 21) ci_9 tw131 tw42 tw3 (by decide +kernel) dX5_init_18 rfl (fun v2 => ?_)
  refine sn_dup (pc' := 22) dX5_init_21 rfl (cat_rf _) ?_
  refine sn_bipush (v := (121 : Int32)) (pc' := 24) dX5_init_22 rfl (by decide) ?_
  refine sn_cI (r := v2) (st := [va_rf v2, va_rf (some this)]) (As := [.int (121 : Int32)]) (st2 := (fun _ => [va_rf v2, va_rf (some this)])) (pc' := 27) (fun t => c_X8_init G t (121 : Int32)) cw_X8_init rfl rfl (Or.inl tw132) tw44 rfl rfl rfl (cat_q (cat_q cat_nil)) rfl (fun _ => rfl) dX5_init_24 rfl (fun _ => ?_)
  refine sn_pR (k := 1) (pc' := 30) ci_6 rfl (Or.inl tw136) (Or.inr ⟨rfl, rfl, rfl, tw136⟩) (Or.inl ⟨_, rfl⟩) dX5_init_27 rfl (fun _ => ?_)
  refine sn_aload_n (v := (some this)) (pc' := 31) dX5_init_30 rfl rfl rfl ?_
  refine sn_nO (pc' := 34) ci_9 tw131 tw42 tw3 (by decide +kernel) dX5_init_31 rfl (fun v3 => ?_)
  refine sn_dup (pc' := 35) dX5_init_34 rfl (cat_rf _) ?_
  refine sn_bipush (v := (121 : Int32)) (pc' := 37) dX5_init_35 rfl (by decide) ?_
  refine sn_cI (r := v3) (st := [va_rf v3, va_rf (some this)]) (As := [.int (121 : Int32)]) (st2 := (fun _ => [va_rf v3, va_rf (some this)])) (pc' := 40) (fun t => c_X8_init G t (121 : Int32)) cw_X8_init rfl rfl (Or.inl tw132) tw44 rfl rfl rfl (cat_q (cat_q cat_nil)) rfl (fun _ => rfl) dX5_init_37 rfl (fun _ => ?_)
  refine sn_pR (k := 2) (pc' := 43) ci_6 rfl (Or.inl tw140) (Or.inr ⟨rfl, rfl, rfl, tw140⟩) (Or.inl ⟨_, rfl⟩) dX5_init_40 rfl (fun _ => ?_)
  refine sn_aload_n (v := (some this)) (pc' := 44) dX5_init_43 rfl rfl rfl ?_
  refine sn_nO (pc' := 47) ci_9 tw131 tw42 tw3 (by decide +kernel) dX5_init_44 rfl (fun v4 => ?_)
  refine sn_dup (pc' := 48) dX5_init_47 rfl (cat_rf _) ?_
  refine sn_bipush (v := (121 : Int32)) (pc' := 50) dX5_init_48 rfl (by decide) ?_
  refine sn_cI (r := v4) (st := [va_rf v4, va_rf (some this)]) (As := [.int (121 : Int32)]) (st2 := (fun _ => [va_rf v4, va_rf (some this)])) (pc' := 53) (fun t => c_X8_init G t (121 : Int32)) cw_X8_init rfl rfl (Or.inl tw132) tw44 rfl rfl rfl (cat_q (cat_q cat_nil)) rfl (fun _ => rfl) dX5_init_50 rfl (fun _ => ?_)
  refine sn_pR (k := 3) (pc' := 56) ci_6 rfl (Or.inl tw144) (Or.inr ⟨rfl, rfl, rfl, tw144⟩) (Or.inl ⟨_, rfl⟩) dX5_init_53 rfl (fun _ => ?_)
  exact sn_vret dX5_init_56 rfl
theorem c_X5_init (G : GG) (this : Nat) : Cal G yX5_init cX5_init 1 none 2 35 (fun _ : Unit => none) (X5_init this) [.ref this] :=
  Cal.of (by decide) (cat_t cat_nil) rfl (sn_weak (le_s le_e) (s_X5_init G this))
theorem cw_X5_init : CW yX5_init cX5_init 1 none 0 := ⟨tw129, tw7, by decide, by decide +kernel⟩
/-! X7_init -/
theorem dX7_init_0 : decode cX7_init 0 = .ok (.aload_n 0, 1) := by decide +kernel
theorem dX7_init_1 : decode cX7_init 1 = .ok (.invokespecial 3, 3) := by decide +kernel
theorem dX7_init_4 : decode cX7_init 4 = .ok (.aload_n 0, 1) := by decide +kernel
theorem dX7_init_5 : decode cX7_init 5 = .ok (.new 9, 3) := by decide +kernel
theorem dX7_init_8 : decode cX7_init 8 = .ok (.dup, 1) := by decide +kernel
theorem dX7_init_9 : decode cX7_init 9 = .ok (.invokespecial 11, 3) := by decide +kernel
theorem dX7_init_12 : decode cX7_init 12 = .ok (.putfield 12, 3) := by decide +kernel
theorem dX7_init_15 : decode cX7_init 15 = .ok (.aload_n 0, 1) := by decide +kernel
theorem dX7_init_16 : decode cX7_init 16 = .ok (.new 18, 3) := by decide +kernel
theorem dX7_init_19 : decode cX7_init 19 = .ok (.dup, 1) := by decide +kernel
theorem dX7_init_20 : decode cX7_init 20 = .ok (.invokespecial 20, 3) := by decide +kernel
theorem dX7_init_23 : decode cX7_init 23 = .ok (.putfield 21, 3) := by decide +kernel
theorem dX7_init_26 : decode cX7_init 26 = .ok (.aload_n 0, 1) := by decide +kernel
theorem dX7_init_27 : decode cX7_init 27 = .ok (.bipush (-9), 2) := by decide +kernel
theorem dX7_init_29 : decode cX7_init 29 = .ok (.putfield 25, 3) := by decide +kernel
theorem dX7_init_32 : decode cX7_init 32 = .ok (.aload_n 0, 1) := by decide +kernel
theorem dX7_init_33 : decode cX7_init 33 = .ok (.aload_n 1, 1) := by decide +kernel
theorem dX7_init_34 : decode cX7_init 34 = .ok (.putfield 29, 3) := by decide +kernel
theorem dX7_init_37 : decode cX7_init 37 = .ok (.return_, 1) := by decide +kernel
def X7_init (this : Nat) (a1 : Option Nat) : MM Unit :=
  wn (some this) fun _ =>
  mb (nO 5 5 [.null, .null, .null, .null, .null]) fun v1 =>
  mb (wn v1 fun t => X4_init t ) fun _ =>
  mb (pR 8 (some this) 1 v1) fun _ =>
  mb (nO 6 4 [.null, .null, .null, .null]) fun v2 =>
  mb (wn v2 fun t => X5_init t ) fun _ =>
  mb (pR 8 (some this) 2 v2) fun _ =>
  mb (pI 8 (some this) 5 (-9 : Int32)) fun _ =>
  mb (pR 8 (some this) 0 a1) fun _ =>
  mr ()
set_option maxRecDepth 100000 in
set_option maxHeartbeats 4000000 in
theorem s_X7_init (G : GG) (this : Nat) (a1 : Option Nat) : Sn G yX7_init cX7_init 2 none 3 55 (fun _ : Unit => none) (X7_init this a1) 0 [some (va_rf (some this)), some (va_rf a1)] [] := by
  unfold X7_init
  refine sn_aload_n (v := (some this)) (pc' := 1) dX7_init_0 rfl rfl rfl ?_
  refine sn_oI (pc' := 4) rfl tw90 tw33 tw34 cat_nil rfl dX7_init_1 rfl ?_
  refine sn_aload_n (v := (some this)) (pc' := 5) dX7_init_4 rfl rfl rfl ?_
  refine sn_nO (pc' := 8) ci_5 tw91 tw92 tw6 (by decide +kernel) dX7_init_5 rfl (fun v1 => ?_)
  refine sn_dup (pc' := 9) dX7_init_8 rfl (cat_rf _) ?_
  refine sn_cI (r := v1) (st := [va_rf v1, va_rf (some this)]) (As := []) (st2 := (fun _ => [va_rf v1, va_rf (some this)])) (pc' := 12) (fun t => c_X4_init G t ) cw_X4_init rfl rfl (Or.inr ⟨_, nw93⟩) tw94 rfl rfl rfl (cat_q (cat_q cat_nil)) rfl (fun _ => rfl) dX7_init_9 rfl (fun _ => ?_)
  refine sn_pR (k := 1) (pc' := 15) ci_8 rfl (Or.inl tw158) (Or.inr ⟨rfl, rfl, rfl, tw158⟩) (Or.inl ⟨_, rfl⟩) dX7_init_12 rfl (fun _ => ?_)
  refine sn_aload_n (v := (some this)) (pc' := 16) dX7_init_15 rfl rfl rfl ?_
  refine sn_nO (pc' := 19) ci_6 tw125 tw126 tw7 (by decide +kernel) dX7_init_16 rfl (fun v2 => ?_)
  refine sn_dup (pc' := 20) dX7_init_19 rfl (cat_rf _) ?_
  refine sn_cI (r := v2) (st := [va_rf v2, va_rf (some this)]) (As := []) (st2 := (fun _ => [va_rf v2, va_rf (some this)])) (pc' := 23) (fun t => c_X5_init G t ) cw_X5_init rfl rfl (Or.inr ⟨_, nw127⟩) tw128 rfl rfl rfl (cat_q (cat_q cat_nil)) rfl (fun _ => rfl) dX7_init_20 rfl (fun _ => ?_)
  refine sn_pR (k := 2) (pc' := 26) ci_8 rfl (Or.inl tw160) (Or.inr ⟨rfl, rfl, rfl, tw160⟩) (Or.inl ⟨_, rfl⟩) dX7_init_23 rfl (fun _ => ?_)
  refine sn_aload_n (v := (some this)) (pc' := 27) dX7_init_26 rfl rfl rfl ?_
  refine sn_bipush (v := (-9 : Int32)) (pc' := 29) dX7_init_27 rfl (by decide) ?_
  refine sn_pI (k := 5) (pc' := 32) ci_8 rfl (Or.inl tw165) (Or.inl rfl) rfl dX7_init_29 rfl (fun _ => ?_)
  refine sn_aload_n (v := (some this)) (pc' := 33) dX7_init_32 rfl rfl rfl ?_
  refine sn_aload_n (v := a1) (pc' := 34) dX7_init_33 rfl rfl rfl ?_
  refine sn_pR (k := 0) (pc' := 37) ci_8 rfl (Or.inl tw157) (Or.inr ⟨rfl, rfl, rfl, tw157⟩) (Or.inl ⟨_, rfl⟩) dX7_init_34 rfl (fun _ => ?_)
  exact sn_vret dX7_init_37 rfl
theorem c_X7_init (G : GG) (this : Nat) (a1 : Option Nat) : Cal G yX7_init cX7_init 2 none 3 55 (fun _ : Unit => none) (X7_init this a1) [.ref this, va_rf a1] :=
  Cal.of (by decide) (cat_t (cat_q cat_nil)) rfl (sn_weak (le_s (le_s le_e)) (s_X7_init G this a1))
theorem cw_X7_init : CW yX7_init cX7_init 2 none 1 := ⟨tw89, tw5, by decide, by decide +kernel⟩
/-! X6_init -/
theorem dX6_init_0 : decode cX6_init 0 = .ok (.aload_n 0, 1) := by decide +kernel
theorem dX6_init_1 : decode cX6_init 1 = .ok (.invokespecial 3, 3) := by decide +kernel
theorem dX6_init_4 : decode cX6_init 4 = .ok (.aload_n 0, 1) := by decide +kernel
theorem dX6_init_5 : decode cX6_init 5 = .ok (.bipush 71, 2) := by decide +kernel
theorem dX6_init_7 : decode cX6_init 7 = .ok (.newarray .int, 2) := by decide +kernel
theorem dX6_init_9 : decode cX6_init 9 = .ok (.putfield 9, 3) := by decide +kernel
theorem dX6_init_12 : decode cX6_init 12 = .ok (.aload_n 0, 1) := by decide +kernel
theorem dX6_init_13 : decode cX6_init 13 = .ok (.bipush 71, 2) := by decide +kernel
theorem dX6_init_15 : decode cX6_init 15 = .ok (.newarray .int, 2) := by decide +kernel
theorem dX6_init_17 : decode cX6_init 17 = .ok (.putfield 15, 3) := by decide +kernel
theorem dX6_init_20 : decode cX6_init 20 = .ok (.aload_n 0, 1) := by decide +kernel
theorem dX6_init_21 : decode cX6_init 21 = .ok (.sipush 852, 3) := by decide +kernel
theorem dX6_init_24 : decode cX6_init 24 = .ok (.newarray .byte, 2) := by decide +kernel
theorem dX6_init_26 : decode cX6_init 26 = .ok (.putfield 18, 3) := by decide +kernel
theorem dX6_init_29 : decode cX6_init 29 = .ok (.aload_n 0, 1) := by decide +kernel
theorem dX6_init_30 : decode cX6_init 30 = .ok (.sipush 852, 3) := by decide +kernel
theorem dX6_init_33 : decode cX6_init 33 = .ok (.newarray .byte, 2) := by decide +kernel
theorem dX6_init_35 : decode cX6_init 35 = .ok (.putfield 22, 3) := by decide +kernel
theorem dX6_init_38 : decode cX6_init 38 = .ok (.aload_n 0, 1) := by decide +kernel
theorem dX6_init_39 : decode cX6_init 39 = .ok (.iconst (-1), 1) := by decide +kernel
theorem dX6_init_40 : decode cX6_init 40 = .ok (.putfield 25, 3) := by decide +kernel
theorem dX6_init_43 : decode cX6_init 43 = .ok (.return_, 1) := by decide +kernel
def X6_init (this : Nat) : MM Unit :=
  wn (some this) fun _ =>
  mb (nA 0 (71 : Int32)) fun v1 =>
  mb (pR 7 (some this) 0 v1) fun _ =>
  mb (nA 0 (71 : Int32)) fun v2 =>
  mb (pR 7 (some this) 1 v2) fun _ =>
  mb (nA 1 (852 : Int32)) fun v3 =>
  mb (pR 7 (some this) 2 v3) fun _ =>
  mb (nA 1 (852 : Int32)) fun v4 =>
  mb (pR 7 (some this) 3 v4) fun _ =>
  mb (pI 7 (some this) 5 (-1 : Int32)) fun _ =>
  mr ()
set_option maxRecDepth 100000 in
set_option maxHeartbeats 4000000 in
theorem s_X6_init (G : GG) (this : Nat) : Sn G yX6_init cX6_init 1 none 1 12 (fun _ : Unit => none) (X6_init this) 0 [some (va_rf (some this))] [] := by
  unfold X6_init
  refine sn_aload_n (v := (some this)) (pc' := 1) dX6_init_0 rfl rfl rfl ?_
  refine sn_oI (pc' := 4) rfl tw185 tw33 tw34 cat_nil rfl dX6_init_1 rfl ?_
  refine sn_aload_n (v := (some this)) (pc' := 5) dX6_init_4 rfl rfl rfl ?_
  refine sn_bipush (v := (71 : Int32)) (pc' := 7) dX6_init_5 rfl (by decide) ?_
  refine sn_nA (t := 0) (pc' := 9) rfl rfl tw64 dX6_init_7 rfl (fun v1 => ?_)
  refine sn_pR (k := 0) (pc' := 12) ci_7 rfl (Or.inl tw186) (Or.inr ⟨rfl, rfl, rfl, tw186⟩) (Or.inr ⟨_, rfl⟩) dX6_init_9 rfl (fun _ => ?_)
  refine sn_aload_n (v := (some this)) (pc' := 13) dX6_init_12 rfl rfl rfl ?_
  refine sn_bipush (v := (71 : Int32)) (pc' := 15) dX6_init_13 rfl (by decide) ?_
  refine sn_nA (t := 0) (pc' := 17) rfl rfl tw64 dX6_init_15 rfl (fun v2 => ?_)
  refine sn_pR (k := 1) (pc' := 20) ci_7 rfl (Or.inl tw187) (Or.inr ⟨rfl, rfl, rfl, tw187⟩) (Or.inr ⟨_, rfl⟩) dX6_init_17 rfl (fun _ => ?_)
  refine sn_aload_n (v := (some this)) (pc' := 21) dX6_init_20 rfl rfl rfl ?_
  refine sn_sipush (v := (852 : Int32)) (pc' := 24) dX6_init_21 rfl (by decide) ?_
  refine sn_nA (t := 1) (pc' := 26) rfl rfl tw63 dX6_init_24 rfl (fun v3 => ?_)
  refine sn_pR (k := 2) (pc' := 29) ci_7 rfl (Or.inl tw188) (Or.inr ⟨rfl, rfl, rfl, tw188⟩) (Or.inr ⟨_, rfl⟩) dX6_init_26 rfl (fun _ => ?_)
  refine sn_aload_n (v := (some this)) (pc' := 30) dX6_init_29 rfl rfl rfl ?_
  refine sn_sipush (v := (852 : Int32)) (pc' := 33) dX6_init_30 rfl (by decide) ?_
  refine sn_nA (t := 1) (pc' := 35) rfl rfl tw63 dX6_init_33 rfl (fun v4 => ?_)
  refine sn_pR (k := 3) (pc' := 38) ci_7 rfl (Or.inl tw189) (Or.inr ⟨rfl, rfl, rfl, tw189⟩) (Or.inr ⟨_, rfl⟩) dX6_init_35 rfl (fun _ => ?_)
  refine sn_aload_n (v := (some this)) (pc' := 39) dX6_init_38 rfl rfl rfl ?_
  refine sn_iconst (v := (-1 : Int32)) (pc' := 40) dX6_init_39 rfl (by decide) ?_
  refine sn_pI (k := 5) (pc' := 43) ci_7 rfl (Or.inl tw194) (Or.inl rfl) rfl dX6_init_40 rfl (fun _ => ?_)
  exact sn_vret dX6_init_43 rfl
theorem c_X6_init (G : GG) (this : Nat) : Cal G yX6_init cX6_init 1 none 1 12 (fun _ : Unit => none) (X6_init this) [.ref this] :=
  Cal.of (by decide) (cat_t cat_nil) rfl (sn_weak (le_s le_e) (s_X6_init G this))
theorem cw_X6_init : CW yX6_init cX6_init 1 none 0 := ⟨tw184, tw8, by decide, by decide +kernel⟩
/-! X1_init -/
theorem dX1_init_0 : decode cX1_init 0 = .ok (.aload_n 0, 1) := by decide +kernel
theorem dX1_init_1 : decode cX1_init 1 = .ok (.invokespecial 3, 3) := by decide +kernel
theorem dX1_init_4 : decode cX1_init 4 = .ok (.aload_n 0, 1) := by decide +kernel
theorem dX1_init_5 : decode cX1_init 5 = .ok (.sipush 400, 3) := by decide +kernel
theorem dX1_init_8 : decode cX1_init 8 = .ok (.newarray .int, 2) := by decide +kernel
theorem dX1_init_10 : decode cX1_init 10 = .ok (.putfield 9, 3) := by decide +kernel
theorem dX1_init_13 : decode cX1_init 13 = .ok (.aload_n 0, 1) := by decide +kernel
theorem dX1_init_14 : decode cX1_init 14 = .ok (.sipush 400, 3) := by decide +kernel
theorem dX1_init_17 : decode cX1_init 17 = .ok (.newarray .int, 2) := by decide +kernel
theorem dX1_init_19 : decode cX1_init 19 = .ok (.putfield 15, 3) := by decide +kernel
theorem dX1_init_22 : decode cX1_init 22 = .ok (.aload_n 0, 1) := by decide +kernel
theorem dX1_init_23 : decode cX1_init 23 = .ok (.sipush 400, 3) := by decide +kernel
theorem dX1_init_26 : decode cX1_init 26 = .ok (.newarray .int, 2) := by decide +kernel
theorem dX1_init_28 : decode cX1_init 28 = .ok (.putfield 18, 3) := by decide +kernel
theorem dX1_init_31 : decode cX1_init 31 = .ok (.return_, 1) := by decide +kernel
def X1_init (this : Nat) : MM Unit :=
  wn (some this) fun _ =>
  mb (nA 0 (400 : Int32)) fun v1 =>
  mb (pR 3 (some this) 0 v1) fun _ =>
  mb (nA 0 (400 : Int32)) fun v2 =>
  mb (pR 3 (some this) 1 v2) fun _ =>
  mb (nA 0 (400 : Int32)) fun v3 =>
  mb (pR 3 (some this) 2 v3) fun _ =>
  mr ()
set_option maxRecDepth 100000 in
set_option maxHeartbeats 4000000 in
theorem s_X1_init (G : GG) (this : Nat) : Sn G yX1_init cX1_init 1 none 1 12 (fun _ : Unit => none) (X1_init this) 0 [some (va_rf (some this))] [] := by
  unfold X1_init
  refine sn_aload_n (v := (some this)) (pc' := 1) dX1_init_0 rfl rfl rfl ?_
  refine sn_oI (pc' := 4) rfl tw216 tw33 tw34 cat_nil rfl dX1_init_1 rfl ?_
  refine sn_aload_n (v := (some this)) (pc' := 5) dX1_init_4 rfl rfl rfl ?_
  refine sn_sipush (v := (400 : Int32)) (pc' := 8) dX1_init_5 rfl (by decide) ?_
  refine sn_nA (t := 0) (pc' := 10) rfl rfl tw64 dX1_init_8 rfl (fun v1 => ?_)
  refine sn_pR (k := 0) (pc' := 13) ci_3 rfl (Or.inl tw217) (Or.inr ⟨rfl, rfl, rfl, tw217⟩) (Or.inr ⟨_, rfl⟩) dX1_init_10 rfl (fun _ => ?_)
  refine sn_aload_n (v := (some this)) (pc' := 14) dX1_init_13 rfl rfl rfl ?_
  refine sn_sipush (v := (400 : Int32)) (pc' := 17) dX1_init_14 rfl (by decide) ?_
  refine sn_nA (t := 0) (pc' := 19) rfl rfl tw64 dX1_init_17 rfl (fun v2 => ?_)
  refine sn_pR (k := 1) (pc' := 22) ci_3 rfl (Or.inl tw218) (Or.inr ⟨rfl, rfl, rfl, tw218⟩) (Or.inr ⟨_, rfl⟩) dX1_init_19 rfl (fun _ => ?_)
  refine sn_aload_n (v := (some this)) (pc' := 23) dX1_init_22 rfl rfl rfl ?_
  refine sn_sipush (v := (400 : Int32)) (pc' := 26) dX1_init_23 rfl (by decide) ?_
  refine sn_nA (t := 0) (pc' := 28) rfl rfl tw64 dX1_init_26 rfl (fun v3 => ?_)
  refine sn_pR (k := 2) (pc' := 31) ci_3 rfl (Or.inl tw219) (Or.inr ⟨rfl, rfl, rfl, tw219⟩) (Or.inr ⟨_, rfl⟩) dX1_init_28 rfl (fun _ => ?_)
  exact sn_vret dX1_init_31 rfl
theorem c_X1_init (G : GG) (this : Nat) : Cal G yX1_init cX1_init 1 none 1 12 (fun _ : Unit => none) (X1_init this) [.ref this] :=
  Cal.of (by decide) (cat_t cat_nil) rfl (sn_weak (le_s le_e) (s_X1_init G this))
theorem cw_X1_init : CW yX1_init cX1_init 1 none 0 := ⟨tw215, tw9, by decide, by decide +kernel⟩
/-! J5_init_d00df -/
theorem dJ5_init_d00df_0 : decode cJ5_init_d00df 0 = .ok (.aload_n 0, 1) := by decide +kernel
theorem dJ5_init_d00df_1 : decode cJ5_init_d00df 1 = .ok (.invokespecial 3, 3) := by decide +kernel
theorem dJ5_init_d00df_4 : decode cJ5_init_d00df 4 = .ok (.getstatic 18, 3) := by decide +kernel
theorem dJ5_init_d00df_7 : decode cJ5_init_d00df 7 = .ok (.ifCond .eq 18, 3) := by decide +kernel
theorem dJ5_init_d00df_10 : decode cJ5_init_d00df 10 = .ok (.aload_n 0, 1) := by decide +kernel
theorem dJ5_init_d00df_11 : decode cJ5_init_d00df 11 = .ok (.iload_n 1, 1) := by decide +kernel
theorem dJ5_init_d00df_12 : decode cJ5_init_d00df 12 = .ok (.newarray .byte, 2) := by decide +kernel
theorem dJ5_init_d00df_14 : decode cJ5_init_d00df 14 = .ok (.putfield 15, 3) := by decide +kernel
theorem dJ5_init_d00df_17 : decode cJ5_init_d00df 17 = .ok (.aload_n 0, 1) := by decide +kernel
theorem dJ5_init_d00df_18 : decode cJ5_init_d00df 18 = .ok (.iconst 0, 1) := by decide +kernel
theorem dJ5_init_d00df_19 : decode cJ5_init_d00df 19 = .ok (.putfield 22, 3) := by decide +kernel
theorem dJ5_init_d00df_22 : decode cJ5_init_d00df 22 = .ok (.goto 16, 3) := by decide +kernel
theorem dJ5_init_d00df_38 : decode cJ5_init_d00df 38 = .ok (.return_, 1) := by decide +kernel
def J5_init_d00df (this : Nat) (a1 : Int32) : MM Unit :=
  wn (some this) fun _ =>
  if (1 : Int32) = 0 then (mf) else (mb (nA 1 a1) fun v1 =>
  mb (pR 1 (some this) 0 v1) fun _ =>
  mb (pB 1 (some this) 1 (0 : Int32)) fun _ =>
  mr ())
set_option maxRecDepth 100000 in
set_option maxHeartbeats 4000000 in
theorem s_J5_init_d00df (G : GG) (this : Nat) (a1 : Int32) : Sn G yJ5_init_d00df cJ5_init_d00df 2 none 1 12 (fun _ : Unit => none) (J5_init_d00df this a1) 0 [some (va_rf (some this)), some (.int a1)] [] := by
  unfold J5_init_d00df
  refine sn_aload_n (v := (some this)) (pc' := 1) dJ5_init_d00df_0 rfl rfl rfl ?_
  refine sn_oI (pc' := 4) rfl tw241 tw33 tw34 cat_nil rfl dJ5_init_d00df_1 rfl ?_
  refine sn_gsI (C := "java/lang/String") (nm := "COMPACT_STRINGS") (d := "Z") (v := (1 : Int32)) (pc' := 7) (by decide +kernel) tw242 dJ5_init_d00df_4 rfl ?_
  refine sn_if_eq (pt := 25) (pf := 10) dJ5_init_d00df_7 rfl rfl ?_ ?_
  · exact sn_mf
  · refine sn_aload_n (v := (some this)) (pc' := 11) dJ5_init_d00df_10 rfl rfl rfl ?_
    refine sn_iload_n (v := a1) (pc' := 12) dJ5_init_d00df_11 rfl rfl rfl ?_
    refine sn_nA (t := 1) (pc' := 14) rfl rfl tw63 dJ5_init_d00df_12 rfl (fun v1 => ?_)
    refine sn_pR (k := 0) (pc' := 17) ci_1 rfl (Or.inl tw251) (Or.inl rfl) (Or.inr ⟨_, rfl⟩) dJ5_init_d00df_14 rfl (fun _ => ?_)
    refine sn_aload_n (v := (some this)) (pc' := 18) dJ5_init_d00df_17 rfl rfl rfl ?_
    refine sn_iconst (v := (0 : Int32)) (pc' := 19) dJ5_init_d00df_18 rfl (by decide) ?_
    refine sn_pB (k := 1) (pc' := 22) ci_1 rfl (Or.inl tw252) (Or.inl rfl) rfl dJ5_init_d00df_19 rfl (fun _ => ?_)
    refine sn_goto (pc' := 38) dJ5_init_d00df_22 rfl ?_
    exact sn_vret dJ5_init_d00df_38 rfl
theorem c_J5_init_d00df (G : GG) (this : Nat) (a1 : Int32) : Cal G yJ5_init_d00df cJ5_init_d00df 2 none 1 12 (fun _ : Unit => none) (J5_init_d00df this a1) [.ref this, .int a1] :=
  Cal.of (by decide) (cat_t (cat_i cat_nil)) rfl (sn_weak (le_s (le_s le_e)) (s_J5_init_d00df G this a1))
theorem cw_J5_init_d00df : CW yJ5_init_d00df cJ5_init_d00df 2 none 1 := ⟨tw240, tw11, by decide, by decide +kernel⟩
/-! J4_init_da8c8 -/
theorem dJ4_init_da8c8_0 : decode cJ4_init_da8c8 0 = .ok (.aload_n 0, 1) := by decide +kernel
theorem dJ4_init_da8c8_1 : decode cJ4_init_da8c8 1 = .ok (.bipush 16, 2) := by decide +kernel
theorem dJ4_init_da8c8_3 : decode cJ4_init_da8c8 3 = .ok (.invokespecial 1, 3) := by decide +kernel
theorem dJ4_init_da8c8_6 : decode cJ4_init_da8c8 6 = .ok (.return_, 1) := by decide +kernel
def J4_init_da8c8 (this : Nat) : MM Unit :=
  mb (wn (some this) fun t => J5_init_d00df t (16 : Int32)) fun _ =>
  mr ()
set_option maxRecDepth 100000 in
set_option maxHeartbeats 4000000 in
theorem s_J4_init_da8c8 (G : GG) (this : Nat) : Sn G yJ4_init_da8c8 cJ4_init_da8c8 1 none 2 33 (fun _ : Unit => none) (J4_init_da8c8 this) 0 [some (va_rf (some this))] [] := by
  unfold J4_init_da8c8
  refine sn_aload_n (v := (some this)) (pc' := 1) dJ4_init_da8c8_0 rfl rfl rfl ?_
  refine sn_bipush (v := (16 : Int32)) (pc' := 3) dJ4_init_da8c8_1 rfl (by decide) ?_
  refine sn_cI (r := (some this)) (st := []) (As := [.int (16 : Int32)]) (st2 := (fun _ => [])) (pc' := 6) (fun t => c_J5_init_d00df G t (16 : Int32)) cw_J5_init_d00df rfl rfl (Or.inl tw238) tw239 rfl rfl rfl cat_nil rfl (fun _ => rfl) dJ4_init_da8c8_3 rfl (fun _ => ?_)
  exact sn_vret dJ4_init_da8c8_6 rfl
theorem c_J4_init_da8c8 (G : GG) (this : Nat) : Cal G yJ4_init_da8c8 cJ4_init_da8c8 1 none 2 33 (fun _ : Unit => none) (J4_init_da8c8 this) [.ref this] :=
  Cal.of (by decide) (cat_t cat_nil) rfl (sn_weak (le_s le_e) (s_J4_init_da8c8 G this))
theorem cw_J4_init_da8c8 : CW yJ4_init_da8c8 cJ4_init_da8c8 1 none 0 := ⟨tw237, tw12, by decide, by decide +kernel⟩
/-! X9_init -/
theorem dX9_init_0 : decode cX9_init 0 = .ok (.aload_n 0, 1) := by decide +kernel
theorem dX9_init_1 : decode cX9_init 1 = .ok (.invokespecial 3, 3) := by decide +kernel
theorem dX9_init_4 : decode cX9_init 4 = .ok (.aload_n 0, 1) := by decide +kernel
theorem dX9_init_5 : decode cX9_init 5 = .ok (.new 9, 3) := by decide +kernel
theorem dX9_init_8 : decode cX9_init 8 = .ok (.dup, 1) := by decide +kernel
theorem dX9_init_9 : decode cX9_init 9 = .ok (.invokespecial 11, 3) := by decide +kernel
theorem dX9_init_12 : decode cX9_init 12 = .ok (.putfield 12, 3) := by decide +kernel
theorem dX9_init_15 : decode cX9_init 15 = .ok (.return_, 1) := by decide +kernel
def X9_init (this : Nat) : MM Unit :=
  wn (some this) fun _ =>
  mb (nO 1 4 [.null, .int 0, .int 0, .int 0]) fun v1 =>
  mb (wn v1 fun t => J4_init_da8c8 t ) fun _ =>
  mb (pR 10 (some this) 0 v1) fun _ =>
  mr ()
set_option maxRecDepth 100000 in
set_option maxHeartbeats 4000000 in
theorem s_X9_init (G : GG) (this : Nat) : Sn G yX9_init cX9_init 1 none 3 53 (fun _ : Unit => none) (X9_init this) 0 [some (va_rf (some this))] [] := by
  unfold X9_init
  refine sn_aload_n (v := (some this)) (pc' := 1) dX9_init_0 rfl rfl rfl ?_
  refine sn_oI (pc' := 4) rfl tw232 tw33 tw34 cat_nil rfl dX9_init_1 rfl ?_
  refine sn_aload_n (v := (some this)) (pc' := 5) dX9_init_4 rfl rfl rfl ?_
  refine sn_nO (pc' := 8) ci_1 tw233 tw234 tw12 (by decide +kernel) dX9_init_5 rfl (fun v1 => ?_)
  refine sn_dup (pc' := 9) dX9_init_8 rfl (cat_rf _) ?_
  refine sn_cI (r := v1) (st := [va_rf v1, va_rf (some this)]) (As := []) (st2 := (fun _ => [va_rf v1, va_rf (some this)])) (pc' := 12) (fun t => c_J4_init_da8c8 G t ) cw_J4_init_da8c8 rfl rfl (Or.inl tw235) tw236 rfl rfl rfl (cat_q (cat_q cat_nil)) rfl (fun _ => rfl) dX9_init_9 rfl (fun _ => ?_)
  refine sn_pR (k := 0) (pc' := 15) ci_10 rfl (Or.inl tw265) (Or.inr ⟨rfl, rfl, rfl, tw265⟩) (Or.inl ⟨_, rfl⟩) dX9_init_12 rfl (fun _ => ?_)
  exact sn_vret dX9_init_15 rfl
theorem c_X9_init (G : GG) (this : Nat) : Cal G yX9_init cX9_init 1 none 3 53 (fun _ : Unit => none) (X9_init this) [.ref this] :=
  Cal.of (by decide) (cat_t cat_nil) rfl (sn_weak (le_s le_e) (s_X9_init G this))
theorem cw_X9_init : CW yX9_init cX9_init 1 none 0 := ⟨tw231, tw10, by decide, by decide +kernel⟩
/-! X11_init -/
theorem dX11_init_0 : decode cX11_init 0 = .ok (.aload_n 0, 1) := by decide +kernel
theorem dX11_init_1 : decode cX11_init 1 = .ok (.invokespecial 3, 3) := by decide +kernel
theorem dX11_init_4 : decode cX11_init 4 = .ok (.aload_n 0, 1) := by decide +kernel
theorem dX11_init_5 : decode cX11_init 5 = .ok (.new 9, 3) := by decide +kernel
theorem dX11_init_8 : decode cX11_init 8 = .ok (.dup, 1) := by decide +kernel
theorem dX11_init_9 : decode cX11_init 9 = .ok (.invokespecial 11, 3) := by decide +kernel
theorem dX11_init_12 : decode cX11_init 12 = .ok (.putfield 12, 3) := by decide +kernel
theorem dX11_init_15 : decode cX11_init 15 = .ok (.aload_n 0, 1) := by decide +kernel
theorem dX11_init_16 : decode cX11_init 16 = .ok (.new 16, 3) := by decide +kernel
theorem dX11_init_19 : decode cX11_init 19 = .ok (.dup, 1) := by decide +kernel
theorem dX11_init_20 : decode cX11_init 20 = .ok (.aload_n 0, 1) := by decide +kernel
theorem dX11_init_21 : decode cX11_init 21 = .ok (.getfield 12, 3) := by decide +kernel
theorem dX11_init_24 : decode cX11_init 24 = .ok (.invokespecial 18, 3) := by decide +kernel
theorem dX11_init_27 : decode cX11_init 27 = .ok (.putfield 21, 3) := by decide +kernel
theorem dX11_init_30 : decode cX11_init 30 = .ok (.aload_n 0, 1) := by decide +kernel
theorem dX11_init_31 : decode cX11_init 31 = .ok (.new 25, 3) := by decide +kernel
theorem dX11_init_34 : decode cX11_init 34 = .ok (.dup, 1) := by decide +kernel
theorem dX11_init_35 : decode cX11_init 35 = .ok (.invokespecial 27, 3) := by decide +kernel
theorem dX11_init_38 : decode cX11_init 38 = .ok (.putfield 28, 3) := by decide +kernel
theorem dX11_init_41 : decode cX11_init 41 = .ok (.aload_n 0, 1) := by decide +kernel
theorem dX11_init_42 : decode cX11_init 42 = .ok (.new 32, 3) := by decide +kernel
theorem dX11_init_45 : decode cX11_init 45 = .ok (.dup, 1) := by decide +kernel
theorem dX11_init_46 : decode cX11_init 46 = .ok (.sipush 400, 3) := by decide +kernel
theorem dX11_init_49 : decode cX11_init 49 = .ok (.invokespecial 34, 3) := by decide +kernel
theorem dX11_init_52 : decode cX11_init 52 = .ok (.putfield 37, 3) := by decide +kernel
theorem dX11_init_55 : decode cX11_init 55 = .ok (.aload_n 0, 1) := by decide +kernel
theorem dX11_init_56 : decode cX11_init 56 = .ok (.new 41, 3) := by decide +kernel
theorem dX11_init_59 : decode cX11_init 59 = .ok (.dup, 1) := by decide +kernel
theorem dX11_init_60 : decode cX11_init 60 = .ok (.invokespecial 43, 3) := by decide +kernel
theorem dX11_init_63 : decode cX11_init 63 = .ok (.putfield 44, 3) := by decide +kernel
theorem dX11_init_66 : decode cX11_init 66 = .ok (.aload_n 0, 1) := by decide +kernel
theorem dX11_init_67 : decode cX11_init 67 = .ok (.new 48, 3) := by decide +kernel
theorem dX11_init_70 : decode cX11_init 70 = .ok (.dup, 1) := by decide +kernel
theorem dX11_init_71 : decode cX11_init 71 = .ok (.invokespecial 50, 3) := by decide +kernel
theorem dX11_init_74 : decode cX11_init 74 = .ok (.putfield 51, 3) := by decide +kernel
theorem dX11_init_77 : decode cX11_init 77 = .ok (.aload_n 0, 1) := by decide +kernel
theorem dX11_init_78 : decode cX11_init 78 = .ok (.bipush 8, 2) := by decide +kernel
theorem dX11_init_80 : decode cX11_init 80 = .ok (.anewarray 55, 3) := by decide +kernel
theorem dX11_init_83 : decode cX11_init 83 = .ok (.putfield 57, 3) := by decide +kernel
theorem dX11_init_86 : decode cX11_init 86 = .ok (.aload_n 0, 1) := by decide +kernel
theorem dX11_init_87 : decode cX11_init 87 = .ok (.bipush 16, 2) := by decide +kernel
theorem dX11_init_89 : decode cX11_init 89 = .ok (.anewarray 61, 3) := by decide +kernel
theorem dX11_init_92 : decode cX11_init 92 = .ok (.putfield 63, 3) := by decide +kernel
theorem dX11_init_95 : decode cX11_init 95 = .ok (.return_, 1) := by decide +kernel
def X11_init (this : Nat) : MM Unit :=
  wn (some this) fun _ =>
  mb (nO 11 5 [.null, .null, .null, .null, .int 0]) fun v1 =>
  mb (wn v1 fun t => X10_init t ) fun _ =>
  mb (pR 12 (some this) 0 v1) fun _ =>
  mb (nO 8 6 [.null, .null, .null, .int 0, .int 0, .int 0]) fun v2 =>
  mb (gR 12 (some this) 0) fun v3 =>
  mb (wn v2 fun t => X7_init t v3) fun _ =>
  mb (pR 12 (some this) 1 v2) fun _ =>
  mb (nO 7 6 [.null, .null, .null, .null, .int 0, .int 0]) fun v4 =>
  mb (wn v4 fun t => X6_init t ) fun _ =>
  mb (pR 12 (some this) 2 v4) fun _ =>
  mb (nO 9 2 [.null, .int 0]) fun v5 =>
  mb (wn v5 fun t => X8_init t (400 : Int32)) fun _ =>
  mb (pR 12 (some this) 3 v5) fun _ =>
  mb (nO 3 3 [.null, .null, .null]) fun v6 =>
  mb (wn v6 fun t => X1_init t ) fun _ =>
  mb (pR 12 (some this) 4 v6) fun _ =>
  mb (nO 10 1 [.null]) fun v7 =>
  mb (wn v7 fun t => X9_init t ) fun _ =>
  mb (pR 12 (some this) 5 v7) fun _ =>
  mb (nQ 3 (8 : Int32)) fun v8 =>
  mb (pR 12 (some this) 6 v8) fun _ =>
  mb (nQ 4 (16 : Int32)) fun v9 =>
  mb (pR 12 (some this) 7 v9) fun _ =>
  mr ()
set_option maxRecDepth 100000 in
set_option maxHeartbeats 4000000 in
theorem s_X11_init (G : GG) (this : Nat) : Sn G yX11_init cX11_init 1 none 4 76 (fun _ : Unit => none) (X11_init this) 0 [some (va_rf (some this))] [] := by
  unfold X11_init
  refine sn_aload_n (v := (some this)) (pc' := 1) dX11_init_0 rfl rfl rfl ?_
  refine sn_oI (pc' := 4) rfl tw32 tw33 tw34 cat_nil rfl dX11_init_1 rfl ?_
  refine sn_aload_n (v := (some this)) (pc' := 5) dX11_init_4 rfl rfl rfl ?_
  refine sn_nO (pc' := 8) ci_11 tw35 tw36 tw2 (by decide +kernel) dX11_init_5 rfl (fun v1 => ?_)
  refine sn_dup (pc' := 9) dX11_init_8 rfl (cat_rf _) ?_
  refine sn_cI (r := v1) (st := [va_rf v1, va_rf (some this)]) (As := []) (st2 := (fun _ => [va_rf v1, va_rf (some this)])) (pc' := 12) (fun t => c_X10_init G t ) cw_X10_init rfl rfl (Or.inr ⟨_, nw37⟩) tw38 rfl rfl rfl (cat_q (cat_q cat_nil)) rfl (fun _ => rfl) dX11_init_9 rfl (fun _ => ?_)
  refine sn_pR (k := 0) (pc' := 15) ci_12 rfl (Or.inl tw273) (Or.inr ⟨rfl, rfl, rfl, tw273⟩) (Or.inl ⟨_, rfl⟩) dX11_init_12 rfl (fun _ => ?_)
  refine sn_aload_n (v := (some this)) (pc' := 16) dX11_init_15 rfl rfl rfl ?_
  refine sn_nO (pc' := 19) ci_8 tw85 tw86 tw5 (by decide +kernel) dX11_init_16 rfl (fun v2 => ?_)
  refine sn_dup (pc' := 20) dX11_init_19 rfl (cat_rf _) ?_
  refine sn_aload_n (v := (some this)) (pc' := 21) dX11_init_20 rfl rfl rfl ?_
  refine sn_gR (k := 0) (pc' := 24) ci_12 rfl (Or.inl tw273) dX11_init_21 rfl (fun v3 => ?_)
  refine sn_cI (r := v2) (st := [va_rf v2, va_rf (some this)]) (As := [va_rf v3]) (st2 := (fun _ => [va_rf v2, va_rf (some this)])) (pc' := 27) (fun t => c_X7_init G t v3) cw_X7_init rfl rfl (Or.inl tw87) tw88 rfl rfl rfl (cat_q (cat_q cat_nil)) rfl (fun _ => rfl) dX11_init_24 rfl (fun _ => ?_)
  refine sn_pR (k := 1) (pc' := 30) ci_12 rfl (Or.inl tw274) (Or.inr ⟨rfl, rfl, rfl, tw274⟩) (Or.inl ⟨_, rfl⟩) dX11_init_27 rfl (fun _ => ?_)
  refine sn_aload_n (v := (some this)) (pc' := 31) dX11_init_30 rfl rfl rfl ?_
  refine sn_nO (pc' := 34) ci_7 tw180 tw181 tw8 (by decide +kernel) dX11_init_31 rfl (fun v4 => ?_)
  refine sn_dup (pc' := 35) dX11_init_34 rfl (cat_rf _) ?_
  refine sn_cI (r := v4) (st := [va_rf v4, va_rf (some this)]) (As := []) (st2 := (fun _ => [va_rf v4, va_rf (some this)])) (pc' := 38) (fun t => c_X6_init G t ) cw_X6_init rfl rfl (Or.inr ⟨_, nw182⟩) tw183 rfl rfl rfl (cat_q (cat_q cat_nil)) rfl (fun _ => rfl) dX11_init_35 rfl (fun _ => ?_)
  refine sn_pR (k := 2) (pc' := 41) ci_12 rfl (Or.inl tw275) (Or.inr ⟨rfl, rfl, rfl, tw275⟩) (Or.inl ⟨_, rfl⟩) dX11_init_38 rfl (fun _ => ?_)
  refine sn_aload_n (v := (some this)) (pc' := 42) dX11_init_41 rfl rfl rfl ?_
  refine sn_nO (pc' := 45) ci_9 tw209 tw42 tw3 (by decide +kernel) dX11_init_42 rfl (fun v5 => ?_)
  refine sn_dup (pc' := 46) dX11_init_45 rfl (cat_rf _) ?_
  refine sn_sipush (v := (400 : Int32)) (pc' := 49) dX11_init_46 rfl (by decide) ?_
  refine sn_cI (r := v5) (st := [va_rf v5, va_rf (some this)]) (As := [.int (400 : Int32)]) (st2 := (fun _ => [va_rf v5, va_rf (some this)])) (pc' := 52) (fun t => c_X8_init G t (400 : Int32)) cw_X8_init rfl rfl (Or.inl tw210) tw44 rfl rfl rfl (cat_q (cat_q cat_nil)) rfl (fun _ => rfl) dX11_init_49 rfl (fun _ => ?_)
  refine sn_pR (k := 3) (pc' := 55) ci_12 rfl (Or.inl tw276) (Or.inr ⟨rfl, rfl, rfl, tw276⟩) (Or.inl ⟨_, rfl⟩) dX11_init_52 rfl (fun _ => ?_)
  refine sn_aload_n (v := (some this)) (pc' := 56) dX11_init_55 rfl rfl rfl ?_
  refine sn_nO (pc' := 59) ci_3 tw211 tw212 tw9 (by decide +kernel) dX11_init_56 rfl (fun v6 => ?_)
  refine sn_dup (pc' := 60) dX11_init_59 rfl (cat_rf _) ?_
  refine sn_cI (r := v6) (st := [va_rf v6, va_rf (some this)]) (As := []) (st2 := (fun _ => [va_rf v6, va_rf (some this)])) (pc' := 63) (fun t => c_X1_init G t ) cw_X1_init rfl rfl (Or.inr ⟨_, nw213⟩) tw214 rfl rfl rfl (cat_q (cat_q cat_nil)) rfl (fun _ => rfl) dX11_init_60 rfl (fun _ => ?_)
  refine sn_pR (k := 4) (pc' := 66) ci_12 rfl (Or.inl tw277) (Or.inr ⟨rfl, rfl, rfl, tw277⟩) (Or.inl ⟨_, rfl⟩) dX11_init_63 rfl (fun _ => ?_)
  refine sn_aload_n (v := (some this)) (pc' := 67) dX11_init_66 rfl rfl rfl ?_
  refine sn_nO (pc' := 70) ci_10 tw227 tw228 tw10 (by decide +kernel) dX11_init_67 rfl (fun v7 => ?_)
  refine sn_dup (pc' := 71) dX11_init_70 rfl (cat_rf _) ?_
  refine sn_cI (r := v7) (st := [va_rf v7, va_rf (some this)]) (As := []) (st2 := (fun _ => [va_rf v7, va_rf (some this)])) (pc' := 74) (fun t => c_X9_init G t ) cw_X9_init rfl rfl (Or.inr ⟨_, nw229⟩) tw230 rfl rfl rfl (cat_q (cat_q cat_nil)) rfl (fun _ => rfl) dX11_init_71 rfl (fun _ => ?_)
  refine sn_pR (k := 5) (pc' := 77) ci_12 rfl (Or.inl tw278) (Or.inr ⟨rfl, rfl, rfl, tw278⟩) (Or.inl ⟨_, rfl⟩) dX11_init_74 rfl (fun _ => ?_)
  refine sn_aload_n (v := (some this)) (pc' := 78) dX11_init_77 rfl rfl rfl ?_
  refine sn_bipush (v := (8 : Int32)) (pc' := 80) dX11_init_78 rfl (by decide) ?_
  refine sn_nQ (t := 3) (pc' := 83) (by decide) tw269 nw270 dX11_init_80 rfl (fun v8 => ?_)
  refine sn_pR (k := 6) (pc' := 86) ci_12 rfl (Or.inl tw279) (Or.inr ⟨rfl, rfl, rfl, tw279⟩) (Or.inr ⟨_, rfl⟩) dX11_init_83 rfl (fun _ => ?_)
  refine sn_aload_n (v := (some this)) (pc' := 87) dX11_init_86 rfl rfl rfl ?_
  refine sn_bipush (v := (16 : Int32)) (pc' := 89) dX11_init_87 rfl (by decide) ?_
  refine sn_nQ (t := 4) (pc' := 92) (by decide) tw271 nw272 dX11_init_89 rfl (fun v9 => ?_)
  refine sn_pR (k := 7) (pc' := 95) ci_12 rfl (Or.inl tw280) (Or.inr ⟨rfl, rfl, rfl, tw280⟩) (Or.inr ⟨_, rfl⟩) dX11_init_92 rfl (fun _ => ?_)
  exact sn_vret dX11_init_95 rfl
theorem c_X11_init (G : GG) (this : Nat) : Cal G yX11_init cX11_init 1 none 4 76 (fun _ : Unit => none) (X11_init this) [.ref this] :=
  Cal.of (by decide) (cat_t cat_nil) rfl (sn_weak (le_s le_e) (s_X11_init G this))
theorem cw_X11_init : CW yX11_init cX11_init 1 none 0 := ⟨tw31, tw1, by decide, by decide +kernel⟩
/-! X10_hasRoom -/
theorem dX10_hasRoom_0 : decode cX10_hasRoom 0 = .ok (.aload_n 0, 1) := by decide +kernel
theorem dX10_hasRoom_1 : decode cX10_hasRoom 1 = .ok (.getfield 30, 3) := by decide +kernel
theorem dX10_hasRoom_4 : decode cX10_hasRoom 4 = .ok (.iload_n 1, 1) := by decide +kernel
theorem dX10_hasRoom_5 : decode cX10_hasRoom 5 = .ok (.iadd, 1) := by decide +kernel
theorem dX10_hasRoom_6 : decode cX10_hasRoom 6 = .ok (.aload_n 0, 1) := by decide +kernel
theorem dX10_hasRoom_7 : decode cX10_hasRoom 7 = .ok (.getfield 9, 3) := by decide +kernel
theorem dX10_hasRoom_10 : decode cX10_hasRoom 10 = .ok (.arraylength, 1) := by decide +kernel
theorem dX10_hasRoom_11 : decode cX10_hasRoom 11 = .ok (.if_icmp .gt 7, 3) := by decide +kernel
theorem dX10_hasRoom_14 : decode cX10_hasRoom 14 = .ok (.iconst 1, 1) := by decide +kernel
theorem dX10_hasRoom_15 : decode cX10_hasRoom 15 = .ok (.goto 4, 3) := by decide +kernel
theorem dX10_hasRoom_18 : decode cX10_hasRoom 18 = .ok (.iconst 0, 1) := by decide +kernel
theorem dX10_hasRoom_19 : decode cX10_hasRoom 19 = .ok (.ireturn, 1) := by decide +kernel
def X10_hasRoom (this : Nat) (a1 : Int32) : MM Int32 :=
  mb (gI 11 (some this) 4) fun v1 =>
  mb (gR 11 (some this) 0) fun v2 =>
  mb (aN v2) fun v3 =>
  if v3 < (v1 + a1) then (mr (0 : Int32)) else (mr (1 : Int32))
set_option maxRecDepth 100000 in
set_option maxHeartbeats 4000000 in
theorem s_X10_hasRoom (G : GG) (this : Nat) (a1 : Int32) : Sn G yX10_hasRoom cX10_hasRoom 2 (some FieldType.boolean) 0 0 (fun v : Int32 => some (.int v)) (X10_hasRoom this a1) 0 [some (va_rf (some this)), some (.int a1)] [] := by
  unfold X10_hasRoom
  refine sn_aload_n (v := (some this)) (pc' := 1) dX10_hasRoom_0 rfl rfl rfl ?_
  refine sn_gI (k := 4) (pc' := 4) ci_11 rfl (Or.inl tw72) dX10_hasRoom_1 rfl (fun v1 => ?_)
  refine sn_iload_n (v := a1) (pc' := 5) dX10_hasRoom_4 rfl rfl rfl ?_
  refine sn_iadd (pc' := 6) dX10_hasRoom_5 rfl ?_
  refine sn_aload_n (v := (some this)) (pc' := 7) dX10_hasRoom_6 rfl rfl rfl ?_
  refine sn_gR (k := 0) (pc' := 10) ci_11 rfl (Or.inl tw65) dX10_hasRoom_7 rfl (fun v2 => ?_)
  refine sn_aN (pc' := 11) dX10_hasRoom_10 rfl (fun v3 => ?_)
  refine sn_ic_gt (pt := 18) (pf := 14) dX10_hasRoom_11 rfl rfl ?_ ?_
  · refine sn_iconst (v := (0 : Int32)) (pc' := 19) dX10_hasRoom_18 rfl (by decide) ?_
    exact sn_iret dX10_hasRoom_19 rfl (by decide)
  · refine sn_iconst (v := (1 : Int32)) (pc' := 15) dX10_hasRoom_14 rfl (by decide) ?_
    refine sn_goto (pc' := 19) dX10_hasRoom_15 rfl ?_
    exact sn_iret dX10_hasRoom_19 rfl (by decide)
theorem c_X10_hasRoom (G : GG) (this : Nat) (a1 : Int32) : Cal G yX10_hasRoom cX10_hasRoom 2 (some FieldType.boolean) 0 0 (fun v : Int32 => some (.int v)) (X10_hasRoom this a1) [.ref this, .int a1] :=
  Cal.of (by decide) (cat_t (cat_i cat_nil)) rfl (sn_weak (le_s (le_s le_e)) (s_X10_hasRoom G this a1))
theorem cw_X10_hasRoom : CW yX10_hasRoom cX10_hasRoom 2 (some FieldType.boolean) 1 := ⟨tw317, tw2, by decide, by decide +kernel⟩
/-! X11_refuse -/
theorem dX11_refuse_0 : decode cX11_refuse 0 = .ok (.aload_n 0, 1) := by decide +kernel
theorem dX11_refuse_1 : decode cX11_refuse 1 = .ok (.iload_n 1, 1) := by decide +kernel
theorem dX11_refuse_2 : decode cX11_refuse 2 = .ok (.putfield 231, 3) := by decide +kernel
theorem dX11_refuse_5 : decode cX11_refuse 5 = .ok (.bipush (-9), 2) := by decide +kernel
theorem dX11_refuse_7 : decode cX11_refuse 7 = .ok (.ireturn, 1) := by decide +kernel
def X11_refuse (this : Nat) (a1 : Int32) : MM Int32 :=
  mb (pI 12 (some this) 11 a1) fun _ =>
  mr (-9 : Int32)
set_option maxRecDepth 100000 in
set_option maxHeartbeats 4000000 in
theorem s_X11_refuse (G : GG) (this : Nat) (a1 : Int32) : Sn G yX11_refuse cX11_refuse 2 (some FieldType.int) 0 0 (fun v : Int32 => some (.int v)) (X11_refuse this a1) 0 [some (va_rf (some this)), some (.int a1)] [] := by
  unfold X11_refuse
  refine sn_aload_n (v := (some this)) (pc' := 1) dX11_refuse_0 rfl rfl rfl ?_
  refine sn_iload_n (v := a1) (pc' := 2) dX11_refuse_1 rfl rfl rfl ?_
  refine sn_pI (k := 11) (pc' := 5) ci_12 rfl (Or.inl tw284) (Or.inl rfl) rfl dX11_refuse_2 rfl (fun _ => ?_)
  refine sn_bipush (v := (-9 : Int32)) (pc' := 7) dX11_refuse_5 rfl (by decide) ?_
  exact sn_iret dX11_refuse_7 rfl rfl
theorem c_X11_refuse (G : GG) (this : Nat) (a1 : Int32) : Cal G yX11_refuse cX11_refuse 2 (some FieldType.int) 0 0 (fun v : Int32 => some (.int v)) (X11_refuse this a1) [.ref this, .int a1] :=
  Cal.of (by decide) (cat_t (cat_i cat_nil)) rfl (sn_weak (le_s (le_s le_e)) (s_X11_refuse G this a1))
theorem cw_X11_refuse : CW yX11_refuse cX11_refuse 2 (some FieldType.int) 1 := ⟨tw321, tw1, by decide, by decide +kernel⟩
/-! X10_addWord -/
theorem dX10_addWord_0 : decode cX10_addWord 0 = .ok (.bipush 24, 2) := by decide +kernel
theorem dX10_addWord_2 : decode cX10_addWord 2 = .ok (.istore_n 2, 1) := by decide +kernel
theorem dX10_addWord_3 : decode cX10_addWord 3 = .ok (.iload_n 2, 1) := by decide +kernel
theorem dX10_addWord_4 : decode cX10_addWord 4 = .ok (.ifCond .lt 41, 3) := by decide +kernel
theorem dX10_addWord_7 : decode cX10_addWord 7 = .ok (.aload_n 0, 1) := by decide +kernel
theorem dX10_addWord_8 : decode cX10_addWord 8 = .ok (.getfield 30, 3) := by decide +kernel
theorem dX10_addWord_11 : decode cX10_addWord 11 = .ok (.aload_n 0, 1) := by decide +kernel
theorem dX10_addWord_12 : decode cX10_addWord 12 = .ok (.getfield 9, 3) := by decide +kernel
theorem dX10_addWord_15 : decode cX10_addWord 15 = .ok (.arraylength, 1) := by decide +kernel
theorem dX10_addWord_16 : decode cX10_addWord 16 = .ok (.if_icmp .ge 23, 3) := by decide +kernel
theorem dX10_addWord_19 : decode cX10_addWord 19 = .ok (.aload_n 0, 1) := by decide +kernel
theorem dX10_addWord_20 : decode cX10_addWord 20 = .ok (.getfield 9, 3) := by decide +kernel
theorem dX10_addWord_23 : decode cX10_addWord 23 = .ok (.aload_n 0, 1) := by decide +kernel
theorem dX10_addWord_24 : decode cX10_addWord 24 = .ok (.dup, 1) := by decide +kernel
theorem dX10_addWord_25 : decode cX10_addWord 25 = .ok (.getfield 30, 3) := by decide +kernel
theorem dX10_addWord_28 : decode cX10_addWord 28 = .ok (.dup_x1, 1) := by decide +kernel
theorem dX10_addWord_29 : decode cX10_addWord 29 = .ok (.iconst 1, 1) := by decide +kernel
theorem dX10_addWord_30 : decode cX10_addWord 30 = .ok (.iadd, 1) := by decide +kernel
theorem dX10_addWord_31 : decode cX10_addWord 31 = .ok (.putfield 30, 3) := by decide +kernel
theorem dX10_addWord_34 : decode cX10_addWord 34 = .ok (.iload_n 1, 1) := by decide +kernel
theorem dX10_addWord_35 : decode cX10_addWord 35 = .ok (.iload_n 2, 1) := by decide +kernel
theorem dX10_addWord_36 : decode cX10_addWord 36 = .ok (.ishr, 1) := by decide +kernel
theorem dX10_addWord_37 : decode cX10_addWord 37 = .ok (.i2b, 1) := by decide +kernel
theorem dX10_addWord_38 : decode cX10_addWord 38 = .ok (.bastore, 1) := by decide +kernel
theorem dX10_addWord_39 : decode cX10_addWord 39 = .ok (.iinc 2 (-8), 3) := by decide +kernel
theorem dX10_addWord_42 : decode cX10_addWord 42 = .ok (.goto (-39), 3) := by decide +kernel
theorem dX10_addWord_45 : decode cX10_addWord 45 = .ok (.return_, 1) := by decide +kernel
def X10_addWord_39 (k3 : Nat → Int32 → Int32 → MM Unit) (this : Nat) (x1 : Int32) (x2 : Int32) : MM Unit :=
  (k3 this x1 (x2 + (-8 : Int32)))
def X10_addWord_3_st  (k3 : Nat → Int32 → Int32 → MM Unit) (this : Nat) (x1 : Int32) (x2 : Int32) : MM Unit :=
  if x2 < 0 then (mr ()) else (mb (gI 11 (some this) 4) fun v1 =>
  mb (gR 11 (some this) 0) fun v2 =>
  mb (aN v2) fun v3 =>
  if v3 ≤ v1 then ((X10_addWord_39 k3 this x1 x2)) else (mb (gR 11 (some this) 0) fun v4 =>
  mb (gI 11 (some this) 4) fun v5 =>
  mb (pI 11 (some this) 4 (v5 + (1 : Int32))) fun _ =>
  mb (sB v4 v5 (((x1 >>> (x2 &&& 31))).toInt8.toInt32)) fun _ =>
  (X10_addWord_39 k3 this x1 x2)))
def X10_addWord_3  : Nat → Nat → Int32 → Int32 → MM Unit
  | 0 => fun _ _ _ => mf
  | n + 1 => fun this x1 x2 => X10_addWord_3_st  (X10_addWord_3  n) this x1 x2
def X10_addWord (this : Nat) (a1 : Int32) : MM Unit :=
  (X10_addWord_3 LFU this a1 (24 : Int32))
set_option maxRecDepth 100000 in
set_option maxHeartbeats 4000000 in
theorem s_X10_addWord_39 (G : GG) (k3 : Nat → Int32 → Int32 → MM Unit) (hk3 : ∀ (this : Nat) (x1 : Int32) (x2 : Int32), Sn G yX10_addWord cX10_addWord 3 none 0 0 (fun _ : Unit => none) (k3 this x1 x2) 3 [some (va_rf (some this)), some (.int x1), some (.int x2)] []) (this : Nat) (x1 : Int32) (x2 : Int32) : Sn G yX10_addWord cX10_addWord 3 none 0 0 (fun _ : Unit => none) (X10_addWord_39 k3 this x1 x2) 39 [some (va_rf (some this)), some (.int x1), some (.int x2)] [] := by
  unfold X10_addWord_39
  refine sn_iinc (v := x2) (w := -8) (L' := [some (va_rf (some this)), some (.int x1), some (.int (x2 + (-8 : Int32)))]) (pc' := 42) dX10_addWord_39 rfl rfl rfl (by decide) rfl ?_
  refine sn_goto (pc' := 3) dX10_addWord_42 rfl ?_
  exact sn_weak (le_s (le_s (le_s le_e))) (hk3 this x1 (x2 + (-8 : Int32)))
set_option maxRecDepth 100000 in
set_option maxHeartbeats 4000000 in
theorem s_X10_addWord_3_st (G : GG)   (k3 : Nat → Int32 → Int32 → MM Unit) (hk3 : ∀ (this : Nat) (x1 : Int32) (x2 : Int32), Sn G yX10_addWord cX10_addWord 3 none 0 0 (fun _ : Unit => none) (k3 this x1 x2) 3 [some (va_rf (some this)), some (.int x1), some (.int x2)] []) (this : Nat) (x1 : Int32) (x2 : Int32) : Sn G yX10_addWord cX10_addWord 3 none 0 0 (fun _ : Unit => none) (X10_addWord_3_st  k3 this x1 x2) 3 [some (va_rf (some this)), some (.int x1), some (.int x2)] [] := by
  unfold X10_addWord_3_st
  refine sn_iload_n (v := x2) (pc' := 4) dX10_addWord_3 rfl rfl rfl ?_
  refine sn_if_lt (pt := 45) (pf := 7) dX10_addWord_4 rfl rfl ?_ ?_
  · exact sn_vret dX10_addWord_45 rfl
  · refine sn_aload_n (v := (some this)) (pc' := 8) dX10_addWord_7 rfl rfl rfl ?_
    refine sn_gI (k := 4) (pc' := 11) ci_11 rfl (Or.inl tw72) dX10_addWord_8 rfl (fun v1 => ?_)
    refine sn_aload_n (v := (some this)) (pc' := 12) dX10_addWord_11 rfl rfl rfl ?_
    refine sn_gR (k := 0) (pc' := 15) ci_11 rfl (Or.inl tw65) dX10_addWord_12 rfl (fun v2 => ?_)
    refine sn_aN (pc' := 16) dX10_addWord_15 rfl (fun v3 => ?_)
    refine sn_ic_ge (pt := 39) (pf := 19) dX10_addWord_16 rfl rfl ?_ ?_
    · exact sn_weak (le_s (le_s (le_s le_e))) (s_X10_addWord_39 G k3 hk3 this x1 x2)
    · refine sn_aload_n (v := (some this)) (pc' := 20) dX10_addWord_19 rfl rfl rfl ?_
      refine sn_gR (k := 0) (pc' := 23) ci_11 rfl (Or.inl tw65) dX10_addWord_20 rfl (fun v4 => ?_)
      refine sn_aload_n (v := (some this)) (pc' := 24) dX10_addWord_23 rfl rfl rfl ?_
      refine sn_dup (pc' := 25) dX10_addWord_24 rfl (cat_rf _) ?_
      refine sn_gI (k := 4) (pc' := 28) ci_11 rfl (Or.inl tw72) dX10_addWord_25 rfl (fun v5 => ?_)
      refine sn_dup_x1 (pc' := 29) dX10_addWord_28 rfl rfl (cat_rf _) ?_
      refine sn_iconst (v := (1 : Int32)) (pc' := 30) dX10_addWord_29 rfl (by decide) ?_
      refine sn_iadd (pc' := 31) dX10_addWord_30 rfl ?_
      refine sn_pI (k := 4) (pc' := 34) ci_11 rfl (Or.inl tw72) (Or.inl rfl) rfl dX10_addWord_31 rfl (fun _ => ?_)
      refine sn_iload_n (v := x1) (pc' := 35) dX10_addWord_34 rfl rfl rfl ?_
      refine sn_iload_n (v := x2) (pc' := 36) dX10_addWord_35 rfl rfl rfl ?_
      refine sn_ishr (pc' := 37) dX10_addWord_36 rfl ?_
      refine sn_i2b (pc' := 38) dX10_addWord_37 rfl ?_
      refine sn_sB (pc' := 39) dX10_addWord_38 rfl (fun _ => ?_)
      exact sn_weak (le_s (le_s (le_s le_e))) (s_X10_addWord_39 G k3 hk3 this x1 x2)
set_option maxRecDepth 100000 in
set_option maxHeartbeats 4000000 in
theorem s_X10_addWord_3 (G : GG)   : ∀ (n : Nat) (this : Nat) (x1 : Int32) (x2 : Int32), Sn G yX10_addWord cX10_addWord 3 none 0 0 (fun _ : Unit => none) (X10_addWord_3  n this x1 x2) 3 [some (va_rf (some this)), some (.int x1), some (.int x2)] [] := by
  intro n
  induction n with
  | zero => intro this x1 x2; exact sn_mf
  | succ n ih => intro this x1 x2; exact s_X10_addWord_3_st G   (X10_addWord_3  n) ih this x1 x2
set_option maxRecDepth 100000 in
set_option maxHeartbeats 4000000 in
theorem s_X10_addWord (G : GG) (this : Nat) (a1 : Int32) : Sn G yX10_addWord cX10_addWord 3 none 0 0 (fun _ : Unit => none) (X10_addWord this a1) 0 [some (va_rf (some this)), some (.int a1), none] [] := by
  unfold X10_addWord
  refine sn_bipush (v := (24 : Int32)) (pc' := 2) dX10_addWord_0 rfl (by decide) ?_
  refine sn_istore_n (v := (24 : Int32)) (L' := [some (va_rf (some this)), some (.int a1), some (.int (24 : Int32))]) (pc' := 3) dX10_addWord_2 rfl rfl rfl rfl ?_
  exact sn_weak (le_s (le_s (le_s le_e))) (s_X10_addWord_3 G LFU this a1 (24 : Int32))
theorem c_X10_addWord (G : GG) (this : Nat) (a1 : Int32) : Cal G yX10_addWord cX10_addWord 3 none 0 0 (fun _ : Unit => none) (X10_addWord this a1) [.ref this, .int a1] :=
  Cal.of (by decide) (cat_t (cat_i cat_nil)) rfl (sn_weak (le_s (le_s (le_z le_e))) (s_X10_addWord G this a1))
theorem cw_X10_addWord : CW yX10_addWord cX10_addWord 3 none 1 := ⟨tw325, tw2, by decide, by decide +kernel⟩
/-! X11_answer -/
theorem dX11_answer_0 : decode cX11_answer 0 = .ok (.aload_n 0, 1) := by decide +kernel
theorem dX11_answer_1 : decode cX11_answer 1 = .ok (.iconst 0, 1) := by decide +kernel
theorem dX11_answer_2 : decode cX11_answer 2 = .ok (.putfield 231, 3) := by decide +kernel
theorem dX11_answer_5 : decode cX11_answer 5 = .ok (.iload_n 1, 1) := by decide +kernel
theorem dX11_answer_6 : decode cX11_answer 6 = .ok (.ireturn, 1) := by decide +kernel
def X11_answer (this : Nat) (a1 : Int32) : MM Int32 :=
  mb (pI 12 (some this) 11 (0 : Int32)) fun _ =>
  mr a1
set_option maxRecDepth 100000 in
set_option maxHeartbeats 4000000 in
theorem s_X11_answer (G : GG) (this : Nat) (a1 : Int32) : Sn G yX11_answer cX11_answer 2 (some FieldType.int) 0 0 (fun v : Int32 => some (.int v)) (X11_answer this a1) 0 [some (va_rf (some this)), some (.int a1)] [] := by
  unfold X11_answer
  refine sn_aload_n (v := (some this)) (pc' := 1) dX11_answer_0 rfl rfl rfl ?_
  refine sn_iconst (v := (0 : Int32)) (pc' := 2) dX11_answer_1 rfl (by decide) ?_
  refine sn_pI (k := 11) (pc' := 5) ci_12 rfl (Or.inl tw284) (Or.inl rfl) rfl dX11_answer_2 rfl (fun _ => ?_)
  refine sn_iload_n (v := a1) (pc' := 6) dX11_answer_5 rfl rfl rfl ?_
  exact sn_iret dX11_answer_6 rfl rfl
theorem c_X11_answer (G : GG) (this : Nat) (a1 : Int32) : Cal G yX11_answer cX11_answer 2 (some FieldType.int) 0 0 (fun v : Int32 => some (.int v)) (X11_answer this a1) [.ref this, .int a1] :=
  Cal.of (by decide) (cat_t (cat_i cat_nil)) rfl (sn_weak (le_s (le_s le_e)) (s_X11_answer G this a1))
theorem cw_X11_answer : CW yX11_answer cX11_answer 2 (some FieldType.int) 1 := ⟨tw329, tw1, by decide, by decide +kernel⟩
/-! X11_feed -/
theorem dX11_feed_0 : decode cX11_feed 0 = .ok (.aload_n 0, 1) := by decide +kernel
theorem dX11_feed_1 : decode cX11_feed 1 = .ok (.getfield 12, 3) := by decide +kernel
theorem dX11_feed_4 : decode cX11_feed 4 = .ok (.bipush 20, 2) := by decide +kernel
theorem dX11_feed_6 : decode cX11_feed 6 = .ok (.invokevirtual 67, 3) := by decide +kernel
theorem dX11_feed_9 : decode cX11_feed 9 = .ok (.ifCond .ne 10, 3) := by decide +kernel
theorem dX11_feed_12 : decode cX11_feed 12 = .ok (.aload_n 0, 1) := by decide +kernel
theorem dX11_feed_13 : decode cX11_feed 13 = .ok (.bipush 9, 2) := by decide +kernel
theorem dX11_feed_15 : decode cX11_feed 15 = .ok (.invokevirtual 71, 3) := by decide +kernel
theorem dX11_feed_18 : decode cX11_feed 18 = .ok (.ireturn, 1) := by decide +kernel
theorem dX11_feed_19 : decode cX11_feed 19 = .ok (.aload_n 0, 1) := by decide +kernel
theorem dX11_feed_20 : decode cX11_feed 20 = .ok (.getfield 12, 3) := by decide +kernel
theorem dX11_feed_23 : decode cX11_feed 23 = .ok (.iload_n 1, 1) := by decide +kernel
theorem dX11_feed_24 : decode cX11_feed 24 = .ok (.invokevirtual 75, 3) := by decide +kernel
theorem dX11_feed_27 : decode cX11_feed 27 = .ok (.aload_n 0, 1) := by decide +kernel
theorem dX11_feed_28 : decode cX11_feed 28 = .ok (.getfield 12, 3) := by decide +kernel
theorem dX11_feed_31 : decode cX11_feed 31 = .ok (.iload_n 2, 1) := by decide +kernel
theorem dX11_feed_32 : decode cX11_feed 32 = .ok (.invokevirtual 75, 3) := by decide +kernel
theorem dX11_feed_35 : decode cX11_feed 35 = .ok (.aload_n 0, 1) := by decide +kernel
theorem dX11_feed_36 : decode cX11_feed 36 = .ok (.getfield 12, 3) := by decide +kernel
theorem dX11_feed_39 : decode cX11_feed 39 = .ok (.iload_n 3, 1) := by decide +kernel
theorem dX11_feed_40 : decode cX11_feed 40 = .ok (.invokevirtual 75, 3) := by decide +kernel
theorem dX11_feed_43 : decode cX11_feed 43 = .ok (.aload_n 0, 1) := by decide +kernel
theorem dX11_feed_44 : decode cX11_feed 44 = .ok (.getfield 12, 3) := by decide +kernel
theorem dX11_feed_47 : decode cX11_feed 47 = .ok (.iload 4, 2) := by decide +kernel
theorem dX11_feed_49 : decode cX11_feed 49 = .ok (.invokevirtual 75, 3) := by decide +kernel
theorem dX11_feed_52 : decode cX11_feed 52 = .ok (.aload_n 0, 1) := by decide +kernel
theorem dX11_feed_53 : decode cX11_feed 53 = .ok (.getfield 12, 3) := by decide +kernel
theorem dX11_feed_56 : decode cX11_feed 56 = .ok (.iload 5, 2) := by decide +kernel
theorem dX11_feed_58 : decode cX11_feed 58 = .ok (.invokevirtual 75, 3) := by decide +kernel
theorem dX11_feed_61 : decode cX11_feed 61 = .ok (.aload_n 0, 1) := by decide +kernel
theorem dX11_feed_62 : decode cX11_feed 62 = .ok (.aload_n 0, 1) := by decide +kernel
theorem dX11_feed_63 : decode cX11_feed 63 = .ok (.getfield 12, 3) := by decide +kernel
theorem dX11_feed_66 : decode cX11_feed 66 = .ok (.getfield 78, 3) := by decide +kernel
theorem dX11_feed_69 : decode cX11_feed 69 = .ok (.invokevirtual 82, 3) := by decide +kernel
theorem dX11_feed_72 : decode cX11_feed 72 = .ok (.ireturn, 1) := by decide +kernel
def X11_feed (this : Nat) (a1 : Int32) (a2 : Int32) (a3 : Int32) (a4 : Int32) (a5 : Int32) : MM Int32 :=
  mb (gR 12 (some this) 0) fun v1 =>
  mb (wc 11 v1 fun t => X10_hasRoom t (20 : Int32)) fun v2 =>
  if v2 = 0 then (mb (wc 12 (some this) fun t => X11_refuse t (9 : Int32)) fun v3 =>
  mr v3) else (mb (gR 12 (some this) 0) fun v4 =>
  mb (wc 11 v4 fun t => X10_addWord t a1) fun _ =>
  mb (gR 12 (some this) 0) fun v5 =>
  mb (wc 11 v5 fun t => X10_addWord t a2) fun _ =>
  mb (gR 12 (some this) 0) fun v6 =>
  mb (wc 11 v6 fun t => X10_addWord t a3) fun _ =>
  mb (gR 12 (some this) 0) fun v7 =>
  mb (wc 11 v7 fun t => X10_addWord t a4) fun _ =>
  mb (gR 12 (some this) 0) fun v8 =>
  mb (wc 11 v8 fun t => X10_addWord t a5) fun _ =>
  mb (gR 12 (some this) 0) fun v9 =>
  mb (gI 11 v9 4) fun v10 =>
  mb (wc 12 (some this) fun t => X11_answer t v10) fun v11 =>
  mr v11)
set_option maxRecDepth 100000 in
set_option maxHeartbeats 4000000 in
theorem s_X11_feed (G : GG) (this : Nat) (a1 : Int32) (a2 : Int32) (a3 : Int32) (a4 : Int32) (a5 : Int32) : Sn G yX11_feed cX11_feed 6 (some FieldType.int) 1 22 (fun v : Int32 => some (.int v)) (X11_feed this a1 a2 a3 a4 a5) 0 [some (va_rf (some this)), some (.int a1), some (.int a2), some (.int a3), some (.int a4), some (.int a5)] [] := by
  unfold X11_feed
  refine sn_aload_n (v := (some this)) (pc' := 1) dX11_feed_0 rfl rfl rfl ?_
  refine sn_gR (k := 0) (pc' := 4) ci_12 rfl (Or.inl tw273) dX11_feed_1 rfl (fun v1 => ?_)
  refine sn_bipush (v := (20 : Int32)) (pc' := 6) dX11_feed_4 rfl (by decide) ?_
  refine sn_cV (r := v1) (st := []) (As := [.int (20 : Int32)]) (st2 := (fun v => .int v :: [])) (pc' := 9) ci_11 (fun t => c_X10_hasRoom G t (20 : Int32)) cw_X10_hasRoom rfl rfl tw314 tw316 tw315 rfl rfl cat_nil rfl (fun _ => rfl) dX11_feed_6 rfl (fun v2 => ?_)
  refine sn_if_ne (pt := 19) (pf := 12) dX11_feed_9 rfl rfl ?_ ?_
  · refine sn_aload_n (v := (some this)) (pc' := 13) dX11_feed_12 rfl rfl rfl ?_
    refine sn_bipush (v := (9 : Int32)) (pc' := 15) dX11_feed_13 rfl (by decide) ?_
    refine sn_cV (r := (some this)) (st := []) (As := [.int (9 : Int32)]) (st2 := (fun v => .int v :: [])) (pc' := 18) ci_12 (fun t => c_X11_refuse G t (9 : Int32)) cw_X11_refuse rfl rfl tw318 pw0 tw320 rfl rfl cat_nil rfl (fun _ => rfl) dX11_feed_15 rfl (fun v3 => ?_)
    exact sn_iret dX11_feed_18 rfl rfl
  · refine sn_aload_n (v := (some this)) (pc' := 20) dX11_feed_19 rfl rfl rfl ?_
    refine sn_gR (k := 0) (pc' := 23) ci_12 rfl (Or.inl tw273) dX11_feed_20 rfl (fun v4 => ?_)
    refine sn_iload_n (v := a1) (pc' := 24) dX11_feed_23 rfl rfl rfl ?_
    refine sn_cV (r := v4) (st := []) (As := [.int a1]) (st2 := (fun _ => [])) (pc' := 27) ci_11 (fun t => c_X10_addWord G t a1) cw_X10_addWord rfl rfl tw322 tw324 tw323 rfl rfl cat_nil rfl (fun _ => rfl) dX11_feed_24 rfl (fun _ => ?_)
    refine sn_aload_n (v := (some this)) (pc' := 28) dX11_feed_27 rfl rfl rfl ?_
    refine sn_gR (k := 0) (pc' := 31) ci_12 rfl (Or.inl tw273) dX11_feed_28 rfl (fun v5 => ?_)
    refine sn_iload_n (v := a2) (pc' := 32) dX11_feed_31 rfl rfl rfl ?_
    refine sn_cV (r := v5) (st := []) (As := [.int a2]) (st2 := (fun _ => [])) (pc' := 35) ci_11 (fun t => c_X10_addWord G t a2) cw_X10_addWord rfl rfl tw322 tw324 tw323 rfl rfl cat_nil rfl (fun _ => rfl) dX11_feed_32 rfl (fun _ => ?_)
    refine sn_aload_n (v := (some this)) (pc' := 36) dX11_feed_35 rfl rfl rfl ?_
    refine sn_gR (k := 0) (pc' := 39) ci_12 rfl (Or.inl tw273) dX11_feed_36 rfl (fun v6 => ?_)
    refine sn_iload_n (v := a3) (pc' := 40) dX11_feed_39 rfl rfl rfl ?_
    refine sn_cV (r := v6) (st := []) (As := [.int a3]) (st2 := (fun _ => [])) (pc' := 43) ci_11 (fun t => c_X10_addWord G t a3) cw_X10_addWord rfl rfl tw322 tw324 tw323 rfl rfl cat_nil rfl (fun _ => rfl) dX11_feed_40 rfl (fun _ => ?_)
    refine sn_aload_n (v := (some this)) (pc' := 44) dX11_feed_43 rfl rfl rfl ?_
    refine sn_gR (k := 0) (pc' := 47) ci_12 rfl (Or.inl tw273) dX11_feed_44 rfl (fun v7 => ?_)
    refine sn_iload (v := a4) (pc' := 49) dX11_feed_47 rfl rfl ?_
    refine sn_cV (r := v7) (st := []) (As := [.int a4]) (st2 := (fun _ => [])) (pc' := 52) ci_11 (fun t => c_X10_addWord G t a4) cw_X10_addWord rfl rfl tw322 tw324 tw323 rfl rfl cat_nil rfl (fun _ => rfl) dX11_feed_49 rfl (fun _ => ?_)
    refine sn_aload_n (v := (some this)) (pc' := 53) dX11_feed_52 rfl rfl rfl ?_
    refine sn_gR (k := 0) (pc' := 56) ci_12 rfl (Or.inl tw273) dX11_feed_53 rfl (fun v8 => ?_)
    refine sn_iload (v := a5) (pc' := 58) dX11_feed_56 rfl rfl ?_
    refine sn_cV (r := v8) (st := []) (As := [.int a5]) (st2 := (fun _ => [])) (pc' := 61) ci_11 (fun t => c_X10_addWord G t a5) cw_X10_addWord rfl rfl tw322 tw324 tw323 rfl rfl cat_nil rfl (fun _ => rfl) dX11_feed_58 rfl (fun _ => ?_)
    refine sn_aload_n (v := (some this)) (pc' := 62) dX11_feed_61 rfl rfl rfl ?_
    refine sn_aload_n (v := (some this)) (pc' := 63) dX11_feed_62 rfl rfl rfl ?_
    refine sn_gR (k := 0) (pc' := 66) ci_12 rfl (Or.inl tw273) dX11_feed_63 rfl (fun v9 => ?_)
    refine sn_gI (k := 4) (pc' := 69) ci_11 rfl (Or.inr ⟨_, nw73⟩) dX11_feed_66 rfl (fun v10 => ?_)
    refine sn_cV (r := (some this)) (st := []) (As := [.int v10]) (st2 := (fun v => .int v :: [])) (pc' := 72) ci_12 (fun t => c_X11_answer G t v10) cw_X11_answer rfl rfl tw326 pw1 tw328 rfl rfl cat_nil rfl (fun _ => rfl) dX11_feed_69 rfl (fun v11 => ?_)
    exact sn_iret dX11_feed_72 rfl rfl
theorem c_X11_feed (G : GG) (this : Nat) (a1 : Int32) (a2 : Int32) (a3 : Int32) (a4 : Int32) (a5 : Int32) : Cal G yX11_feed cX11_feed 6 (some FieldType.int) 1 22 (fun v : Int32 => some (.int v)) (X11_feed this a1 a2 a3 a4 a5) [.ref this, .int a1, .int a2, .int a3, .int a4, .int a5] :=
  Cal.of (by decide) (cat_t (cat_i (cat_i (cat_i (cat_i (cat_i cat_nil)))))) rfl (sn_weak (le_s (le_s (le_s (le_s (le_s (le_s le_e)))))) (s_X11_feed G this a1 a2 a3 a4 a5))
theorem cw_X11_feed : CW yX11_feed cX11_feed 6 (some FieldType.int) 5 := ⟨tw313, tw1, by decide, by decide +kernel⟩
/-! X10_cutTo -/
theorem dX10_cutTo_0 : decode cX10_cutTo 0 = .ok (.aload_n 0, 1) := by decide +kernel
theorem dX10_cutTo_1 : decode cX10_cutTo 1 = .ok (.iload_n 1, 1) := by decide +kernel
theorem dX10_cutTo_2 : decode cX10_cutTo 2 = .ok (.putfield 30, 3) := by decide +kernel
theorem dX10_cutTo_5 : decode cX10_cutTo 5 = .ok (.return_, 1) := by decide +kernel
def X10_cutTo (this : Nat) (a1 : Int32) : MM Unit :=
  mb (pI 11 (some this) 4 a1) fun _ =>
  mr ()
set_option maxRecDepth 100000 in
set_option maxHeartbeats 4000000 in
theorem s_X10_cutTo (G : GG) (this : Nat) (a1 : Int32) : Sn G yX10_cutTo cX10_cutTo 2 none 0 0 (fun _ : Unit => none) (X10_cutTo this a1) 0 [some (va_rf (some this)), some (.int a1)] [] := by
  unfold X10_cutTo
  refine sn_aload_n (v := (some this)) (pc' := 1) dX10_cutTo_0 rfl rfl rfl ?_
  refine sn_iload_n (v := a1) (pc' := 2) dX10_cutTo_1 rfl rfl rfl ?_
  refine sn_pI (k := 4) (pc' := 5) ci_11 rfl (Or.inl tw72) (Or.inl rfl) rfl dX10_cutTo_2 rfl (fun _ => ?_)
  exact sn_vret dX10_cutTo_5 rfl
theorem c_X10_cutTo (G : GG) (this : Nat) (a1 : Int32) : Cal G yX10_cutTo cX10_cutTo 2 none 0 0 (fun _ : Unit => none) (X10_cutTo this a1) [.ref this, .int a1] :=
  Cal.of (by decide) (cat_t (cat_i cat_nil)) rfl (sn_weak (le_s (le_s le_e)) (s_X10_cutTo G this a1))
theorem cw_X10_cutTo : CW yX10_cutTo cX10_cutTo 2 none 1 := ⟨tw337, tw2, by decide, by decide +kernel⟩
/-! X11_end -/
theorem dX11_end_0 : decode cX11_end 0 = .ok (.iload_n 1, 1) := by decide +kernel
theorem dX11_end_1 : decode cX11_end 1 = .ok (.ifCond .lt 14, 3) := by decide +kernel
theorem dX11_end_4 : decode cX11_end 4 = .ok (.iload_n 1, 1) := by decide +kernel
theorem dX11_end_5 : decode cX11_end 5 = .ok (.aload_n 0, 1) := by decide +kernel
theorem dX11_end_6 : decode cX11_end 6 = .ok (.getfield 12, 3) := by decide +kernel
theorem dX11_end_9 : decode cX11_end 9 = .ok (.getfield 78, 3) := by decide +kernel
theorem dX11_end_12 : decode cX11_end 12 = .ok (.if_icmp .le 9, 3) := by decide +kernel
theorem dX11_end_15 : decode cX11_end 15 = .ok (.aload_n 0, 1) := by decide +kernel
theorem dX11_end_16 : decode cX11_end 16 = .ok (.iconst 3, 1) := by decide +kernel
theorem dX11_end_17 : decode cX11_end 17 = .ok (.invokevirtual 71, 3) := by decide +kernel
theorem dX11_end_20 : decode cX11_end 20 = .ok (.ireturn, 1) := by decide +kernel
theorem dX11_end_21 : decode cX11_end 21 = .ok (.aload_n 0, 1) := by decide +kernel
theorem dX11_end_22 : decode cX11_end 22 = .ok (.getfield 12, 3) := by decide +kernel
theorem dX11_end_25 : decode cX11_end 25 = .ok (.iload_n 1, 1) := by decide +kernel
theorem dX11_end_26 : decode cX11_end 26 = .ok (.invokevirtual 85, 3) := by decide +kernel
theorem dX11_end_29 : decode cX11_end 29 = .ok (.aload_n 0, 1) := by decide +kernel
theorem dX11_end_30 : decode cX11_end 30 = .ok (.iload_n 1, 1) := by decide +kernel
theorem dX11_end_31 : decode cX11_end 31 = .ok (.invokevirtual 82, 3) := by decide +kernel
theorem dX11_end_34 : decode cX11_end 34 = .ok (.ireturn, 1) := by decide +kernel
def X11_end_15  (this : Nat) : MM Int32 :=
  mb (wc 12 (some this) fun t => X11_refuse t (3 : Int32)) fun v1 =>
  mr v1
def X11_end (this : Nat) (a1 : Int32) : MM Int32 :=
  if a1 < 0 then ((X11_end_15 this)) else (mb (gR 12 (some this) 0) fun v1 =>
  mb (gI 11 v1 4) fun v2 =>
  if a1 ≤ v2 then (mb (gR 12 (some this) 0) fun v3 =>
  mb (wc 11 v3 fun t => X10_cutTo t a1) fun _ =>
  mb (wc 12 (some this) fun t => X11_answer t a1) fun v4 =>
  mr v4) else ((X11_end_15 this)))
set_option maxRecDepth 100000 in
set_option maxHeartbeats 4000000 in
theorem s_X11_end_15 (G : GG)   (this : Nat) : Sn G yX11_end cX11_end 2 (some FieldType.int) 1 21 (fun v : Int32 => some (.int v)) (X11_end_15  this) 15 [some (va_rf (some this)), none] [] := by
  unfold X11_end_15
  refine sn_aload_n (v := (some this)) (pc' := 16) dX11_end_15 rfl rfl rfl ?_
  refine sn_iconst (v := (3 : Int32)) (pc' := 17) dX11_end_16 rfl (by decide) ?_
  refine sn_cV (r := (some this)) (st := []) (As := [.int (3 : Int32)]) (st2 := (fun v => .int v :: [])) (pc' := 20) ci_12 (fun t => c_X11_refuse G t (3 : Int32)) cw_X11_refuse rfl rfl tw318 pw0 tw320 rfl rfl cat_nil rfl (fun _ => rfl) dX11_end_17 rfl (fun v1 => ?_)
  exact sn_iret dX11_end_20 rfl rfl
set_option maxRecDepth 100000 in
set_option maxHeartbeats 4000000 in
theorem s_X11_end (G : GG) (this : Nat) (a1 : Int32) : Sn G yX11_end cX11_end 2 (some FieldType.int) 1 21 (fun v : Int32 => some (.int v)) (X11_end this a1) 0 [some (va_rf (some this)), some (.int a1)] [] := by
  unfold X11_end
  refine sn_iload_n (v := a1) (pc' := 1) dX11_end_0 rfl rfl rfl ?_
  refine sn_if_lt (pt := 15) (pf := 4) dX11_end_1 rfl rfl ?_ ?_
  · exact sn_weak (le_s (le_n le_e)) (s_X11_end_15 G this)
  · refine sn_iload_n (v := a1) (pc' := 5) dX11_end_4 rfl rfl rfl ?_
    refine sn_aload_n (v := (some this)) (pc' := 6) dX11_end_5 rfl rfl rfl ?_
    refine sn_gR (k := 0) (pc' := 9) ci_12 rfl (Or.inl tw273) dX11_end_6 rfl (fun v1 => ?_)
    refine sn_gI (k := 4) (pc' := 12) ci_11 rfl (Or.inr ⟨_, nw73⟩) dX11_end_9 rfl (fun v2 => ?_)
    refine sn_ic_le (pt := 21) (pf := 15) dX11_end_12 rfl rfl ?_ ?_
    · refine sn_aload_n (v := (some this)) (pc' := 22) dX11_end_21 rfl rfl rfl ?_
      refine sn_gR (k := 0) (pc' := 25) ci_12 rfl (Or.inl tw273) dX11_end_22 rfl (fun v3 => ?_)
      refine sn_iload_n (v := a1) (pc' := 26) dX11_end_25 rfl rfl rfl ?_
      refine sn_cV (r := v3) (st := []) (As := [.int a1]) (st2 := (fun _ => [])) (pc' := 29) ci_11 (fun t => c_X10_cutTo G t a1) cw_X10_cutTo rfl rfl tw334 tw336 tw335 rfl rfl cat_nil rfl (fun _ => rfl) dX11_end_26 rfl (fun _ => ?_)
      refine sn_aload_n (v := (some this)) (pc' := 30) dX11_end_29 rfl rfl rfl ?_
      refine sn_iload_n (v := a1) (pc' := 31) dX11_end_30 rfl rfl rfl ?_
      refine sn_cV (r := (some this)) (st := []) (As := [.int a1]) (st2 := (fun v => .int v :: [])) (pc' := 34) ci_12 (fun t => c_X11_answer G t a1) cw_X11_answer rfl rfl tw326 pw1 tw328 rfl rfl cat_nil rfl (fun _ => rfl) dX11_end_31 rfl (fun v4 => ?_)
      exact sn_iret dX11_end_34 rfl rfl
    · exact sn_weak (le_s (le_n le_e)) (s_X11_end_15 G this)
theorem c_X11_end (G : GG) (this : Nat) (a1 : Int32) : Cal G yX11_end cX11_end 2 (some FieldType.int) 1 21 (fun v : Int32 => some (.int v)) (X11_end this a1) [.ref this, .int a1] :=
  Cal.of (by decide) (cat_t (cat_i cat_nil)) rfl (sn_weak (le_s (le_s le_e)) (s_X11_end G this a1))
theorem cw_X11_end : CW yX11_end cX11_end 2 (some FieldType.int) 1 := ⟨tw333, tw1, by decide, by decide +kernel⟩
/-! X8_clear -/
theorem dX8_clear_0 : decode cX8_clear 0 = .ok (.aload_n 0, 1) := by decide +kernel
theorem dX8_clear_1 : decode cX8_clear 1 = .ok (.iconst 0, 1) := by decide +kernel
theorem dX8_clear_2 : decode cX8_clear 2 = .ok (.putfield 21, 3) := by decide +kernel
theorem dX8_clear_5 : decode cX8_clear 5 = .ok (.return_, 1) := by decide +kernel
def X8_clear (this : Nat) : MM Unit :=
  mb (pI 9 (some this) 1 (0 : Int32)) fun _ =>
  mr ()
set_option maxRecDepth 100000 in
set_option maxHeartbeats 4000000 in
theorem s_X8_clear (G : GG) (this : Nat) : Sn G yX8_clear cX8_clear 1 none 0 0 (fun _ : Unit => none) (X8_clear this) 0 [some (va_rf (some this))] [] := by
  unfold X8_clear
  refine sn_aload_n (v := (some this)) (pc' := 1) dX8_clear_0 rfl rfl rfl ?_
  refine sn_iconst (v := (0 : Int32)) (pc' := 2) dX8_clear_1 rfl (by decide) ?_
  refine sn_pI (k := 1) (pc' := 5) ci_9 rfl (Or.inl tw51) (Or.inl rfl) rfl dX8_clear_2 rfl (fun _ => ?_)
  exact sn_vret dX8_clear_5 rfl
theorem c_X8_clear (G : GG) (this : Nat) : Cal G yX8_clear cX8_clear 1 none 0 0 (fun _ : Unit => none) (X8_clear this) [.ref this] :=
  Cal.of (by decide) (cat_t cat_nil) rfl (sn_weak (le_s le_e) (s_X8_clear G this))
theorem cw_X8_clear : CW yX8_clear cX8_clear 1 none 0 := ⟨tw357, tw3, by decide, by decide +kernel⟩
/-! X4_clear -/
theorem dX4_clear_0 : decode cX4_clear 0 = .ok (.aload_n 0, 1) := by decide +kernel
theorem dX4_clear_1 : decode cX4_clear 1 = .ok (.getfield 14, 3) := by decide +kernel
theorem dX4_clear_4 : decode cX4_clear 4 = .ok (.invokevirtual 32, 3) := by decide +kernel
theorem dX4_clear_7 : decode cX4_clear 7 = .ok (.aload_n 0, 1) := by decide +kernel
theorem dX4_clear_8 : decode cX4_clear 8 = .ok (.getfield 20, 3) := by decide +kernel
theorem dX4_clear_11 : decode cX4_clear 11 = .ok (.invokevirtual 32, 3) := by decide +kernel
theorem dX4_clear_14 : decode cX4_clear 14 = .ok (.aload_n 0, 1) := by decide +kernel
theorem dX4_clear_15 : decode cX4_clear 15 = .ok (.getfield 23, 3) := by decide +kernel
theorem dX4_clear_18 : decode cX4_clear 18 = .ok (.invokevirtual 32, 3) := by decide +kernel
theorem dX4_clear_21 : decode cX4_clear 21 = .ok (.aload_n 0, 1) := by decide +kernel
theorem dX4_clear_22 : decode cX4_clear 22 = .ok (.getfield 26, 3) := by decide +kernel
theorem dX4_clear_25 : decode cX4_clear 25 = .ok (.invokevirtual 32, 3) := by decide +kernel
theorem dX4_clear_28 : decode cX4_clear 28 = .ok (.aload_n 0, 1) := by decide +kernel
theorem dX4_clear_29 : decode cX4_clear 29 = .ok (.getfield 29, 3) := by decide +kernel
theorem dX4_clear_32 : decode cX4_clear 32 = .ok (.invokevirtual 32, 3) := by decide +kernel
theorem dX4_clear_35 : decode cX4_clear 35 = .ok (.return_, 1) := by decide +kernel
def X4_clear (this : Nat) : MM Unit :=
  mb (gR 5 (some this) 0) fun v1 =>
  mb (wc 9 v1 fun t => X8_clear t ) fun _ =>
  mb (gR 5 (some this) 1) fun v2 =>
  mb (wc 9 v2 fun t => X8_clear t ) fun _ =>
  mb (gR 5 (some this) 2) fun v3 =>
  mb (wc 9 v3 fun t => X8_clear t ) fun _ =>
  mb (gR 5 (some this) 3) fun v4 =>
  mb (wc 9 v4 fun t => X8_clear t ) fun _ =>
  mb (gR 5 (some this) 4) fun v5 =>
  mb (wc 9 v5 fun t => X8_clear t ) fun _ =>
  mr ()
set_option maxRecDepth 100000 in
set_option maxHeartbeats 4000000 in
theorem s_X4_clear (G : GG) (this : Nat) : Sn G yX4_clear cX4_clear 1 none 1 20 (fun _ : Unit => none) (X4_clear this) 0 [some (va_rf (some this))] [] := by
  unfold X4_clear
  refine sn_aload_n (v := (some this)) (pc' := 1) dX4_clear_0 rfl rfl rfl ?_
  refine sn_gR (k := 0) (pc' := 4) ci_5 rfl (Or.inl tw99) dX4_clear_1 rfl (fun v1 => ?_)
  refine sn_cV (r := v1) (st := []) (As := []) (st2 := (fun _ => [])) (pc' := 7) ci_9 (fun t => c_X8_clear G t ) cw_X8_clear rfl rfl tw354 tw356 tw355 rfl rfl cat_nil rfl (fun _ => rfl) dX4_clear_4 rfl (fun _ => ?_)
  refine sn_aload_n (v := (some this)) (pc' := 8) dX4_clear_7 rfl rfl rfl ?_
  refine sn_gR (k := 1) (pc' := 11) ci_5 rfl (Or.inl tw102) dX4_clear_8 rfl (fun v2 => ?_)
  refine sn_cV (r := v2) (st := []) (As := []) (st2 := (fun _ => [])) (pc' := 14) ci_9 (fun t => c_X8_clear G t ) cw_X8_clear rfl rfl tw354 tw356 tw355 rfl rfl cat_nil rfl (fun _ => rfl) dX4_clear_11 rfl (fun _ => ?_)
  refine sn_aload_n (v := (some this)) (pc' := 15) dX4_clear_14 rfl rfl rfl ?_
  refine sn_gR (k := 2) (pc' := 18) ci_5 rfl (Or.inl tw105) dX4_clear_15 rfl (fun v3 => ?_)
  refine sn_cV (r := v3) (st := []) (As := []) (st2 := (fun _ => [])) (pc' := 21) ci_9 (fun t => c_X8_clear G t ) cw_X8_clear rfl rfl tw354 tw356 tw355 rfl rfl cat_nil rfl (fun _ => rfl) dX4_clear_18 rfl (fun _ => ?_)
  refine sn_aload_n (v := (some this)) (pc' := 22) dX4_clear_21 rfl rfl rfl ?_
  refine sn_gR (k := 3) (pc' := 25) ci_5 rfl (Or.inl tw108) dX4_clear_22 rfl (fun v4 => ?_)
  refine sn_cV (r := v4) (st := []) (As := []) (st2 := (fun _ => [])) (pc' := 28) ci_9 (fun t => c_X8_clear G t ) cw_X8_clear rfl rfl tw354 tw356 tw355 rfl rfl cat_nil rfl (fun _ => rfl) dX4_clear_25 rfl (fun _ => ?_)
  refine sn_aload_n (v := (some this)) (pc' := 29) dX4_clear_28 rfl rfl rfl ?_
  refine sn_gR (k := 4) (pc' := 32) ci_5 rfl (Or.inl tw111) dX4_clear_29 rfl (fun v5 => ?_)
  refine sn_cV (r := v5) (st := []) (As := []) (st2 := (fun _ => [])) (pc' := 35) ci_9 (fun t => c_X8_clear G t ) cw_X8_clear rfl rfl tw354 tw356 tw355 rfl rfl cat_nil rfl (fun _ => rfl) dX4_clear_32 rfl (fun _ => ?_)
  exact sn_vret dX4_clear_35 rfl
theorem c_X4_clear (G : GG) (this : Nat) : Cal G yX4_clear cX4_clear 1 none 1 20 (fun _ : Unit => none) (X4_clear this) [.ref this] :=
  Cal.of (by decide) (cat_t cat_nil) rfl (sn_weak (le_s le_e) (s_X4_clear G this))
theorem cw_X4_clear : CW yX4_clear cX4_clear 1 none 0 := ⟨tw353, tw6, by decide, by decide +kernel⟩
/-! X5_clear -/
theorem dX5_clear_0 : decode cX5_clear 0 = .ok (.aload_n 0, 1) := by decide +kernel
theorem dX5_clear_1 : decode cX5_clear 1 = .ok (.getfield 14, 3) := by decide +kernel
theorem dX5_clear_4 : decode cX5_clear 4 = .ok (.invokevirtual 29, 3) := by decide +kernel
theorem dX5_clear_7 : decode cX5_clear 7 = .ok (.aload_n 0, 1) := by decide +kernel
theorem dX5_clear_8 : decode cX5_clear 8 = .ok (.getfield 20, 3) := by decide +kernel
theorem dX5_clear_11 : decode cX5_clear 11 = .ok (.invokevirtual 29, 3) := by decide +kernel
theorem dX5_clear_14 : decode cX5_clear 14 = .ok (.aload_n 0, 1) := by decide +kernel
theorem dX5_clear_15 : decode cX5_clear 15 = .ok (.getfield 23, 3) := by decide +kernel
theorem dX5_clear_18 : decode cX5_clear 18 = .ok (.invokevirtual 29, 3) := by decide +kernel
theorem dX5_clear_21 : decode cX5_clear 21 = .ok (.aload_n 0, 1) := by decide +kernel
theorem dX5_clear_22 : decode cX5_clear 22 = .ok (.getfield 26, 3) := by decide +kernel
theorem dX5_clear_25 : decode cX5_clear 25 = .ok (.invokevirtual 29, 3) := by decide +kernel
theorem dX5_clear_28 : decode cX5_clear 28 = .ok (.return_, 1) := by decide +kernel
def X5_clear (this : Nat) : MM Unit :=
  mb (gR 6 (some this) 0) fun v1 =>
  mb (wc 9 v1 fun t => X8_clear t ) fun _ =>
  mb (gR 6 (some this) 1) fun v2 =>
  mb (wc 9 v2 fun t => X8_clear t ) fun _ =>
  mb (gR 6 (some this) 2) fun v3 =>
  mb (wc 9 v3 fun t => X8_clear t ) fun _ =>
  mb (gR 6 (some this) 3) fun v4 =>
  mb (wc 9 v4 fun t => X8_clear t ) fun _ =>
  mr ()
set_option maxRecDepth 100000 in
set_option maxHeartbeats 4000000 in
theorem s_X5_clear (G : GG) (this : Nat) : Sn G yX5_clear cX5_clear 1 none 1 20 (fun _ : Unit => none) (X5_clear this) 0 [some (va_rf (some this))] [] := by
  unfold X5_clear
  refine sn_aload_n (v := (some this)) (pc' := 1) dX5_clear_0 rfl rfl rfl ?_
  refine sn_gR (k := 0) (pc' := 4) ci_6 rfl (Or.inl tw133) dX5_clear_1 rfl (fun v1 => ?_)
  refine sn_cV (r := v1) (st := []) (As := []) (st2 := (fun _ => [])) (pc' := 7) ci_9 (fun t => c_X8_clear G t ) cw_X8_clear rfl rfl tw362 tw356 tw355 rfl rfl cat_nil rfl (fun _ => rfl) dX5_clear_4 rfl (fun _ => ?_)
  refine sn_aload_n (v := (some this)) (pc' := 8) dX5_clear_7 rfl rfl rfl ?_
  refine sn_gR (k := 1) (pc' := 11) ci_6 rfl (Or.inl tw136) dX5_clear_8 rfl (fun v2 => ?_)
  refine sn_cV (r := v2) (st := []) (As := []) (st2 := (fun _ => [])) (pc' := 14) ci_9 (fun t => c_X8_clear G t ) cw_X8_clear rfl rfl tw362 tw356 tw355 rfl rfl cat_nil rfl (fun _ => rfl) dX5_clear_11 rfl (fun _ => ?_)
  refine sn_aload_n (v := (some this)) (pc' := 15) dX5_clear_14 rfl rfl rfl ?_
  refine sn_gR (k := 2) (pc' := 18) ci_6 rfl (Or.inl tw140) dX5_clear_15 rfl (fun v3 => ?_)
  refine sn_cV (r := v3) (st := []) (As := []) (st2 := (fun _ => [])) (pc' := 21) ci_9 (fun t => c_X8_clear G t ) cw_X8_clear rfl rfl tw362 tw356 tw355 rfl rfl cat_nil rfl (fun _ => rfl) dX5_clear_18 rfl (fun _ => ?_)
  refine sn_aload_n (v := (some this)) (pc' := 22) dX5_clear_21 rfl rfl rfl ?_
  refine sn_gR (k := 3) (pc' := 25) ci_6 rfl (Or.inl tw144) dX5_clear_22 rfl (fun v4 => ?_)
  refine sn_cV (r := v4) (st := []) (As := []) (st2 := (fun _ => [])) (pc' := 28) ci_9 (fun t => c_X8_clear G t ) cw_X8_clear rfl rfl tw362 tw356 tw355 rfl rfl cat_nil rfl (fun _ => rfl) dX5_clear_25 rfl (fun _ => ?_)
  exact sn_vret dX5_clear_28 rfl
theorem c_X5_clear (G : GG) (this : Nat) : Cal G yX5_clear cX5_clear 1 none 1 20 (fun _ : Unit => none) (X5_clear this) [.ref this] :=
  Cal.of (by decide) (cat_t cat_nil) rfl (sn_weak (le_s le_e) (s_X5_clear G this))
theorem cw_X5_clear : CW yX5_clear cX5_clear 1 none 0 := ⟨tw361, tw7, by decide, by decide +kernel⟩
/-! X10_byteAt -/
theorem dX10_byteAt_0 : decode cX10_byteAt 0 = .ok (.iload_n 1, 1) := by decide +kernel
theorem dX10_byteAt_1 : decode cX10_byteAt 1 = .ok (.ifCond .lt 20, 3) := by decide +kernel
theorem dX10_byteAt_4 : decode cX10_byteAt 4 = .ok (.iload_n 1, 1) := by decide +kernel
theorem dX10_byteAt_5 : decode cX10_byteAt 5 = .ok (.aload_n 0, 1) := by decide +kernel
theorem dX10_byteAt_6 : decode cX10_byteAt 6 = .ok (.getfield 30, 3) := by decide +kernel
theorem dX10_byteAt_9 : decode cX10_byteAt 9 = .ok (.if_icmp .ge 12, 3) := by decide +kernel
theorem dX10_byteAt_12 : decode cX10_byteAt 12 = .ok (.iload_n 1, 1) := by decide +kernel
theorem dX10_byteAt_13 : decode cX10_byteAt 13 = .ok (.aload_n 0, 1) := by decide +kernel
theorem dX10_byteAt_14 : decode cX10_byteAt 14 = .ok (.getfield 9, 3) := by decide +kernel
theorem dX10_byteAt_17 : decode cX10_byteAt 17 = .ok (.arraylength, 1) := by decide +kernel
theorem dX10_byteAt_18 : decode cX10_byteAt 18 = .ok (.if_icmp .lt 7, 3) := by decide +kernel
theorem dX10_byteAt_21 : decode cX10_byteAt 21 = .ok (.iconst (-1), 1) := by decide +kernel
theorem dX10_byteAt_22 : decode cX10_byteAt 22 = .ok (.goto 13, 3) := by decide +kernel
theorem dX10_byteAt_25 : decode cX10_byteAt 25 = .ok (.aload_n 0, 1) := by decide +kernel
theorem dX10_byteAt_26 : decode cX10_byteAt 26 = .ok (.getfield 9, 3) := by decide +kernel
theorem dX10_byteAt_29 : decode cX10_byteAt 29 = .ok (.iload_n 1, 1) := by decide +kernel
theorem dX10_byteAt_30 : decode cX10_byteAt 30 = .ok (.baload, 1) := by decide +kernel
theorem dX10_byteAt_31 : decode cX10_byteAt 31 = .ok (.sipush 255, 3) := by decide +kernel
theorem dX10_byteAt_34 : decode cX10_byteAt 34 = .ok (.iand, 1) := by decide +kernel
theorem dX10_byteAt_35 : decode cX10_byteAt 35 = .ok (.ireturn, 1) := by decide +kernel
def X10_byteAt (this : Nat) (a1 : Int32) : MM Int32 :=
  if a1 < 0 then (mr (-1 : Int32)) else (mb (gI 11 (some this) 4) fun v1 =>
  if v1 ≤ a1 then (mr (-1 : Int32)) else (mb (gR 11 (some this) 0) fun v2 =>
  mb (aN v2) fun v3 =>
  if a1 < v3 then (mb (gR 11 (some this) 0) fun v4 =>
  mb (aB v4 a1) fun v5 =>
  mr (v5 &&& (255 : Int32))) else (mr (-1 : Int32))))
set_option maxRecDepth 100000 in
set_option maxHeartbeats 4000000 in
theorem s_X10_byteAt (G : GG) (this : Nat) (a1 : Int32) : Sn G yX10_byteAt cX10_byteAt 2 (some FieldType.int) 0 0 (fun v : Int32 => some (.int v)) (X10_byteAt this a1) 0 [some (va_rf (some this)), some (.int a1)] [] := by
  unfold X10_byteAt
  refine sn_iload_n (v := a1) (pc' := 1) dX10_byteAt_0 rfl rfl rfl ?_
  refine sn_if_lt (pt := 21) (pf := 4) dX10_byteAt_1 rfl rfl ?_ ?_
  · refine sn_iconst (v := (-1 : Int32)) (pc' := 22) dX10_byteAt_21 rfl (by decide) ?_
    refine sn_goto (pc' := 35) dX10_byteAt_22 rfl ?_
    exact sn_iret dX10_byteAt_35 rfl rfl
  · refine sn_iload_n (v := a1) (pc' := 5) dX10_byteAt_4 rfl rfl rfl ?_
    refine sn_aload_n (v := (some this)) (pc' := 6) dX10_byteAt_5 rfl rfl rfl ?_
    refine sn_gI (k := 4) (pc' := 9) ci_11 rfl (Or.inl tw72) dX10_byteAt_6 rfl (fun v1 => ?_)
    refine sn_ic_ge (pt := 21) (pf := 12) dX10_byteAt_9 rfl rfl ?_ ?_
    · refine sn_iconst (v := (-1 : Int32)) (pc' := 22) dX10_byteAt_21 rfl (by decide) ?_
      refine sn_goto (pc' := 35) dX10_byteAt_22 rfl ?_
      exact sn_iret dX10_byteAt_35 rfl rfl
    · refine sn_iload_n (v := a1) (pc' := 13) dX10_byteAt_12 rfl rfl rfl ?_
      refine sn_aload_n (v := (some this)) (pc' := 14) dX10_byteAt_13 rfl rfl rfl ?_
      refine sn_gR (k := 0) (pc' := 17) ci_11 rfl (Or.inl tw65) dX10_byteAt_14 rfl (fun v2 => ?_)
      refine sn_aN (pc' := 18) dX10_byteAt_17 rfl (fun v3 => ?_)
      refine sn_ic_lt (pt := 25) (pf := 21) dX10_byteAt_18 rfl rfl ?_ ?_
      · refine sn_aload_n (v := (some this)) (pc' := 26) dX10_byteAt_25 rfl rfl rfl ?_
        refine sn_gR (k := 0) (pc' := 29) ci_11 rfl (Or.inl tw65) dX10_byteAt_26 rfl (fun v4 => ?_)
        refine sn_iload_n (v := a1) (pc' := 30) dX10_byteAt_29 rfl rfl rfl ?_
        refine sn_aB (pc' := 31) dX10_byteAt_30 rfl (fun v5 => ?_)
        refine sn_sipush (v := (255 : Int32)) (pc' := 34) dX10_byteAt_31 rfl (by decide) ?_
        refine sn_iand (pc' := 35) dX10_byteAt_34 rfl ?_
        exact sn_iret dX10_byteAt_35 rfl rfl
      · refine sn_iconst (v := (-1 : Int32)) (pc' := 22) dX10_byteAt_21 rfl (by decide) ?_
        refine sn_goto (pc' := 35) dX10_byteAt_22 rfl ?_
        exact sn_iret dX10_byteAt_35 rfl rfl
theorem c_X10_byteAt (G : GG) (this : Nat) (a1 : Int32) : Cal G yX10_byteAt cX10_byteAt 2 (some FieldType.int) 0 0 (fun v : Int32 => some (.int v)) (X10_byteAt this a1) [.ref this, .int a1] :=
  Cal.of (by decide) (cat_t (cat_i cat_nil)) rfl (sn_weak (le_s (le_s le_e)) (s_X10_byteAt G this a1))
theorem cw_X10_byteAt : CW yX10_byteAt cX10_byteAt 2 (some FieldType.int) 1 := ⟨tw375, tw2, by decide, by decide +kernel⟩
/-! X10_isLetter -/
theorem dX10_isLetter_0 : decode cX10_isLetter 0 = .ok (.iload_n 0, 1) := by decide +kernel
theorem dX10_isLetter_1 : decode cX10_isLetter 1 = .ok (.bipush 97, 2) := by decide +kernel
theorem dX10_isLetter_3 : decode cX10_isLetter 3 = .ok (.if_icmp .lt 13, 3) := by decide +kernel
theorem dX10_isLetter_6 : decode cX10_isLetter 6 = .ok (.iload_n 0, 1) := by decide +kernel
theorem dX10_isLetter_7 : decode cX10_isLetter 7 = .ok (.bipush 122, 2) := by decide +kernel
theorem dX10_isLetter_9 : decode cX10_isLetter 9 = .ok (.if_icmp .gt 7, 3) := by decide +kernel
theorem dX10_isLetter_12 : decode cX10_isLetter 12 = .ok (.iconst 1, 1) := by decide +kernel
theorem dX10_isLetter_13 : decode cX10_isLetter 13 = .ok (.goto 4, 3) := by decide +kernel
theorem dX10_isLetter_16 : decode cX10_isLetter 16 = .ok (.iconst 0, 1) := by decide +kernel
theorem dX10_isLetter_17 : decode cX10_isLetter 17 = .ok (.ireturn, 1) := by decide +kernel
def X10_isLetter (a0 : Int32) : MM Int32 :=
  if a0 < (97 : Int32) then (mr (0 : Int32)) else (if (122 : Int32) < a0 then (mr (0 : Int32)) else (mr (1 : Int32)))
set_option maxRecDepth 100000 in
set_option maxHeartbeats 4000000 in
theorem s_X10_isLetter (G : GG) (a0 : Int32) : Sn G yX10_isLetter cX10_isLetter 1 (some FieldType.boolean) 0 0 (fun v : Int32 => some (.int v)) (X10_isLetter a0) 0 [some (.int a0)] [] := by
  unfold X10_isLetter
  refine sn_iload_n (v := a0) (pc' := 1) dX10_isLetter_0 rfl rfl rfl ?_
  refine sn_bipush (v := (97 : Int32)) (pc' := 3) dX10_isLetter_1 rfl (by decide) ?_
  refine sn_ic_lt (pt := 16) (pf := 6) dX10_isLetter_3 rfl rfl ?_ ?_
  · refine sn_iconst (v := (0 : Int32)) (pc' := 17) dX10_isLetter_16 rfl (by decide) ?_
    exact sn_iret dX10_isLetter_17 rfl (by decide)
  · refine sn_iload_n (v := a0) (pc' := 7) dX10_isLetter_6 rfl rfl rfl ?_
    refine sn_bipush (v := (122 : Int32)) (pc' := 9) dX10_isLetter_7 rfl (by decide) ?_
    refine sn_ic_gt (pt := 16) (pf := 12) dX10_isLetter_9 rfl rfl ?_ ?_
    · refine sn_iconst (v := (0 : Int32)) (pc' := 17) dX10_isLetter_16 rfl (by decide) ?_
      exact sn_iret dX10_isLetter_17 rfl (by decide)
    · refine sn_iconst (v := (1 : Int32)) (pc' := 13) dX10_isLetter_12 rfl (by decide) ?_
      refine sn_goto (pc' := 17) dX10_isLetter_13 rfl ?_
      exact sn_iret dX10_isLetter_17 rfl (by decide)
theorem c_X10_isLetter (G : GG) (a0 : Int32) : Cal G yX10_isLetter cX10_isLetter 1 (some FieldType.boolean) 0 0 (fun v : Int32 => some (.int v)) (X10_isLetter a0) [.int a0] :=
  Cal.of (by decide) (cat_i cat_nil) rfl (sn_weak (le_s le_e) (s_X10_isLetter G a0))
theorem cw_X10_isLetter : CW yX10_isLetter cX10_isLetter 1 (some FieldType.boolean) 1 := ⟨tw378, tw2, by decide, by decide +kernel⟩
/-! X10_isDigit -/
theorem dX10_isDigit_0 : decode cX10_isDigit 0 = .ok (.iload_n 0, 1) := by decide +kernel
theorem dX10_isDigit_1 : decode cX10_isDigit 1 = .ok (.bipush 48, 2) := by decide +kernel
theorem dX10_isDigit_3 : decode cX10_isDigit 3 = .ok (.if_icmp .lt 13, 3) := by decide +kernel
theorem dX10_isDigit_6 : decode cX10_isDigit 6 = .ok (.iload_n 0, 1) := by decide +kernel
theorem dX10_isDigit_7 : decode cX10_isDigit 7 = .ok (.bipush 57, 2) := by decide +kernel
theorem dX10_isDigit_9 : decode cX10_isDigit 9 = .ok (.if_icmp .gt 7, 3) := by decide +kernel
theorem dX10_isDigit_12 : decode cX10_isDigit 12 = .ok (.iconst 1, 1) := by decide +kernel
theorem dX10_isDigit_13 : decode cX10_isDigit 13 = .ok (.goto 4, 3) := by decide +kernel
theorem dX10_isDigit_16 : decode cX10_isDigit 16 = .ok (.iconst 0, 1) := by decide +kernel
theorem dX10_isDigit_17 : decode cX10_isDigit 17 = .ok (.ireturn, 1) := by decide +kernel
def X10_isDigit (a0 : Int32) : MM Int32 :=
  if a0 < (48 : Int32) then (mr (0 : Int32)) else (if (57 : Int32) < a0 then (mr (0 : Int32)) else (mr (1 : Int32)))
set_option maxRecDepth 100000 in
set_option maxHeartbeats 4000000 in
theorem s_X10_isDigit (G : GG) (a0 : Int32) : Sn G yX10_isDigit cX10_isDigit 1 (some FieldType.boolean) 0 0 (fun v : Int32 => some (.int v)) (X10_isDigit a0) 0 [some (.int a0)] [] := by
  unfold X10_isDigit
  refine sn_iload_n (v := a0) (pc' := 1) dX10_isDigit_0 rfl rfl rfl ?_
  refine sn_bipush (v := (48 : Int32)) (pc' := 3) dX10_isDigit_1 rfl (by decide) ?_
  refine sn_ic_lt (pt := 16) (pf := 6) dX10_isDigit_3 rfl rfl ?_ ?_
  · refine sn_iconst (v := (0 : Int32)) (pc' := 17) dX10_isDigit_16 rfl (by decide) ?_
    exact sn_iret dX10_isDigit_17 rfl (by decide)
  · refine sn_iload_n (v := a0) (pc' := 7) dX10_isDigit_6 rfl rfl rfl ?_
    refine sn_bipush (v := (57 : Int32)) (pc' := 9) dX10_isDigit_7 rfl (by decide) ?_
    refine sn_ic_gt (pt := 16) (pf := 12) dX10_isDigit_9 rfl rfl ?_ ?_
    · refine sn_iconst (v := (0 : Int32)) (pc' := 17) dX10_isDigit_16 rfl (by decide) ?_
      exact sn_iret dX10_isDigit_17 rfl (by decide)
    · refine sn_iconst (v := (1 : Int32)) (pc' := 13) dX10_isDigit_12 rfl (by decide) ?_
      refine sn_goto (pc' := 17) dX10_isDigit_13 rfl ?_
      exact sn_iret dX10_isDigit_17 rfl (by decide)
theorem c_X10_isDigit (G : GG) (a0 : Int32) : Cal G yX10_isDigit cX10_isDigit 1 (some FieldType.boolean) 0 0 (fun v : Int32 => some (.int v)) (X10_isDigit a0) [.int a0] :=
  Cal.of (by decide) (cat_i cat_nil) rfl (sn_weak (le_s le_e) (s_X10_isDigit G a0))
theorem cw_X10_isDigit : CW yX10_isDigit cX10_isDigit 1 (some FieldType.boolean) 1 := ⟨tw381, tw2, by decide, by decide +kernel⟩
/-! X10_widthAt -/
theorem dX10_widthAt_0 : decode cX10_widthAt 0 = .ok (.aload_n 0, 1) := by decide +kernel
theorem dX10_widthAt_1 : decode cX10_widthAt 1 = .ok (.iload_n 1, 1) := by decide +kernel
theorem dX10_widthAt_2 : decode cX10_widthAt 2 = .ok (.invokevirtual 41, 3) := by decide +kernel
theorem dX10_widthAt_5 : decode cX10_widthAt 5 = .ok (.istore_n 2, 1) := by decide +kernel
theorem dX10_widthAt_6 : decode cX10_widthAt 6 = .ok (.iload_n 2, 1) := by decide +kernel
theorem dX10_widthAt_7 : decode cX10_widthAt 7 = .ok (.invokestatic 58, 3) := by decide +kernel
theorem dX10_widthAt_10 : decode cX10_widthAt 10 = .ok (.ifCond .ne 12, 3) := by decide +kernel
theorem dX10_widthAt_13 : decode cX10_widthAt 13 = .ok (.iload_n 2, 1) := by decide +kernel
theorem dX10_widthAt_14 : decode cX10_widthAt 14 = .ok (.invokestatic 61, 3) := by decide +kernel
theorem dX10_widthAt_17 : decode cX10_widthAt 17 = .ok (.ifCond .ne 5, 3) := by decide +kernel
theorem dX10_widthAt_20 : decode cX10_widthAt 20 = .ok (.iconst 1, 1) := by decide +kernel
theorem dX10_widthAt_21 : decode cX10_widthAt 21 = .ok (.ireturn, 1) := by decide +kernel
theorem dX10_widthAt_22 : decode cX10_widthAt 22 = .ok (.iload_n 2, 1) := by decide +kernel
theorem dX10_widthAt_23 : decode cX10_widthAt 23 = .ok (.invokestatic 58, 3) := by decide +kernel
theorem dX10_widthAt_26 : decode cX10_widthAt 26 = .ok (.istore_n 3, 1) := by decide +kernel
theorem dX10_widthAt_27 : decode cX10_widthAt 27 = .ok (.iload_n 1, 1) := by decide +kernel
theorem dX10_widthAt_28 : decode cX10_widthAt 28 = .ok (.iconst 1, 1) := by decide +kernel
theorem dX10_widthAt_29 : decode cX10_widthAt 29 = .ok (.iadd, 1) := by decide +kernel
theorem dX10_widthAt_30 : decode cX10_widthAt 30 = .ok (.istore 4, 2) := by decide +kernel
theorem dX10_widthAt_32 : decode cX10_widthAt 32 = .ok (.iload 4, 2) := by decide +kernel
theorem dX10_widthAt_34 : decode cX10_widthAt 34 = .ok (.aload_n 0, 1) := by decide +kernel
theorem dX10_widthAt_35 : decode cX10_widthAt 35 = .ok (.getfield 30, 3) := by decide +kernel
theorem dX10_widthAt_38 : decode cX10_widthAt 38 = .ok (.if_icmp .ge 40, 3) := by decide +kernel
theorem dX10_widthAt_41 : decode cX10_widthAt 41 = .ok (.iload_n 3, 1) := by decide +kernel
theorem dX10_widthAt_42 : decode cX10_widthAt 42 = .ok (.ifCond .eq 18, 3) := by decide +kernel
theorem dX10_widthAt_45 : decode cX10_widthAt 45 = .ok (.aload_n 0, 1) := by decide +kernel
theorem dX10_widthAt_46 : decode cX10_widthAt 46 = .ok (.iload 4, 2) := by decide +kernel
theorem dX10_widthAt_48 : decode cX10_widthAt 48 = .ok (.invokevirtual 41, 3) := by decide +kernel
theorem dX10_widthAt_51 : decode cX10_widthAt 51 = .ok (.invokestatic 58, 3) := by decide +kernel
theorem dX10_widthAt_54 : decode cX10_widthAt 54 = .ok (.ifCond .eq 24, 3) := by decide +kernel
theorem dX10_widthAt_57 : decode cX10_widthAt 57 = .ok (.goto 15, 3) := by decide +kernel
theorem dX10_widthAt_60 : decode cX10_widthAt 60 = .ok (.aload_n 0, 1) := by decide +kernel
theorem dX10_widthAt_61 : decode cX10_widthAt 61 = .ok (.iload 4, 2) := by decide +kernel
theorem dX10_widthAt_63 : decode cX10_widthAt 63 = .ok (.invokevirtual 41, 3) := by decide +kernel
theorem dX10_widthAt_66 : decode cX10_widthAt 66 = .ok (.invokestatic 61, 3) := by decide +kernel
theorem dX10_widthAt_69 : decode cX10_widthAt 69 = .ok (.ifCond .eq 9, 3) := by decide +kernel
theorem dX10_widthAt_72 : decode cX10_widthAt 72 = .ok (.iinc 4 1, 3) := by decide +kernel
theorem dX10_widthAt_75 : decode cX10_widthAt 75 = .ok (.goto (-43), 3) := by decide +kernel
theorem dX10_widthAt_78 : decode cX10_widthAt 78 = .ok (.iload 4, 2) := by decide +kernel
theorem dX10_widthAt_80 : decode cX10_widthAt 80 = .ok (.iload_n 1, 1) := by decide +kernel
theorem dX10_widthAt_81 : decode cX10_widthAt 81 = .ok (.isub, 1) := by decide +kernel
theorem dX10_widthAt_82 : decode cX10_widthAt 82 = .ok (.ireturn, 1) := by decide +kernel
def X10_widthAt_72 (k32 : Nat → Int32 → Int32 → Int32 → MM Int32) (this : Nat) (x1 : Int32) (x3 : Int32) (x4 : Int32) : MM Int32 :=
  (k32 this x1 x3 (x4 + (1 : Int32)))
def X10_widthAt_32_st  (k32 : Nat → Int32 → Int32 → Int32 → MM Int32) (this : Nat) (x1 : Int32) (x3 : Int32) (x4 : Int32) : MM Int32 :=
  mb (gI 11 (some this) 4) fun v1 =>
  if v1 ≤ x4 then (mr (x4 - x1)) else (if x3 = 0 then (mb (wc 11 (some this) fun t => X10_byteAt t x4) fun v2 =>
  mb (X10_isDigit v2) fun v3 =>
  if v3 = 0 then (mr (x4 - x1)) else ((X10_widthAt_72 k32 this x1 x3 x4))) else (mb (wc 11 (some this) fun t => X10_byteAt t x4) fun v4 =>
  mb (X10_isLetter v4) fun v5 =>
  if v5 = 0 then (mr (x4 - x1)) else ((X10_widthAt_72 k32 this x1 x3 x4))))
def X10_widthAt_32  : Nat → Nat → Int32 → Int32 → Int32 → MM Int32
  | 0 => fun _ _ _ _ => mf
  | n + 1 => fun this x1 x3 x4 => X10_widthAt_32_st  (X10_widthAt_32  n) this x1 x3 x4
def X10_widthAt_22  (this : Nat) (x1 : Int32) (x2 : Int32) : MM Int32 :=
  mb (X10_isLetter x2) fun v1 =>
  (X10_widthAt_32 LFU this x1 v1 (x1 + (1 : Int32)))
def X10_widthAt (this : Nat) (a1 : Int32) : MM Int32 :=
  mb (wc 11 (some this) fun t => X10_byteAt t a1) fun v1 =>
  mb (X10_isLetter v1) fun v2 =>
  if v2 = 0 then (mb (X10_isDigit v1) fun v3 =>
  if v3 = 0 then (mr (1 : Int32)) else ((X10_widthAt_22 this a1 v1))) else ((X10_widthAt_22 this a1 v1))
set_option maxRecDepth 100000 in
set_option maxHeartbeats 4000000 in
theorem s_X10_widthAt_72 (G : GG) (k32 : Nat → Int32 → Int32 → Int32 → MM Int32) (hk32 : ∀ (this : Nat) (x1 : Int32) (x3 : Int32) (x4 : Int32), Sn G yX10_widthAt cX10_widthAt 5 (some FieldType.int) 1 21 (fun v : Int32 => some (.int v)) (k32 this x1 x3 x4) 32 [some (va_rf (some this)), some (.int x1), none, some (.int x3), some (.int x4)] []) (this : Nat) (x1 : Int32) (x3 : Int32) (x4 : Int32) : Sn G yX10_widthAt cX10_widthAt 5 (some FieldType.int) 1 21 (fun v : Int32 => some (.int v)) (X10_widthAt_72 k32 this x1 x3 x4) 72 [some (va_rf (some this)), some (.int x1), none, some (.int x3), some (.int x4)] [] := by
  unfold X10_widthAt_72
  refine sn_iinc (v := x4) (w := 1) (L' := [some (va_rf (some this)), some (.int x1), none, some (.int x3), some (.int (x4 + (1 : Int32)))]) (pc' := 75) dX10_widthAt_72 rfl rfl rfl (by decide) rfl ?_
  refine sn_goto (pc' := 32) dX10_widthAt_75 rfl ?_
  exact sn_weak (le_s (le_s (le_n (le_s (le_s le_e))))) (hk32 this x1 x3 (x4 + (1 : Int32)))
set_option maxRecDepth 100000 in
set_option maxHeartbeats 4000000 in
theorem s_X10_widthAt_32_st (G : GG)   (k32 : Nat → Int32 → Int32 → Int32 → MM Int32) (hk32 : ∀ (this : Nat) (x1 : Int32) (x3 : Int32) (x4 : Int32), Sn G yX10_widthAt cX10_widthAt 5 (some FieldType.int) 1 21 (fun v : Int32 => some (.int v)) (k32 this x1 x3 x4) 32 [some (va_rf (some this)), some (.int x1), none, some (.int x3), some (.int x4)] []) (this : Nat) (x1 : Int32) (x3 : Int32) (x4 : Int32) : Sn G yX10_widthAt cX10_widthAt 5 (some FieldType.int) 1 21 (fun v : Int32 => some (.int v)) (X10_widthAt_32_st  k32 this x1 x3 x4) 32 [some (va_rf (some this)), some (.int x1), none, some (.int x3), some (.int x4)] [] := by
  unfold X10_widthAt_32_st
  refine sn_iload (v := x4) (pc' := 34) dX10_widthAt_32 rfl rfl ?_
  refine sn_aload_n (v := (some this)) (pc' := 35) dX10_widthAt_34 rfl rfl rfl ?_
  refine sn_gI (k := 4) (pc' := 38) ci_11 rfl (Or.inl tw72) dX10_widthAt_35 rfl (fun v1 => ?_)
  refine sn_ic_ge (pt := 78) (pf := 41) dX10_widthAt_38 rfl rfl ?_ ?_
  · refine sn_iload (v := x4) (pc' := 80) dX10_widthAt_78 rfl rfl ?_
    refine sn_iload_n (v := x1) (pc' := 81) dX10_widthAt_80 rfl rfl rfl ?_
    refine sn_isub (pc' := 82) dX10_widthAt_81 rfl ?_
    exact sn_iret dX10_widthAt_82 rfl rfl
  · refine sn_iload_n (v := x3) (pc' := 42) dX10_widthAt_41 rfl rfl rfl ?_
    refine sn_if_eq (pt := 60) (pf := 45) dX10_widthAt_42 rfl rfl ?_ ?_
    · refine sn_aload_n (v := (some this)) (pc' := 61) dX10_widthAt_60 rfl rfl rfl ?_
      refine sn_iload (v := x4) (pc' := 63) dX10_widthAt_61 rfl rfl ?_
      refine sn_cV (r := (some this)) (st := []) (As := [.int x4]) (st2 := (fun v => .int v :: [])) (pc' := 66) ci_11 (fun t => c_X10_byteAt G t x4) cw_X10_byteAt rfl rfl tw372 pw4 tw374 rfl rfl cat_nil rfl (fun _ => rfl) dX10_widthAt_63 rfl (fun v2 => ?_)
      refine sn_cS (st := []) (As := [.int v2]) (st2 := (fun v => .int v :: [])) (pc' := 69) (c_X10_isDigit G v2) cw_X10_isDigit rfl rfl tw379 tw380 rfl rfl cat_nil rfl (fun _ => rfl) dX10_widthAt_66 rfl (fun v3 => ?_)
      refine sn_if_eq (pt := 78) (pf := 72) dX10_widthAt_69 rfl rfl ?_ ?_
      · refine sn_iload (v := x4) (pc' := 80) dX10_widthAt_78 rfl rfl ?_
        refine sn_iload_n (v := x1) (pc' := 81) dX10_widthAt_80 rfl rfl rfl ?_
        refine sn_isub (pc' := 82) dX10_widthAt_81 rfl ?_
        exact sn_iret dX10_widthAt_82 rfl rfl
      · exact sn_weak (le_s (le_s (le_n (le_s (le_s le_e))))) (s_X10_widthAt_72 G k32 hk32 this x1 x3 x4)
    · refine sn_aload_n (v := (some this)) (pc' := 46) dX10_widthAt_45 rfl rfl rfl ?_
      refine sn_iload (v := x4) (pc' := 48) dX10_widthAt_46 rfl rfl ?_
      refine sn_cV (r := (some this)) (st := []) (As := [.int x4]) (st2 := (fun v => .int v :: [])) (pc' := 51) ci_11 (fun t => c_X10_byteAt G t x4) cw_X10_byteAt rfl rfl tw372 pw4 tw374 rfl rfl cat_nil rfl (fun _ => rfl) dX10_widthAt_48 rfl (fun v4 => ?_)
      refine sn_cS (st := []) (As := [.int v4]) (st2 := (fun v => .int v :: [])) (pc' := 54) (c_X10_isLetter G v4) cw_X10_isLetter rfl rfl tw376 tw377 rfl rfl cat_nil rfl (fun _ => rfl) dX10_widthAt_51 rfl (fun v5 => ?_)
      refine sn_if_eq (pt := 78) (pf := 57) dX10_widthAt_54 rfl rfl ?_ ?_
      · refine sn_iload (v := x4) (pc' := 80) dX10_widthAt_78 rfl rfl ?_
        refine sn_iload_n (v := x1) (pc' := 81) dX10_widthAt_80 rfl rfl rfl ?_
        refine sn_isub (pc' := 82) dX10_widthAt_81 rfl ?_
        exact sn_iret dX10_widthAt_82 rfl rfl
      · refine sn_goto (pc' := 72) dX10_widthAt_57 rfl ?_
        exact sn_weak (le_s (le_s (le_n (le_s (le_s le_e))))) (s_X10_widthAt_72 G k32 hk32 this x1 x3 x4)
set_option maxRecDepth 100000 in
set_option maxHeartbeats 4000000 in
theorem s_X10_widthAt_32 (G : GG)   : ∀ (n : Nat) (this : Nat) (x1 : Int32) (x3 : Int32) (x4 : Int32), Sn G yX10_widthAt cX10_widthAt 5 (some FieldType.int) 1 21 (fun v : Int32 => some (.int v)) (X10_widthAt_32  n this x1 x3 x4) 32 [some (va_rf (some this)), some (.int x1), none, some (.int x3), some (.int x4)] [] := by
  intro n
  induction n with
  | zero => intro this x1 x3 x4; exact sn_mf
  | succ n ih => intro this x1 x3 x4; exact s_X10_widthAt_32_st G   (X10_widthAt_32  n) ih this x1 x3 x4
set_option maxRecDepth 100000 in
set_option maxHeartbeats 4000000 in
theorem s_X10_widthAt_22 (G : GG)   (this : Nat) (x1 : Int32) (x2 : Int32) : Sn G yX10_widthAt cX10_widthAt 5 (some FieldType.int) 1 21 (fun v : Int32 => some (.int v)) (X10_widthAt_22  this x1 x2) 22 [some (va_rf (some this)), some (.int x1), some (.int x2), none, none] [] := by
  unfold X10_widthAt_22
  refine sn_iload_n (v := x2) (pc' := 23) dX10_widthAt_22 rfl rfl rfl ?_
  refine sn_cS (st := []) (As := [.int x2]) (st2 := (fun v => .int v :: [])) (pc' := 26) (c_X10_isLetter G x2) cw_X10_isLetter rfl rfl tw376 tw377 rfl rfl cat_nil rfl (fun _ => rfl) dX10_widthAt_23 rfl (fun v1 => ?_)
  refine sn_istore_n (v := v1) (L' := [some (va_rf (some this)), some (.int x1), some (.int x2), some (.int v1), none]) (pc' := 27) dX10_widthAt_26 rfl rfl rfl rfl ?_
  refine sn_iload_n (v := x1) (pc' := 28) dX10_widthAt_27 rfl rfl rfl ?_
  refine sn_iconst (v := (1 : Int32)) (pc' := 29) dX10_widthAt_28 rfl (by decide) ?_
  refine sn_iadd (pc' := 30) dX10_widthAt_29 rfl ?_
  refine sn_istore (v := (x1 + (1 : Int32))) (L' := [some (va_rf (some this)), some (.int x1), some (.int x2), some (.int v1), some (.int (x1 + (1 : Int32)))]) (pc' := 32) dX10_widthAt_30 rfl rfl rfl ?_
  exact sn_weak (le_s (le_s (le_n (le_s (le_s le_e))))) (s_X10_widthAt_32 G LFU this x1 v1 (x1 + (1 : Int32)))
set_option maxRecDepth 100000 in
set_option maxHeartbeats 4000000 in
theorem s_X10_widthAt (G : GG) (this : Nat) (a1 : Int32) : Sn G yX10_widthAt cX10_widthAt 5 (some FieldType.int) 1 21 (fun v : Int32 => some (.int v)) (X10_widthAt this a1) 0 [some (va_rf (some this)), some (.int a1), none, none, none] [] := by
  unfold X10_widthAt
  refine sn_aload_n (v := (some this)) (pc' := 1) dX10_widthAt_0 rfl rfl rfl ?_
  refine sn_iload_n (v := a1) (pc' := 2) dX10_widthAt_1 rfl rfl rfl ?_
  refine sn_cV (r := (some this)) (st := []) (As := [.int a1]) (st2 := (fun v => .int v :: [])) (pc' := 5) ci_11 (fun t => c_X10_byteAt G t a1) cw_X10_byteAt rfl rfl tw372 pw4 tw374 rfl rfl cat_nil rfl (fun _ => rfl) dX10_widthAt_2 rfl (fun v1 => ?_)
  refine sn_istore_n (v := v1) (L' := [some (va_rf (some this)), some (.int a1), some (.int v1), none, none]) (pc' := 6) dX10_widthAt_5 rfl rfl rfl rfl ?_
  refine sn_iload_n (v := v1) (pc' := 7) dX10_widthAt_6 rfl rfl rfl ?_
  refine sn_cS (st := []) (As := [.int v1]) (st2 := (fun v => .int v :: [])) (pc' := 10) (c_X10_isLetter G v1) cw_X10_isLetter rfl rfl tw376 tw377 rfl rfl cat_nil rfl (fun _ => rfl) dX10_widthAt_7 rfl (fun v2 => ?_)
  refine sn_if_ne (pt := 22) (pf := 13) dX10_widthAt_10 rfl rfl ?_ ?_
  · refine sn_iload_n (v := v1) (pc' := 14) dX10_widthAt_13 rfl rfl rfl ?_
    refine sn_cS (st := []) (As := [.int v1]) (st2 := (fun v => .int v :: [])) (pc' := 17) (c_X10_isDigit G v1) cw_X10_isDigit rfl rfl tw379 tw380 rfl rfl cat_nil rfl (fun _ => rfl) dX10_widthAt_14 rfl (fun v3 => ?_)
    refine sn_if_ne (pt := 22) (pf := 20) dX10_widthAt_17 rfl rfl ?_ ?_
    · refine sn_iconst (v := (1 : Int32)) (pc' := 21) dX10_widthAt_20 rfl (by decide) ?_
      exact sn_iret dX10_widthAt_21 rfl rfl
    · exact sn_weak (le_s (le_s (le_s (le_n (le_n le_e))))) (s_X10_widthAt_22 G this a1 v1)
  · exact sn_weak (le_s (le_s (le_s (le_n (le_n le_e))))) (s_X10_widthAt_22 G this a1 v1)
theorem c_X10_widthAt (G : GG) (this : Nat) (a1 : Int32) : Cal G yX10_widthAt cX10_widthAt 5 (some FieldType.int) 1 21 (fun v : Int32 => some (.int v)) (X10_widthAt this a1) [.ref this, .int a1] :=
  Cal.of (by decide) (cat_t (cat_i cat_nil)) rfl (sn_weak (le_s (le_s (le_z (le_z (le_z le_e))))) (s_X10_widthAt G this a1))
theorem cw_X10_widthAt : CW yX10_widthAt cX10_widthAt 5 (some FieldType.int) 1 := ⟨tw371, tw2, by decide, by decide +kernel⟩
/-! X10_isMark -/
theorem dX10_isMark_0 : decode cX10_isMark 0 = .ok (.iload_n 0, 1) := by decide +kernel
theorem dX10_isMark_1 : decode cX10_isMark 1 = .ok (.bipush 40, 2) := by decide +kernel
theorem dX10_isMark_3 : decode cX10_isMark 3 = .ok (.if_icmp .eq 33, 3) := by decide +kernel
theorem dX10_isMark_6 : decode cX10_isMark 6 = .ok (.iload_n 0, 1) := by decide +kernel
theorem dX10_isMark_7 : decode cX10_isMark 7 = .ok (.bipush 41, 2) := by decide +kernel
theorem dX10_isMark_9 : decode cX10_isMark 9 = .ok (.if_icmp .eq 27, 3) := by decide +kernel
theorem dX10_isMark_12 : decode cX10_isMark 12 = .ok (.iload_n 0, 1) := by decide +kernel
theorem dX10_isMark_13 : decode cX10_isMark 13 = .ok (.bipush 44, 2) := by decide +kernel
theorem dX10_isMark_15 : decode cX10_isMark 15 = .ok (.if_icmp .eq 21, 3) := by decide +kernel
theorem dX10_isMark_18 : decode cX10_isMark 18 = .ok (.iload_n 0, 1) := by decide +kernel
theorem dX10_isMark_19 : decode cX10_isMark 19 = .ok (.bipush 45, 2) := by decide +kernel
theorem dX10_isMark_21 : decode cX10_isMark 21 = .ok (.if_icmp .eq 15, 3) := by decide +kernel
theorem dX10_isMark_24 : decode cX10_isMark 24 = .ok (.iload_n 0, 1) := by decide +kernel
theorem dX10_isMark_25 : decode cX10_isMark 25 = .ok (.bipush 43, 2) := by decide +kernel
theorem dX10_isMark_27 : decode cX10_isMark 27 = .ok (.if_icmp .eq 9, 3) := by decide +kernel
theorem dX10_isMark_30 : decode cX10_isMark 30 = .ok (.iload_n 0, 1) := by decide +kernel
theorem dX10_isMark_31 : decode cX10_isMark 31 = .ok (.bipush 61, 2) := by decide +kernel
theorem dX10_isMark_33 : decode cX10_isMark 33 = .ok (.if_icmp .ne 7, 3) := by decide +kernel
theorem dX10_isMark_36 : decode cX10_isMark 36 = .ok (.iconst 1, 1) := by decide +kernel
theorem dX10_isMark_37 : decode cX10_isMark 37 = .ok (.goto 4, 3) := by decide +kernel
theorem dX10_isMark_40 : decode cX10_isMark 40 = .ok (.iconst 0, 1) := by decide +kernel
theorem dX10_isMark_41 : decode cX10_isMark 41 = .ok (.ireturn, 1) := by decide +kernel
def X10_isMark (a0 : Int32) : MM Int32 :=
  if a0 = (40 : Int32) then (mr (1 : Int32)) else (if a0 = (41 : Int32) then (mr (1 : Int32)) else (if a0 = (44 : Int32) then (mr (1 : Int32)) else (if a0 = (45 : Int32) then (mr (1 : Int32)) else (if a0 = (43 : Int32) then (mr (1 : Int32)) else (if a0 = (61 : Int32) then (mr (1 : Int32)) else (mr (0 : Int32)))))))
set_option maxRecDepth 100000 in
set_option maxHeartbeats 4000000 in
theorem s_X10_isMark (G : GG) (a0 : Int32) : Sn G yX10_isMark cX10_isMark 1 (some FieldType.boolean) 0 0 (fun v : Int32 => some (.int v)) (X10_isMark a0) 0 [some (.int a0)] [] := by
  unfold X10_isMark
  refine sn_iload_n (v := a0) (pc' := 1) dX10_isMark_0 rfl rfl rfl ?_
  refine sn_bipush (v := (40 : Int32)) (pc' := 3) dX10_isMark_1 rfl (by decide) ?_
  refine sn_ic_eq (pt := 36) (pf := 6) dX10_isMark_3 rfl rfl ?_ ?_
  · refine sn_iconst (v := (1 : Int32)) (pc' := 37) dX10_isMark_36 rfl (by decide) ?_
    refine sn_goto (pc' := 41) dX10_isMark_37 rfl ?_
    exact sn_iret dX10_isMark_41 rfl (by decide)
  · refine sn_iload_n (v := a0) (pc' := 7) dX10_isMark_6 rfl rfl rfl ?_
    refine sn_bipush (v := (41 : Int32)) (pc' := 9) dX10_isMark_7 rfl (by decide) ?_
    refine sn_ic_eq (pt := 36) (pf := 12) dX10_isMark_9 rfl rfl ?_ ?_
    · refine sn_iconst (v := (1 : Int32)) (pc' := 37) dX10_isMark_36 rfl (by decide) ?_
      refine sn_goto (pc' := 41) dX10_isMark_37 rfl ?_
      exact sn_iret dX10_isMark_41 rfl (by decide)
    · refine sn_iload_n (v := a0) (pc' := 13) dX10_isMark_12 rfl rfl rfl ?_
      refine sn_bipush (v := (44 : Int32)) (pc' := 15) dX10_isMark_13 rfl (by decide) ?_
      refine sn_ic_eq (pt := 36) (pf := 18) dX10_isMark_15 rfl rfl ?_ ?_
      · refine sn_iconst (v := (1 : Int32)) (pc' := 37) dX10_isMark_36 rfl (by decide) ?_
        refine sn_goto (pc' := 41) dX10_isMark_37 rfl ?_
        exact sn_iret dX10_isMark_41 rfl (by decide)
      · refine sn_iload_n (v := a0) (pc' := 19) dX10_isMark_18 rfl rfl rfl ?_
        refine sn_bipush (v := (45 : Int32)) (pc' := 21) dX10_isMark_19 rfl (by decide) ?_
        refine sn_ic_eq (pt := 36) (pf := 24) dX10_isMark_21 rfl rfl ?_ ?_
        · refine sn_iconst (v := (1 : Int32)) (pc' := 37) dX10_isMark_36 rfl (by decide) ?_
          refine sn_goto (pc' := 41) dX10_isMark_37 rfl ?_
          exact sn_iret dX10_isMark_41 rfl (by decide)
        · refine sn_iload_n (v := a0) (pc' := 25) dX10_isMark_24 rfl rfl rfl ?_
          refine sn_bipush (v := (43 : Int32)) (pc' := 27) dX10_isMark_25 rfl (by decide) ?_
          refine sn_ic_eq (pt := 36) (pf := 30) dX10_isMark_27 rfl rfl ?_ ?_
          · refine sn_iconst (v := (1 : Int32)) (pc' := 37) dX10_isMark_36 rfl (by decide) ?_
            refine sn_goto (pc' := 41) dX10_isMark_37 rfl ?_
            exact sn_iret dX10_isMark_41 rfl (by decide)
          · refine sn_iload_n (v := a0) (pc' := 31) dX10_isMark_30 rfl rfl rfl ?_
            refine sn_bipush (v := (61 : Int32)) (pc' := 33) dX10_isMark_31 rfl (by decide) ?_
            refine sn_ic_ne (pt := 40) (pf := 36) dX10_isMark_33 rfl rfl ?_ ?_
            · refine sn_iconst (v := (1 : Int32)) (pc' := 37) dX10_isMark_36 rfl (by decide) ?_
              refine sn_goto (pc' := 41) dX10_isMark_37 rfl ?_
              exact sn_iret dX10_isMark_41 rfl (by decide)
            · refine sn_iconst (v := (0 : Int32)) (pc' := 41) dX10_isMark_40 rfl (by decide) ?_
              exact sn_iret dX10_isMark_41 rfl (by decide)
theorem c_X10_isMark (G : GG) (a0 : Int32) : Cal G yX10_isMark cX10_isMark 1 (some FieldType.boolean) 0 0 (fun v : Int32 => some (.int v)) (X10_isMark a0) [.int a0] :=
  Cal.of (by decide) (cat_i cat_nil) rfl (sn_weak (le_s le_e) (s_X10_isMark G a0))
theorem cw_X10_isMark : CW yX10_isMark cX10_isMark 1 (some FieldType.boolean) 1 := ⟨tw388, tw2, by decide, by decide +kernel⟩
/-! J0_isLatin1_aae02 -/
theorem dJ0_isLatin1_aae02_0 : decode cJ0_isLatin1_aae02 0 = .ok (.getstatic 38, 3) := by decide +kernel
theorem dJ0_isLatin1_aae02_3 : decode cJ0_isLatin1_aae02 3 = .ok (.ifCond .eq 14, 3) := by decide +kernel
theorem dJ0_isLatin1_aae02_6 : decode cJ0_isLatin1_aae02 6 = .ok (.aload_n 0, 1) := by decide +kernel
theorem dJ0_isLatin1_aae02_7 : decode cJ0_isLatin1_aae02 7 = .ok (.getfield 15, 3) := by decide +kernel
theorem dJ0_isLatin1_aae02_10 : decode cJ0_isLatin1_aae02 10 = .ok (.ifCond .ne 7, 3) := by decide +kernel
theorem dJ0_isLatin1_aae02_13 : decode cJ0_isLatin1_aae02 13 = .ok (.iconst 1, 1) := by decide +kernel
theorem dJ0_isLatin1_aae02_14 : decode cJ0_isLatin1_aae02 14 = .ok (.goto 4, 3) := by decide +kernel
theorem dJ0_isLatin1_aae02_17 : decode cJ0_isLatin1_aae02 17 = .ok (.iconst 0, 1) := by decide +kernel
theorem dJ0_isLatin1_aae02_18 : decode cJ0_isLatin1_aae02 18 = .ok (.ireturn, 1) := by decide +kernel
def J0_isLatin1_aae02 (this : Nat) : MM Int32 :=
  if (1 : Int32) = 0 then (mr (0 : Int32)) else (mb (gI 0 (some this) 1) fun v1 =>
  if v1 = 0 then (mr (1 : Int32)) else (mr (0 : Int32)))
set_option maxRecDepth 100000 in
set_option maxHeartbeats 4000000 in
theorem s_J0_isLatin1_aae02 (G : GG) (this : Nat) : Sn G yJ0_isLatin1_aae02 cJ0_isLatin1_aae02 1 (some FieldType.boolean) 0 0 (fun v : Int32 => some (.int v)) (J0_isLatin1_aae02 this) 0 [some (va_rf (some this))] [] := by
  unfold J0_isLatin1_aae02
  refine sn_gsI (C := "java/lang/String") (nm := "COMPACT_STRINGS") (d := "Z") (v := (1 : Int32)) (pc' := 3) (by decide +kernel) tw406 dJ0_isLatin1_aae02_0 rfl ?_
  refine sn_if_eq (pt := 17) (pf := 6) dJ0_isLatin1_aae02_3 rfl rfl ?_ ?_
  · refine sn_iconst (v := (0 : Int32)) (pc' := 18) dJ0_isLatin1_aae02_17 rfl (by decide) ?_
    exact sn_iret dJ0_isLatin1_aae02_18 rfl (by decide)
  · refine sn_aload_n (v := (some this)) (pc' := 7) dJ0_isLatin1_aae02_6 rfl rfl rfl ?_
    refine sn_gI (k := 1) (pc' := 10) ci_0 rfl (Or.inl tw831) dJ0_isLatin1_aae02_7 rfl (fun v1 => ?_)
    refine sn_if_ne (pt := 17) (pf := 13) dJ0_isLatin1_aae02_10 rfl rfl ?_ ?_
    · refine sn_iconst (v := (1 : Int32)) (pc' := 14) dJ0_isLatin1_aae02_13 rfl (by decide) ?_
      refine sn_goto (pc' := 18) dJ0_isLatin1_aae02_14 rfl ?_
      exact sn_iret dJ0_isLatin1_aae02_18 rfl (by decide)
    · refine sn_iconst (v := (0 : Int32)) (pc' := 18) dJ0_isLatin1_aae02_17 rfl (by decide) ?_
      exact sn_iret dJ0_isLatin1_aae02_18 rfl (by decide)
theorem c_J0_isLatin1_aae02 (G : GG) (this : Nat) : Cal G yJ0_isLatin1_aae02 cJ0_isLatin1_aae02 1 (some FieldType.boolean) 0 0 (fun v : Int32 => some (.int v)) (J0_isLatin1_aae02 this) [.ref this] :=
  Cal.of (by decide) (cat_t cat_nil) rfl (sn_weak (le_s le_e) (s_J0_isLatin1_aae02 G this))
theorem cw_J0_isLatin1_aae02 : CW yJ0_isLatin1_aae02 cJ0_isLatin1_aae02 1 (some FieldType.boolean) 0 := ⟨tw405, tw13, by decide, by decide +kernel⟩
/-! J0_coder_7d493 -/
theorem dJ0_coder_7d493_0 : decode cJ0_coder_7d493 0 = .ok (.getstatic 38, 3) := by decide +kernel
theorem dJ0_coder_7d493_3 : decode cJ0_coder_7d493 3 = .ok (.ifCond .eq 10, 3) := by decide +kernel
theorem dJ0_coder_7d493_6 : decode cJ0_coder_7d493 6 = .ok (.aload_n 0, 1) := by decide +kernel
theorem dJ0_coder_7d493_7 : decode cJ0_coder_7d493 7 = .ok (.getfield 15, 3) := by decide +kernel
theorem dJ0_coder_7d493_10 : decode cJ0_coder_7d493 10 = .ok (.goto 4, 3) := by decide +kernel
theorem dJ0_coder_7d493_14 : decode cJ0_coder_7d493 14 = .ok (.ireturn, 1) := by decide +kernel
def J0_coder_7d493 (this : Nat) : MM Int32 :=
  if (1 : Int32) = 0 then (mf) else (mb (gI 0 (some this) 1) fun v1 =>
  mb (ckI .byte v1) fun v2 =>
  mr v2)
set_option maxRecDepth 100000 in
set_option maxHeartbeats 4000000 in
theorem s_J0_coder_7d493 (G : GG) (this : Nat) : Sn G yJ0_coder_7d493 cJ0_coder_7d493 1 (some FieldType.byte) 0 0 (fun v : Int32 => some (.int v)) (J0_coder_7d493 this) 0 [some (va_rf (some this))] [] := by
  unfold J0_coder_7d493
  refine sn_gsI (C := "java/lang/String") (nm := "COMPACT_STRINGS") (d := "Z") (v := (1 : Int32)) (pc' := 3) (by decide +kernel) tw406 dJ0_coder_7d493_0 rfl ?_
  refine sn_if_eq (pt := 13) (pf := 6) dJ0_coder_7d493_3 rfl rfl ?_ ?_
  · exact sn_mf
  · refine sn_aload_n (v := (some this)) (pc' := 7) dJ0_coder_7d493_6 rfl rfl rfl ?_
    refine sn_gI (k := 1) (pc' := 10) ci_0 rfl (Or.inl tw831) dJ0_coder_7d493_7 rfl (fun v1 => ?_)
    refine sn_goto (pc' := 14) dJ0_coder_7d493_10 rfl ?_
    refine sn_ck (fun v2 hz => ?_)
    exact sn_iret dJ0_coder_7d493_14 rfl hz
theorem c_J0_coder_7d493 (G : GG) (this : Nat) : Cal G yJ0_coder_7d493 cJ0_coder_7d493 1 (some FieldType.byte) 0 0 (fun v : Int32 => some (.int v)) (J0_coder_7d493 this) [.ref this] :=
  Cal.of (by decide) (cat_t cat_nil) rfl (sn_weak (le_s le_e) (s_J0_coder_7d493 G this))
theorem cw_J0_coder_7d493 : CW yJ0_coder_7d493 cJ0_coder_7d493 1 (some FieldType.byte) 0 := ⟨tw414, tw13, by decide, by decide +kernel⟩
/-! J0_length_8abf5 -/
theorem dJ0_length_8abf5_0 : decode cJ0_length_8abf5 0 = .ok (.aload_n 0, 1) := by decide +kernel
theorem dJ0_length_8abf5_1 : decode cJ0_length_8abf5 1 = .ok (.getfield 9, 3) := by decide +kernel
theorem dJ0_length_8abf5_4 : decode cJ0_length_8abf5 4 = .ok (.arraylength, 1) := by decide +kernel
theorem dJ0_length_8abf5_5 : decode cJ0_length_8abf5 5 = .ok (.aload_n 0, 1) := by decide +kernel
theorem dJ0_length_8abf5_6 : decode cJ0_length_8abf5 6 = .ok (.invokevirtual 335, 3) := by decide +kernel
theorem dJ0_length_8abf5_9 : decode cJ0_length_8abf5 9 = .ok (.ishr, 1) := by decide +kernel
theorem dJ0_length_8abf5_10 : decode cJ0_length_8abf5 10 = .ok (.ireturn, 1) := by decide +kernel
def J0_length_8abf5 (this : Nat) : MM Int32 :=
  mb (gR 0 (some this) 0) fun v1 =>
  mb (aN v1) fun v2 =>
  mb (wc 0 (some this) fun t => J0_coder_7d493 t ) fun v3 =>
  mr (v2 >>> (v3 &&& 31))
set_option maxRecDepth 100000 in
set_option maxHeartbeats 4000000 in
theorem s_J0_length_8abf5 (G : GG) (this : Nat) : Sn G yJ0_length_8abf5 cJ0_length_8abf5 1 (some FieldType.int) 1 20 (fun v : Int32 => some (.int v)) (J0_length_8abf5 this) 0 [some (va_rf (some this))] [] := by
  unfold J0_length_8abf5
  refine sn_aload_n (v := (some this)) (pc' := 1) dJ0_length_8abf5_0 rfl rfl rfl ?_
  refine sn_gR (k := 0) (pc' := 4) ci_0 rfl (Or.inl tw830) dJ0_length_8abf5_1 rfl (fun v1 => ?_)
  refine sn_aN (pc' := 5) dJ0_length_8abf5_4 rfl (fun v2 => ?_)
  refine sn_aload_n (v := (some this)) (pc' := 6) dJ0_length_8abf5_5 rfl rfl rfl ?_
  refine sn_cV (r := (some this)) (st := [.int v2]) (As := []) (st2 := (fun v => .int v :: [.int v2])) (pc' := 9) ci_0 (fun t => c_J0_coder_7d493 G t ) cw_J0_coder_7d493 rfl rfl tw411 tw413 tw412 rfl rfl (cat_i cat_nil) rfl (fun _ => rfl) dJ0_length_8abf5_6 rfl (fun v3 => ?_)
  refine sn_ishr (pc' := 10) dJ0_length_8abf5_9 rfl ?_
  exact sn_iret dJ0_length_8abf5_10 rfl rfl
theorem c_J0_length_8abf5 (G : GG) (this : Nat) : Cal G yJ0_length_8abf5 cJ0_length_8abf5 1 (some FieldType.int) 1 20 (fun v : Int32 => some (.int v)) (J0_length_8abf5 this) [.ref this] :=
  Cal.of (by decide) (cat_t cat_nil) rfl (sn_weak (le_s le_e) (s_J0_length_8abf5 G this))
theorem cw_J0_length_8abf5 : CW yJ0_length_8abf5 cJ0_length_8abf5 1 (some FieldType.int) 0 := ⟨tw410, tw13, by decide, by decide +kernel⟩
/-! J1_canEncode_9a6ad -/
theorem dJ1_canEncode_9a6ad_0 : decode cJ1_canEncode_9a6ad 0 = .ok (.iload_n 0, 1) := by decide +kernel
theorem dJ1_canEncode_9a6ad_1 : decode cJ1_canEncode_9a6ad 1 = .ok (.ifCond .lt 14, 3) := by decide +kernel
theorem dJ1_canEncode_9a6ad_4 : decode cJ1_canEncode_9a6ad 4 = .ok (.iload_n 0, 1) := by decide +kernel
theorem dJ1_canEncode_9a6ad_5 : decode cJ1_canEncode_9a6ad 5 = .ok (.sipush 255, 3) := by decide +kernel
theorem dJ1_canEncode_9a6ad_8 : decode cJ1_canEncode_9a6ad 8 = .ok (.if_icmp .gt 7, 3) := by decide +kernel
theorem dJ1_canEncode_9a6ad_11 : decode cJ1_canEncode_9a6ad 11 = .ok (.iconst 1, 1) := by decide +kernel
theorem dJ1_canEncode_9a6ad_12 : decode cJ1_canEncode_9a6ad 12 = .ok (.goto 4, 3) := by decide +kernel
theorem dJ1_canEncode_9a6ad_15 : decode cJ1_canEncode_9a6ad 15 = .ok (.iconst 0, 1) := by decide +kernel
theorem dJ1_canEncode_9a6ad_16 : decode cJ1_canEncode_9a6ad 16 = .ok (.ireturn, 1) := by decide +kernel
def J1_canEncode_9a6ad (a0 : Int32) : MM Int32 :=
  if a0 < 0 then (mr (0 : Int32)) else (if (255 : Int32) < a0 then (mr (0 : Int32)) else (mr (1 : Int32)))
set_option maxRecDepth 100000 in
set_option maxHeartbeats 4000000 in
theorem s_J1_canEncode_9a6ad (G : GG) (a0 : Int32) : Sn G yJ1_canEncode_9a6ad cJ1_canEncode_9a6ad 1 (some FieldType.boolean) 0 0 (fun v : Int32 => some (.int v)) (J1_canEncode_9a6ad a0) 0 [some (.int a0)] [] := by
  unfold J1_canEncode_9a6ad
  refine sn_iload_n (v := a0) (pc' := 1) dJ1_canEncode_9a6ad_0 rfl rfl rfl ?_
  refine sn_if_lt (pt := 15) (pf := 4) dJ1_canEncode_9a6ad_1 rfl rfl ?_ ?_
  · refine sn_iconst (v := (0 : Int32)) (pc' := 16) dJ1_canEncode_9a6ad_15 rfl (by decide) ?_
    exact sn_iret dJ1_canEncode_9a6ad_16 rfl (by decide)
  · refine sn_iload_n (v := a0) (pc' := 5) dJ1_canEncode_9a6ad_4 rfl rfl rfl ?_
    refine sn_sipush (v := (255 : Int32)) (pc' := 8) dJ1_canEncode_9a6ad_5 rfl (by decide) ?_
    refine sn_ic_gt (pt := 15) (pf := 11) dJ1_canEncode_9a6ad_8 rfl rfl ?_ ?_
    · refine sn_iconst (v := (0 : Int32)) (pc' := 16) dJ1_canEncode_9a6ad_15 rfl (by decide) ?_
      exact sn_iret dJ1_canEncode_9a6ad_16 rfl (by decide)
    · refine sn_iconst (v := (1 : Int32)) (pc' := 12) dJ1_canEncode_9a6ad_11 rfl (by decide) ?_
      refine sn_goto (pc' := 16) dJ1_canEncode_9a6ad_12 rfl ?_
      exact sn_iret dJ1_canEncode_9a6ad_16 rfl (by decide)
theorem c_J1_canEncode_9a6ad (G : GG) (a0 : Int32) : Cal G yJ1_canEncode_9a6ad cJ1_canEncode_9a6ad 1 (some FieldType.boolean) 0 0 (fun v : Int32 => some (.int v)) (J1_canEncode_9a6ad a0) [.int a0] :=
  Cal.of (by decide) (cat_i cat_nil) rfl (sn_weak (le_s le_e) (s_J1_canEncode_9a6ad G a0))
theorem cw_J1_canEncode_9a6ad : CW yJ1_canEncode_9a6ad cJ1_canEncode_9a6ad 1 (some FieldType.boolean) 1 := ⟨tw420, tw16, by decide, by decide +kernel⟩
/-! J1_indexOfChar_4cfef -/
theorem dJ1_indexOfChar_4cfef_0 : decode cJ1_indexOfChar_4cfef 0 = .ok (.iload_n 1, 1) := by decide +kernel
theorem dJ1_indexOfChar_4cfef_1 : decode cJ1_indexOfChar_4cfef 1 = .ok (.i2b, 1) := by decide +kernel
theorem dJ1_indexOfChar_4cfef_2 : decode cJ1_indexOfChar_4cfef 2 = .ok (.istore 4, 2) := by decide +kernel
theorem dJ1_indexOfChar_4cfef_4 : decode cJ1_indexOfChar_4cfef 4 = .ok (.iload_n 2, 1) := by decide +kernel
theorem dJ1_indexOfChar_4cfef_5 : decode cJ1_indexOfChar_4cfef 5 = .ok (.istore 5, 2) := by decide +kernel
theorem dJ1_indexOfChar_4cfef_7 : decode cJ1_indexOfChar_4cfef 7 = .ok (.iload 5, 2) := by decide +kernel
theorem dJ1_indexOfChar_4cfef_9 : decode cJ1_indexOfChar_4cfef 9 = .ok (.iload_n 3, 1) := by decide +kernel
theorem dJ1_indexOfChar_4cfef_10 : decode cJ1_indexOfChar_4cfef 10 = .ok (.if_icmp .ge 21, 3) := by decide +kernel
theorem dJ1_indexOfChar_4cfef_13 : decode cJ1_indexOfChar_4cfef 13 = .ok (.aload_n 0, 1) := by decide +kernel
theorem dJ1_indexOfChar_4cfef_14 : decode cJ1_indexOfChar_4cfef 14 = .ok (.iload 5, 2) := by decide +kernel
theorem dJ1_indexOfChar_4cfef_16 : decode cJ1_indexOfChar_4cfef 16 = .ok (.baload, 1) := by decide +kernel
theorem dJ1_indexOfChar_4cfef_17 : decode cJ1_indexOfChar_4cfef 17 = .ok (.iload 4, 2) := by decide +kernel
theorem dJ1_indexOfChar_4cfef_19 : decode cJ1_indexOfChar_4cfef 19 = .ok (.if_icmp .ne 6, 3) := by decide +kernel
theorem dJ1_indexOfChar_4cfef_22 : decode cJ1_indexOfChar_4cfef 22 = .ok (.iload 5, 2) := by decide +kernel
theorem dJ1_indexOfChar_4cfef_24 : decode cJ1_indexOfChar_4cfef 24 = .ok (.ireturn, 1) := by decide +kernel
theorem dJ1_indexOfChar_4cfef_25 : decode cJ1_indexOfChar_4cfef 25 = .ok (.iinc 5 1, 3) := by decide +kernel
theorem dJ1_indexOfChar_4cfef_28 : decode cJ1_indexOfChar_4cfef 28 = .ok (.goto (-21), 3) := by decide +kernel
theorem dJ1_indexOfChar_4cfef_31 : decode cJ1_indexOfChar_4cfef 31 = .ok (.iconst (-1), 1) := by decide +kernel
theorem dJ1_indexOfChar_4cfef_32 : decode cJ1_indexOfChar_4cfef 32 = .ok (.ireturn, 1) := by decide +kernel
def J1_indexOfChar_4cfef_7_st  (k7 : Option Nat → Int32 → Int32 → Int32 → MM Int32) (x0 : Option Nat) (x3 : Int32) (x4 : Int32) (x5 : Int32) : MM Int32 :=
  if x3 ≤ x5 then (mr (-1 : Int32)) else (mb (aB x0 x5) fun v1 =>
  if v1 = x4 then (mr x5) else ((k7 x0 x3 x4 (x5 + (1 : Int32)))))
def J1_indexOfChar_4cfef_7  : Nat → Option Nat → Int32 → Int32 → Int32 → MM Int32
  | 0 => fun _ _ _ _ => mf
  | n + 1 => fun x0 x3 x4 x5 => J1_indexOfChar_4cfef_7_st  (J1_indexOfChar_4cfef_7  n) x0 x3 x4 x5
def J1_indexOfChar_4cfef (a0 : Option Nat) (a1 : Int32) (a2 : Int32) (a3 : Int32) : MM Int32 :=
  (J1_indexOfChar_4cfef_7 LFU a0 a3 ((a1).toInt8.toInt32) a2)
set_option maxRecDepth 100000 in
set_option maxHeartbeats 4000000 in
theorem s_J1_indexOfChar_4cfef_7_st (G : GG)   (k7 : Option Nat → Int32 → Int32 → Int32 → MM Int32) (hk7 : ∀ (x0 : Option Nat) (x3 : Int32) (x4 : Int32) (x5 : Int32), Sn G yJ1_indexOfChar_4cfef cJ1_indexOfChar_4cfef 6 (some FieldType.int) 0 0 (fun v : Int32 => some (.int v)) (k7 x0 x3 x4 x5) 7 [some (va_rf x0), none, none, some (.int x3), some (.int x4), some (.int x5)] []) (x0 : Option Nat) (x3 : Int32) (x4 : Int32) (x5 : Int32) : Sn G yJ1_indexOfChar_4cfef cJ1_indexOfChar_4cfef 6 (some FieldType.int) 0 0 (fun v : Int32 => some (.int v)) (J1_indexOfChar_4cfef_7_st  k7 x0 x3 x4 x5) 7 [some (va_rf x0), none, none, some (.int x3), some (.int x4), some (.int x5)] [] := by
  unfold J1_indexOfChar_4cfef_7_st
  refine sn_iload (v := x5) (pc' := 9) dJ1_indexOfChar_4cfef_7 rfl rfl ?_
  refine sn_iload_n (v := x3) (pc' := 10) dJ1_indexOfChar_4cfef_9 rfl rfl rfl ?_
  refine sn_ic_ge (pt := 31) (pf := 13) dJ1_indexOfChar_4cfef_10 rfl rfl ?_ ?_
  · refine sn_iconst (v := (-1 : Int32)) (pc' := 32) dJ1_indexOfChar_4cfef_31 rfl (by decide) ?_
    exact sn_iret dJ1_indexOfChar_4cfef_32 rfl rfl
  · refine sn_aload_n (v := x0) (pc' := 14) dJ1_indexOfChar_4cfef_13 rfl rfl rfl ?_
    refine sn_iload (v := x5) (pc' := 16) dJ1_indexOfChar_4cfef_14 rfl rfl ?_
    refine sn_aB (pc' := 17) dJ1_indexOfChar_4cfef_16 rfl (fun v1 => ?_)
    refine sn_iload (v := x4) (pc' := 19) dJ1_indexOfChar_4cfef_17 rfl rfl ?_
    refine sn_ic_ne (pt := 25) (pf := 22) dJ1_indexOfChar_4cfef_19 rfl rfl ?_ ?_
    · refine sn_iload (v := x5) (pc' := 24) dJ1_indexOfChar_4cfef_22 rfl rfl ?_
      exact sn_iret dJ1_indexOfChar_4cfef_24 rfl rfl
    · refine sn_iinc (v := x5) (w := 1) (L' := [some (va_rf x0), none, none, some (.int x3), some (.int x4), some (.int (x5 + (1 : Int32)))]) (pc' := 28) dJ1_indexOfChar_4cfef_25 rfl rfl rfl (by decide) rfl ?_
      refine sn_goto (pc' := 7) dJ1_indexOfChar_4cfef_28 rfl ?_
      exact sn_weak (le_s (le_n (le_n (le_s (le_s (le_s le_e)))))) (hk7 x0 x3 x4 (x5 + (1 : Int32)))
set_option maxRecDepth 100000 in
set_option maxHeartbeats 4000000 in
theorem s_J1_indexOfChar_4cfef_7 (G : GG)   : ∀ (n : Nat) (x0 : Option Nat) (x3 : Int32) (x4 : Int32) (x5 : Int32), Sn G yJ1_indexOfChar_4cfef cJ1_indexOfChar_4cfef 6 (some FieldType.int) 0 0 (fun v : Int32 => some (.int v)) (J1_indexOfChar_4cfef_7  n x0 x3 x4 x5) 7 [some (va_rf x0), none, none, some (.int x3), some (.int x4), some (.int x5)] [] := by
  intro n
  induction n with
  | zero => intro x0 x3 x4 x5; exact sn_mf
  | succ n ih => intro x0 x3 x4 x5; exact s_J1_indexOfChar_4cfef_7_st G   (J1_indexOfChar_4cfef_7  n) ih x0 x3 x4 x5
set_option maxRecDepth 100000 in
set_option maxHeartbeats 4000000 in
theorem s_J1_indexOfChar_4cfef (G : GG) (a0 : Option Nat) (a1 : Int32) (a2 : Int32) (a3 : Int32) : Sn G yJ1_indexOfChar_4cfef cJ1_indexOfChar_4cfef 6 (some FieldType.int) 0 0 (fun v : Int32 => some (.int v)) (J1_indexOfChar_4cfef a0 a1 a2 a3) 0 [some (va_rf a0), some (.int a1), some (.int a2), some (.int a3), none, none] [] := by
  unfold J1_indexOfChar_4cfef
  refine sn_iload_n (v := a1) (pc' := 1) dJ1_indexOfChar_4cfef_0 rfl rfl rfl ?_
  refine sn_i2b (pc' := 2) dJ1_indexOfChar_4cfef_1 rfl ?_
  refine sn_istore (v := ((a1).toInt8.toInt32)) (L' := [some (va_rf a0), some (.int a1), some (.int a2), some (.int a3), some (.int ((a1).toInt8.toInt32)), none]) (pc' := 4) dJ1_indexOfChar_4cfef_2 rfl rfl rfl ?_
  refine sn_iload_n (v := a2) (pc' := 5) dJ1_indexOfChar_4cfef_4 rfl rfl rfl ?_
  refine sn_istore (v := a2) (L' := [some (va_rf a0), some (.int a1), some (.int a2), some (.int a3), some (.int ((a1).toInt8.toInt32)), some (.int a2)]) (pc' := 7) dJ1_indexOfChar_4cfef_5 rfl rfl rfl ?_
  exact sn_weak (le_s (le_n (le_n (le_s (le_s (le_s le_e)))))) (s_J1_indexOfChar_4cfef_7 G LFU a0 a3 ((a1).toInt8.toInt32) a2)
theorem c_J1_indexOfChar_4cfef (G : GG) (a0 : Option Nat) (a1 : Int32) (a2 : Int32) (a3 : Int32) : Cal G yJ1_indexOfChar_4cfef cJ1_indexOfChar_4cfef 6 (some FieldType.int) 0 0 (fun v : Int32 => some (.int v)) (J1_indexOfChar_4cfef a0 a1 a2 a3) [va_rf a0, .int a1, .int a2, .int a3] :=
  Cal.of (by decide) (cat_q (cat_i (cat_i (cat_i cat_nil)))) rfl (sn_weak (le_s (le_s (le_s (le_s (le_z (le_z le_e)))))) (s_J1_indexOfChar_4cfef G a0 a1 a2 a3))
theorem cw_J1_indexOfChar_4cfef : CW yJ1_indexOfChar_4cfef cJ1_indexOfChar_4cfef 6 (some FieldType.int) 4 := ⟨tw427, tw16, by decide, by decide +kernel⟩
/-! J1_indexOf_4cfef -/
theorem dJ1_indexOf_4cfef_0 : decode cJ1_indexOf_4cfef 0 = .ok (.iload_n 1, 1) := by decide +kernel
theorem dJ1_indexOf_4cfef_1 : decode cJ1_indexOf_4cfef 1 = .ok (.invokestatic 88, 3) := by decide +kernel
theorem dJ1_indexOf_4cfef_4 : decode cJ1_indexOf_4cfef 4 = .ok (.ifCond .ne 5, 3) := by decide +kernel
theorem dJ1_indexOf_4cfef_7 : decode cJ1_indexOf_4cfef 7 = .ok (.iconst (-1), 1) := by decide +kernel
theorem dJ1_indexOf_4cfef_8 : decode cJ1_indexOf_4cfef 8 = .ok (.ireturn, 1) := by decide +kernel
theorem dJ1_indexOf_4cfef_9 : decode cJ1_indexOf_4cfef 9 = .ok (.iload_n 2, 1) := by decide +kernel
theorem dJ1_indexOf_4cfef_10 : decode cJ1_indexOf_4cfef 10 = .ok (.iconst 0, 1) := by decide +kernel
theorem dJ1_indexOf_4cfef_11 : decode cJ1_indexOf_4cfef 11 = .ok (.invokestatic 92, 3) := by decide +kernel
theorem dJ1_indexOf_4cfef_14 : decode cJ1_indexOf_4cfef 14 = .ok (.istore_n 2, 1) := by decide +kernel
theorem dJ1_indexOf_4cfef_15 : decode cJ1_indexOf_4cfef 15 = .ok (.iload_n 3, 1) := by decide +kernel
theorem dJ1_indexOf_4cfef_16 : decode cJ1_indexOf_4cfef 16 = .ok (.aload_n 0, 1) := by decide +kernel
theorem dJ1_indexOf_4cfef_17 : decode cJ1_indexOf_4cfef 17 = .ok (.arraylength, 1) := by decide +kernel
theorem dJ1_indexOf_4cfef_18 : decode cJ1_indexOf_4cfef 18 = .ok (.invokestatic 38, 3) := by decide +kernel
theorem dJ1_indexOf_4cfef_21 : decode cJ1_indexOf_4cfef 21 = .ok (.istore_n 3, 1) := by decide +kernel
theorem dJ1_indexOf_4cfef_22 : decode cJ1_indexOf_4cfef 22 = .ok (.iload_n 2, 1) := by decide +kernel
theorem dJ1_indexOf_4cfef_23 : decode cJ1_indexOf_4cfef 23 = .ok (.iload_n 3, 1) := by decide +kernel
theorem dJ1_indexOf_4cfef_24 : decode cJ1_indexOf_4cfef 24 = .ok (.if_icmp .lt 5, 3) := by decide +kernel
theorem dJ1_indexOf_4cfef_27 : decode cJ1_indexOf_4cfef 27 = .ok (.iconst (-1), 1) := by decide +kernel
theorem dJ1_indexOf_4cfef_28 : decode cJ1_indexOf_4cfef 28 = .ok (.ireturn, 1) := by decide +kernel
theorem dJ1_indexOf_4cfef_29 : decode cJ1_indexOf_4cfef 29 = .ok (.aload_n 0, 1) := by decide +kernel
theorem dJ1_indexOf_4cfef_30 : decode cJ1_indexOf_4cfef 30 = .ok (.iload_n 1, 1) := by decide +kernel
theorem dJ1_indexOf_4cfef_31 : decode cJ1_indexOf_4cfef 31 = .ok (.iload_n 2, 1) := by decide +kernel
theorem dJ1_indexOf_4cfef_32 : decode cJ1_indexOf_4cfef 32 = .ok (.iload_n 3, 1) := by decide +kernel
theorem dJ1_indexOf_4cfef_33 : decode cJ1_indexOf_4cfef 33 = .ok (.invokestatic 95, 3) := by decide +kernel
theorem dJ1_indexOf_4cfef_36 : decode cJ1_indexOf_4cfef 36 = .ok (.ireturn, 1) := by decide +kernel
def J1_indexOf_4cfef (a0 : Option Nat) (a1 : Int32) (a2 : Int32) (a3 : Int32) : MM Int32 :=
  mb (J1_canEncode_9a6ad a1) fun v1 =>
  if v1 = 0 then (mr (-1 : Int32)) else (mb (aN a0) fun v2 =>
  if (if a2 < (0 : Int32) then (0 : Int32) else a2) < (if v2 < a3 then v2 else a3) then (mb (J1_indexOfChar_4cfef a0 a1 (if a2 < (0 : Int32) then (0 : Int32) else a2) (if v2 < a3 then v2 else a3)) fun v3 =>
  mr v3) else (mr (-1 : Int32)))
set_option maxRecDepth 100000 in
set_option maxHeartbeats 4000000 in
theorem s_J1_indexOf_4cfef (G : GG) (a0 : Option Nat) (a1 : Int32) (a2 : Int32) (a3 : Int32) : Sn G yJ1_indexOf_4cfef cJ1_indexOf_4cfef 4 (some FieldType.int) 1 25 (fun v : Int32 => some (.int v)) (J1_indexOf_4cfef a0 a1 a2 a3) 0 [some (va_rf a0), some (.int a1), some (.int a2), some (.int a3)] [] := by
  unfold J1_indexOf_4cfef
  refine sn_iload_n (v := a1) (pc' := 1) dJ1_indexOf_4cfef_0 rfl rfl rfl ?_
  refine sn_cS (st := []) (As := [.int a1]) (st2 := (fun v => .int v :: [])) (pc' := 4) (c_J1_canEncode_9a6ad G a1) cw_J1_canEncode_9a6ad rfl rfl tw418 tw419 rfl rfl cat_nil rfl (fun _ => rfl) dJ1_indexOf_4cfef_1 rfl (fun v1 => ?_)
  refine sn_if_ne (pt := 9) (pf := 7) dJ1_indexOf_4cfef_4 rfl rfl ?_ ?_
  · refine sn_iconst (v := (-1 : Int32)) (pc' := 8) dJ1_indexOf_4cfef_7 rfl (by decide) ?_
    exact sn_iret dJ1_indexOf_4cfef_8 rfl rfl
  · refine sn_iload_n (v := a2) (pc' := 10) dJ1_indexOf_4cfef_9 rfl rfl rfl ?_
    refine sn_iconst (v := (0 : Int32)) (pc' := 11) dJ1_indexOf_4cfef_10 rfl (by decide) ?_
    refine sn_max (pc' := 14) rfl tw421 tw48 tw4 tw49 cat_nil rfl dJ1_indexOf_4cfef_11 rfl ?_
    refine sn_istore_n (v := (if a2 < (0 : Int32) then (0 : Int32) else a2)) (L' := [some (va_rf a0), some (.int a1), some (.int (if a2 < (0 : Int32) then (0 : Int32) else a2)), some (.int a3)]) (pc' := 15) dJ1_indexOf_4cfef_14 rfl rfl rfl rfl ?_
    refine sn_iload_n (v := a3) (pc' := 16) dJ1_indexOf_4cfef_15 rfl rfl rfl ?_
    refine sn_aload_n (v := a0) (pc' := 17) dJ1_indexOf_4cfef_16 rfl rfl rfl ?_
    refine sn_aN (pc' := 18) dJ1_indexOf_4cfef_17 rfl (fun v2 => ?_)
    refine sn_min (pc' := 21) rfl tw422 tw423 tw4 tw424 cat_nil rfl dJ1_indexOf_4cfef_18 rfl ?_
    refine sn_istore_n (v := (if v2 < a3 then v2 else a3)) (L' := [some (va_rf a0), some (.int a1), some (.int (if a2 < (0 : Int32) then (0 : Int32) else a2)), some (.int (if v2 < a3 then v2 else a3))]) (pc' := 22) dJ1_indexOf_4cfef_21 rfl rfl rfl rfl ?_
    refine sn_iload_n (v := (if a2 < (0 : Int32) then (0 : Int32) else a2)) (pc' := 23) dJ1_indexOf_4cfef_22 rfl rfl rfl ?_
    refine sn_iload_n (v := (if v2 < a3 then v2 else a3)) (pc' := 24) dJ1_indexOf_4cfef_23 rfl rfl rfl ?_
    refine sn_ic_lt (pt := 29) (pf := 27) dJ1_indexOf_4cfef_24 rfl rfl ?_ ?_
    · refine sn_aload_n (v := a0) (pc' := 30) dJ1_indexOf_4cfef_29 rfl rfl rfl ?_
      refine sn_iload_n (v := a1) (pc' := 31) dJ1_indexOf_4cfef_30 rfl rfl rfl ?_
      refine sn_iload_n (v := (if a2 < (0 : Int32) then (0 : Int32) else a2)) (pc' := 32) dJ1_indexOf_4cfef_31 rfl rfl rfl ?_
      refine sn_iload_n (v := (if v2 < a3 then v2 else a3)) (pc' := 33) dJ1_indexOf_4cfef_32 rfl rfl rfl ?_
      refine sn_cS (st := []) (As := [va_rf a0, .int a1, .int (if a2 < (0 : Int32) then (0 : Int32) else a2), .int (if v2 < a3 then v2 else a3)]) (st2 := (fun v => .int v :: [])) (pc' := 36) (c_J1_indexOfChar_4cfef G a0 a1 (if a2 < (0 : Int32) then (0 : Int32) else a2) (if v2 < a3 then v2 else a3)) cw_J1_indexOfChar_4cfef rfl rfl tw425 tw426 rfl rfl cat_nil rfl (fun _ => rfl) dJ1_indexOf_4cfef_33 rfl (fun v3 => ?_)
      exact sn_iret dJ1_indexOf_4cfef_36 rfl rfl
    · refine sn_iconst (v := (-1 : Int32)) (pc' := 28) dJ1_indexOf_4cfef_27 rfl (by decide) ?_
      exact sn_iret dJ1_indexOf_4cfef_28 rfl rfl
theorem c_J1_indexOf_4cfef (G : GG) (a0 : Option Nat) (a1 : Int32) (a2 : Int32) (a3 : Int32) : Cal G yJ1_indexOf_4cfef cJ1_indexOf_4cfef 4 (some FieldType.int) 1 25 (fun v : Int32 => some (.int v)) (J1_indexOf_4cfef a0 a1 a2 a3) [va_rf a0, .int a1, .int a2, .int a3] :=
  Cal.of (by decide) (cat_q (cat_i (cat_i (cat_i cat_nil)))) rfl (sn_weak (le_s (le_s (le_s (le_s le_e)))) (s_J1_indexOf_4cfef G a0 a1 a2 a3))
theorem cw_J1_indexOf_4cfef : CW yJ1_indexOf_4cfef cJ1_indexOf_4cfef 4 (some FieldType.int) 4 := ⟨tw417, tw16, by decide, by decide +kernel⟩
/-! J0_indexOf_7cf53 -/
theorem dJ0_indexOf_7cf53_0 : decode cJ0_indexOf_7cf53 0 = .ok (.aload_n 0, 1) := by decide +kernel
theorem dJ0_indexOf_7cf53_1 : decode cJ0_indexOf_7cf53 1 = .ok (.invokevirtual 492, 3) := by decide +kernel
theorem dJ0_indexOf_7cf53_4 : decode cJ0_indexOf_7cf53 4 = .ok (.ifCond .eq 19, 3) := by decide +kernel
theorem dJ0_indexOf_7cf53_7 : decode cJ0_indexOf_7cf53 7 = .ok (.aload_n 0, 1) := by decide +kernel
theorem dJ0_indexOf_7cf53_8 : decode cJ0_indexOf_7cf53 8 = .ok (.getfield 9, 3) := by decide +kernel
theorem dJ0_indexOf_7cf53_11 : decode cJ0_indexOf_7cf53 11 = .ok (.iload_n 1, 1) := by decide +kernel
theorem dJ0_indexOf_7cf53_12 : decode cJ0_indexOf_7cf53 12 = .ok (.iload_n 2, 1) := by decide +kernel
theorem dJ0_indexOf_7cf53_13 : decode cJ0_indexOf_7cf53 13 = .ok (.aload_n 0, 1) := by decide +kernel
theorem dJ0_indexOf_7cf53_14 : decode cJ0_indexOf_7cf53 14 = .ok (.invokevirtual 505, 3) := by decide +kernel
theorem dJ0_indexOf_7cf53_17 : decode cJ0_indexOf_7cf53 17 = .ok (.invokestatic 637, 3) := by decide +kernel
theorem dJ0_indexOf_7cf53_20 : decode cJ0_indexOf_7cf53 20 = .ok (.goto 16, 3) := by decide +kernel
theorem dJ0_indexOf_7cf53_36 : decode cJ0_indexOf_7cf53 36 = .ok (.ireturn, 1) := by decide +kernel
def J0_indexOf_7cf53 (this : Nat) (a1 : Int32) (a2 : Int32) : MM Int32 :=
  mb (wc 0 (some this) fun t => J0_isLatin1_aae02 t ) fun v1 =>
  if v1 = 0 then (mf) else (mb (gR 0 (some this) 0) fun v2 =>
  mb (wc 0 (some this) fun t => J0_length_8abf5 t ) fun v3 =>
  mb (J1_indexOf_4cfef v2 a1 a2 v3) fun v4 =>
  mr v4)
set_option maxRecDepth 100000 in
set_option maxHeartbeats 4000000 in
theorem s_J0_indexOf_7cf53 (G : GG) (this : Nat) (a1 : Int32) (a2 : Int32) : Sn G yJ0_indexOf_7cf53 cJ0_indexOf_7cf53 3 (some FieldType.int) 2 48 (fun v : Int32 => some (.int v)) (J0_indexOf_7cf53 this a1 a2) 0 [some (va_rf (some this)), some (.int a1), some (.int a2)] [] := by
  unfold J0_indexOf_7cf53
  refine sn_aload_n (v := (some this)) (pc' := 1) dJ0_indexOf_7cf53_0 rfl rfl rfl ?_
  refine sn_cV (r := (some this)) (st := []) (As := []) (st2 := (fun v => .int v :: [])) (pc' := 4) ci_0 (fun t => c_J0_isLatin1_aae02 G t ) cw_J0_isLatin1_aae02 rfl rfl tw402 tw404 tw403 rfl rfl cat_nil rfl (fun _ => rfl) dJ0_indexOf_7cf53_1 rfl (fun v1 => ?_)
  refine sn_if_eq (pt := 23) (pf := 7) dJ0_indexOf_7cf53_4 rfl rfl ?_ ?_
  · exact sn_mf
  · refine sn_aload_n (v := (some this)) (pc' := 8) dJ0_indexOf_7cf53_7 rfl rfl rfl ?_
    refine sn_gR (k := 0) (pc' := 11) ci_0 rfl (Or.inl tw830) dJ0_indexOf_7cf53_8 rfl (fun v2 => ?_)
    refine sn_iload_n (v := a1) (pc' := 12) dJ0_indexOf_7cf53_11 rfl rfl rfl ?_
    refine sn_iload_n (v := a2) (pc' := 13) dJ0_indexOf_7cf53_12 rfl rfl rfl ?_
    refine sn_aload_n (v := (some this)) (pc' := 14) dJ0_indexOf_7cf53_13 rfl rfl rfl ?_
    refine sn_cV (r := (some this)) (st := [.int a2, .int a1, va_rf v2]) (As := []) (st2 := (fun v => .int v :: [.int a2, .int a1, va_rf v2])) (pc' := 17) ci_0 (fun t => c_J0_length_8abf5 G t ) cw_J0_length_8abf5 rfl rfl tw407 tw409 tw408 rfl rfl (cat_i (cat_i (cat_q cat_nil))) rfl (fun _ => rfl) dJ0_indexOf_7cf53_14 rfl (fun v3 => ?_)
    refine sn_cS (st := []) (As := [va_rf v2, .int a1, .int a2, .int v3]) (st2 := (fun v => .int v :: [])) (pc' := 20) (c_J1_indexOf_4cfef G v2 a1 a2 v3) cw_J1_indexOf_4cfef rfl rfl tw415 tw416 rfl rfl cat_nil rfl (fun _ => rfl) dJ0_indexOf_7cf53_17 rfl (fun v4 => ?_)
    refine sn_goto (pc' := 36) dJ0_indexOf_7cf53_20 rfl ?_
    exact sn_iret dJ0_indexOf_7cf53_36 rfl rfl
theorem c_J0_indexOf_7cf53 (G : GG) (this : Nat) (a1 : Int32) (a2 : Int32) : Cal G yJ0_indexOf_7cf53 cJ0_indexOf_7cf53 3 (some FieldType.int) 2 48 (fun v : Int32 => some (.int v)) (J0_indexOf_7cf53 this a1 a2) [.ref this, .int a1, .int a2] :=
  Cal.of (by decide) (cat_t (cat_i (cat_i cat_nil))) rfl (sn_weak (le_s (le_s (le_s le_e))) (s_J0_indexOf_7cf53 G this a1 a2))
theorem cw_J0_indexOf_7cf53 : CW yJ0_indexOf_7cf53 cJ0_indexOf_7cf53 3 (some FieldType.int) 2 := ⟨tw401, tw13, by decide, by decide +kernel⟩
/-! J0_indexOf_0f7a4 -/
theorem dJ0_indexOf_0f7a4_0 : decode cJ0_indexOf_0f7a4 0 = .ok (.aload_n 0, 1) := by decide +kernel
theorem dJ0_indexOf_0f7a4_1 : decode cJ0_indexOf_0f7a4 1 = .ok (.iload_n 1, 1) := by decide +kernel
theorem dJ0_indexOf_0f7a4_2 : decode cJ0_indexOf_0f7a4 2 = .ok (.iconst 0, 1) := by decide +kernel
theorem dJ0_indexOf_0f7a4_3 : decode cJ0_indexOf_0f7a4 3 = .ok (.invokevirtual 633, 3) := by decide +kernel
theorem dJ0_indexOf_0f7a4_6 : decode cJ0_indexOf_0f7a4 6 = .ok (.ireturn, 1) := by decide +kernel
def J0_indexOf_0f7a4 (this : Nat) (a1 : Int32) : MM Int32 :=
  mb (wc 0 (some this) fun t => J0_indexOf_7cf53 t a1 (0 : Int32)) fun v1 =>
  mr v1
set_option maxRecDepth 100000 in
set_option maxHeartbeats 4000000 in
theorem s_J0_indexOf_0f7a4 (G : GG) (this : Nat) (a1 : Int32) : Sn G yJ0_indexOf_0f7a4 cJ0_indexOf_0f7a4 2 (some FieldType.int) 3 70 (fun v : Int32 => some (.int v)) (J0_indexOf_0f7a4 this a1) 0 [some (va_rf (some this)), some (.int a1)] [] := by
  unfold J0_indexOf_0f7a4
  refine sn_aload_n (v := (some this)) (pc' := 1) dJ0_indexOf_0f7a4_0 rfl rfl rfl ?_
  refine sn_iload_n (v := a1) (pc' := 2) dJ0_indexOf_0f7a4_1 rfl rfl rfl ?_
  refine sn_iconst (v := (0 : Int32)) (pc' := 3) dJ0_indexOf_0f7a4_2 rfl (by decide) ?_
  refine sn_cV (r := (some this)) (st := []) (As := [.int a1, .int (0 : Int32)]) (st2 := (fun v => .int v :: [])) (pc' := 6) ci_0 (fun t => c_J0_indexOf_7cf53 G t a1 (0 : Int32)) cw_J0_indexOf_7cf53 rfl rfl tw398 tw400 tw399 rfl rfl cat_nil rfl (fun _ => rfl) dJ0_indexOf_0f7a4_3 rfl (fun v1 => ?_)
  exact sn_iret dJ0_indexOf_0f7a4_6 rfl rfl
theorem c_J0_indexOf_0f7a4 (G : GG) (this : Nat) (a1 : Int32) : Cal G yJ0_indexOf_0f7a4 cJ0_indexOf_0f7a4 2 (some FieldType.int) 3 70 (fun v : Int32 => some (.int v)) (J0_indexOf_0f7a4 this a1) [.ref this, .int a1] :=
  Cal.of (by decide) (cat_t (cat_i cat_nil)) rfl (sn_weak (le_s (le_s le_e)) (s_J0_indexOf_0f7a4 G this a1))
theorem cw_J0_indexOf_0f7a4 : CW yJ0_indexOf_0f7a4 cJ0_indexOf_0f7a4 2 (some FieldType.int) 1 := ⟨tw397, tw13, by decide, by decide +kernel⟩
/-! X10_signOfWord -/
theorem dX10_signOfWord_0 : decode cX10_signOfWord 0 = .ok (.aload_n 0, 1) := by decide +kernel
theorem dX10_signOfWord_1 : decode cX10_signOfWord 1 = .ok (.iload_n 1, 1) := by decide +kernel
theorem dX10_signOfWord_2 : decode cX10_signOfWord 2 = .ok (.invokevirtual 41, 3) := by decide +kernel
theorem dX10_signOfWord_5 : decode cX10_signOfWord 5 = .ok (.istore_n 3, 1) := by decide +kernel
theorem dX10_signOfWord_6 : decode cX10_signOfWord 6 = .ok (.aload_n 0, 1) := by decide +kernel
theorem dX10_signOfWord_7 : decode cX10_signOfWord 7 = .ok (.iload_n 1, 1) := by decide +kernel
theorem dX10_signOfWord_8 : decode cX10_signOfWord 8 = .ok (.iconst 1, 1) := by decide +kernel
theorem dX10_signOfWord_9 : decode cX10_signOfWord 9 = .ok (.iadd, 1) := by decide +kernel
theorem dX10_signOfWord_10 : decode cX10_signOfWord 10 = .ok (.invokevirtual 41, 3) := by decide +kernel
theorem dX10_signOfWord_13 : decode cX10_signOfWord 13 = .ok (.istore 4, 2) := by decide +kernel
theorem dX10_signOfWord_15 : decode cX10_signOfWord 15 = .ok (.iload_n 2, 1) := by decide +kernel
theorem dX10_signOfWord_16 : decode cX10_signOfWord 16 = .ok (.iconst 2, 1) := by decide +kernel
theorem dX10_signOfWord_17 : decode cX10_signOfWord 17 = .ok (.if_icmp .ne 18, 3) := by decide +kernel
theorem dX10_signOfWord_20 : decode cX10_signOfWord 20 = .ok (.iload_n 3, 1) := by decide +kernel
theorem dX10_signOfWord_21 : decode cX10_signOfWord 21 = .ok (.bipush 112, 2) := by decide +kernel
theorem dX10_signOfWord_23 : decode cX10_signOfWord 23 = .ok (.if_icmp .ne 12, 3) := by decide +kernel
theorem dX10_signOfWord_26 : decode cX10_signOfWord 26 = .ok (.iload 4, 2) := by decide +kernel
theorem dX10_signOfWord_28 : decode cX10_signOfWord 28 = .ok (.bipush 105, 2) := by decide +kernel
theorem dX10_signOfWord_30 : decode cX10_signOfWord 30 = .ok (.if_icmp .ne 5, 3) := by decide +kernel
theorem dX10_signOfWord_33 : decode cX10_signOfWord 33 = .ok (.iconst 0, 1) := by decide +kernel
theorem dX10_signOfWord_34 : decode cX10_signOfWord 34 = .ok (.ireturn, 1) := by decide +kernel
theorem dX10_signOfWord_35 : decode cX10_signOfWord 35 = .ok (.iload_n 2, 1) := by decide +kernel
theorem dX10_signOfWord_36 : decode cX10_signOfWord 36 = .ok (.iconst 3, 1) := by decide +kernel
theorem dX10_signOfWord_37 : decode cX10_signOfWord 37 = .ok (.if_icmp .ne 31, 3) := by decide +kernel
theorem dX10_signOfWord_40 : decode cX10_signOfWord 40 = .ok (.iload_n 3, 1) := by decide +kernel
theorem dX10_signOfWord_41 : decode cX10_signOfWord 41 = .ok (.bipush 99, 2) := by decide +kernel
theorem dX10_signOfWord_43 : decode cX10_signOfWord 43 = .ok (.if_icmp .ne 25, 3) := by decide +kernel
theorem dX10_signOfWord_46 : decode cX10_signOfWord 46 = .ok (.iload 4, 2) := by decide +kernel
theorem dX10_signOfWord_48 : decode cX10_signOfWord 48 = .ok (.bipush 104, 2) := by decide +kernel
theorem dX10_signOfWord_50 : decode cX10_signOfWord 50 = .ok (.if_icmp .ne 18, 3) := by decide +kernel
theorem dX10_signOfWord_53 : decode cX10_signOfWord 53 = .ok (.aload_n 0, 1) := by decide +kernel
theorem dX10_signOfWord_54 : decode cX10_signOfWord 54 = .ok (.iload_n 1, 1) := by decide +kernel
theorem dX10_signOfWord_55 : decode cX10_signOfWord 55 = .ok (.iconst 2, 1) := by decide +kernel
theorem dX10_signOfWord_56 : decode cX10_signOfWord 56 = .ok (.iadd, 1) := by decide +kernel
theorem dX10_signOfWord_57 : decode cX10_signOfWord 57 = .ok (.invokevirtual 41, 3) := by decide +kernel
theorem dX10_signOfWord_60 : decode cX10_signOfWord 60 = .ok (.bipush 105, 2) := by decide +kernel
theorem dX10_signOfWord_62 : decode cX10_signOfWord 62 = .ok (.if_icmp .ne 6, 3) := by decide +kernel
theorem dX10_signOfWord_65 : decode cX10_signOfWord 65 = .ok (.bipush 70, 2) := by decide +kernel
theorem dX10_signOfWord_67 : decode cX10_signOfWord 67 = .ok (.ireturn, 1) := by decide +kernel
theorem dX10_signOfWord_68 : decode cX10_signOfWord 68 = .ok (.ldc 73, 2) := by decide +kernel
theorem dX10_signOfWord_70 : decode cX10_signOfWord 70 = .ok (.iload_n 3, 1) := by decide +kernel
theorem dX10_signOfWord_71 : decode cX10_signOfWord 71 = .ok (.i2c, 1) := by decide +kernel
theorem dX10_signOfWord_72 : decode cX10_signOfWord 72 = .ok (.invokevirtual 75, 3) := by decide +kernel
theorem dX10_signOfWord_75 : decode cX10_signOfWord 75 = .ok (.istore 5, 2) := by decide +kernel
theorem dX10_signOfWord_77 : decode cX10_signOfWord 77 = .ok (.iload 5, 2) := by decide +kernel
theorem dX10_signOfWord_79 : decode cX10_signOfWord 79 = .ok (.ifCond .lt 8, 3) := by decide +kernel
theorem dX10_signOfWord_82 : decode cX10_signOfWord 82 = .ok (.iload_n 2, 1) := by decide +kernel
theorem dX10_signOfWord_83 : decode cX10_signOfWord 83 = .ok (.iconst 3, 1) := by decide +kernel
theorem dX10_signOfWord_84 : decode cX10_signOfWord 84 = .ok (.if_icmp .le 5, 3) := by decide +kernel
theorem dX10_signOfWord_87 : decode cX10_signOfWord 87 = .ok (.iconst (-1), 1) := by decide +kernel
theorem dX10_signOfWord_88 : decode cX10_signOfWord 88 = .ok (.ireturn, 1) := by decide +kernel
theorem dX10_signOfWord_89 : decode cX10_signOfWord 89 = .ok (.iload_n 1, 1) := by decide +kernel
theorem dX10_signOfWord_90 : decode cX10_signOfWord 90 = .ok (.iconst 1, 1) := by decide +kernel
theorem dX10_signOfWord_91 : decode cX10_signOfWord 91 = .ok (.iadd, 1) := by decide +kernel
theorem dX10_signOfWord_92 : decode cX10_signOfWord 92 = .ok (.istore 6, 2) := by decide +kernel
theorem dX10_signOfWord_94 : decode cX10_signOfWord 94 = .ok (.iload 6, 2) := by decide +kernel
theorem dX10_signOfWord_96 : decode cX10_signOfWord 96 = .ok (.iload_n 1, 1) := by decide +kernel
theorem dX10_signOfWord_97 : decode cX10_signOfWord 97 = .ok (.iload_n 2, 1) := by decide +kernel
theorem dX10_signOfWord_98 : decode cX10_signOfWord 98 = .ok (.iadd, 1) := by decide +kernel
theorem dX10_signOfWord_99 : decode cX10_signOfWord 99 = .ok (.if_icmp .ge 21, 3) := by decide +kernel
theorem dX10_signOfWord_102 : decode cX10_signOfWord 102 = .ok (.aload_n 0, 1) := by decide +kernel
theorem dX10_signOfWord_103 : decode cX10_signOfWord 103 = .ok (.iload 6, 2) := by decide +kernel
theorem dX10_signOfWord_105 : decode cX10_signOfWord 105 = .ok (.invokevirtual 41, 3) := by decide +kernel
theorem dX10_signOfWord_108 : decode cX10_signOfWord 108 = .ok (.iload_n 3, 1) := by decide +kernel
theorem dX10_signOfWord_109 : decode cX10_signOfWord 109 = .ok (.if_icmp .eq 5, 3) := by decide +kernel
theorem dX10_signOfWord_112 : decode cX10_signOfWord 112 = .ok (.iconst (-1), 1) := by decide +kernel
theorem dX10_signOfWord_113 : decode cX10_signOfWord 113 = .ok (.ireturn, 1) := by decide +kernel
theorem dX10_signOfWord_114 : decode cX10_signOfWord 114 = .ok (.iinc 6 1, 3) := by decide +kernel
theorem dX10_signOfWord_117 : decode cX10_signOfWord 117 = .ok (.goto (-23), 3) := by decide +kernel
theorem dX10_signOfWord_120 : decode cX10_signOfWord 120 = .ok (.iload_n 2, 1) := by decide +kernel
theorem dX10_signOfWord_121 : decode cX10_signOfWord 121 = .ok (.iconst 1, 1) := by decide +kernel
theorem dX10_signOfWord_122 : decode cX10_signOfWord 122 = .ok (.isub, 1) := by decide +kernel
theorem dX10_signOfWord_123 : decode cX10_signOfWord 123 = .ok (.ldc 73, 2) := by decide +kernel
theorem dX10_signOfWord_125 : decode cX10_signOfWord 125 = .ok (.invokevirtual 80, 3) := by decide +kernel
theorem dX10_signOfWord_128 : decode cX10_signOfWord 128 = .ok (.imul, 1) := by decide +kernel
theorem dX10_signOfWord_129 : decode cX10_signOfWord 129 = .ok (.iload 5, 2) := by decide +kernel
theorem dX10_signOfWord_131 : decode cX10_signOfWord 131 = .ok (.iadd, 1) := by decide +kernel
theorem dX10_signOfWord_132 : decode cX10_signOfWord 132 = .ok (.iconst 1, 1) := by decide +kernel
theorem dX10_signOfWord_133 : decode cX10_signOfWord 133 = .ok (.iadd, 1) := by decide +kernel
theorem dX10_signOfWord_134 : decode cX10_signOfWord 134 = .ok (.ireturn, 1) := by decide +kernel
def X10_signOfWord_120  (x2 : Int32) (x5 : Int32) : MM Int32 :=
  mb (kR 0) fun v1 =>
  mb (wc 0 v1 fun t => J0_length_8abf5 t ) fun v2 =>
  mr ((((x2 - (1 : Int32)) * v2) + x5) + (1 : Int32))
def X10_signOfWord_94_st  (k94 : Nat → Int32 → Int32 → Int32 → Int32 → Int32 → MM Int32) (this : Nat) (x1 : Int32) (x2 : Int32) (x3 : Int32) (x5 : Int32) (x6 : Int32) : MM Int32 :=
  if (x1 + x2) ≤ x6 then ((X10_signOfWord_120 x2 x5)) else (mb (wc 11 (some this) fun t => X10_byteAt t x6) fun v1 =>
  if v1 = x3 then ((k94 this x1 x2 x3 x5 (x6 + (1 : Int32)))) else (mr (-1 : Int32)))
def X10_signOfWord_94  : Nat → Nat → Int32 → Int32 → Int32 → Int32 → Int32 → MM Int32
  | 0 => fun _ _ _ _ _ _ => mf
  | n + 1 => fun this x1 x2 x3 x5 x6 => X10_signOfWord_94_st  (X10_signOfWord_94  n) this x1 x2 x3 x5 x6
def X10_signOfWord_68  (this : Nat) (x1 : Int32) (x2 : Int32) (x3 : Int32) : MM Int32 :=
  mb (kR 0) fun v1 =>
  mb (wc 0 v1 fun t => J0_indexOf_0f7a4 t (((x3).toUInt32 % 65536).toInt32)) fun v2 =>
  if v2 < 0 then (mr (-1 : Int32)) else (if x2 ≤ (3 : Int32) then ((X10_signOfWord_94 LFU this x1 x2 x3 v2 (x1 + (1 : Int32)))) else (mr (-1 : Int32)))
def X10_signOfWord_35  (this : Nat) (x1 : Int32) (x2 : Int32) (x3 : Int32) (x4 : Int32) : MM Int32 :=
  if x2 = (3 : Int32) then (if x3 = (99 : Int32) then (if x4 = (104 : Int32) then (mb (wc 11 (some this) fun t => X10_byteAt t (x1 + (2 : Int32))) fun v1 =>
  if v1 = (105 : Int32) then (mr (70 : Int32)) else ((X10_signOfWord_68 this x1 x2 x3))) else ((X10_signOfWord_68 this x1 x2 x3))) else ((X10_signOfWord_68 this x1 x2 x3))) else ((X10_signOfWord_68 this x1 x2 x3))
def X10_signOfWord (this : Nat) (a1 : Int32) (a2 : Int32) : MM Int32 :=
  mb (wc 11 (some this) fun t => X10_byteAt t a1) fun v1 =>
  mb (wc 11 (some this) fun t => X10_byteAt t (a1 + (1 : Int32))) fun v2 =>
  if a2 = (2 : Int32) then (if v1 = (112 : Int32) then (if v2 = (105 : Int32) then (mr (0 : Int32)) else ((X10_signOfWord_35 this a1 a2 v1 v2))) else ((X10_signOfWord_35 this a1 a2 v1 v2))) else ((X10_signOfWord_35 this a1 a2 v1 v2))
set_option maxRecDepth 100000 in
set_option maxHeartbeats 4000000 in
theorem s_X10_signOfWord_120 (G : GG)   (x2 : Int32) (x5 : Int32) : Sn G yX10_signOfWord cX10_signOfWord 7 (some FieldType.int) 4 91 (fun v : Int32 => some (.int v)) (X10_signOfWord_120  x2 x5) 120 [none, none, some (.int x2), none, none, some (.int x5), none] [] := by
  unfold X10_signOfWord_120
  refine sn_iload_n (v := x2) (pc' := 121) dX10_signOfWord_120 rfl rfl rfl ?_
  refine sn_iconst (v := (1 : Int32)) (pc' := 122) dX10_signOfWord_121 rfl (by decide) ?_
  refine sn_isub (pc' := 123) dX10_signOfWord_122 rfl ?_
  refine sn_kS (i := 0) (pc' := 125) (tx := "abcdefghiklmnopqrstvxyz") (by decide +kernel) dX10_signOfWord_123 rfl (fun v1 => ?_)
  refine sn_cV (r := v1) (st := [.int (x2 - (1 : Int32))]) (As := []) (st2 := (fun v => .int v :: [.int (x2 - (1 : Int32))])) (pc' := 128) ci_0 (fun t => c_J0_length_8abf5 G t ) cw_J0_length_8abf5 rfl rfl tw477 tw409 tw408 rfl rfl (cat_i cat_nil) rfl (fun _ => rfl) dX10_signOfWord_125 rfl (fun v2 => ?_)
  refine sn_imul (pc' := 129) dX10_signOfWord_128 rfl ?_
  refine sn_iload (v := x5) (pc' := 131) dX10_signOfWord_129 rfl rfl ?_
  refine sn_iadd (pc' := 132) dX10_signOfWord_131 rfl ?_
  refine sn_iconst (v := (1 : Int32)) (pc' := 133) dX10_signOfWord_132 rfl (by decide) ?_
  refine sn_iadd (pc' := 134) dX10_signOfWord_133 rfl ?_
  exact sn_iret dX10_signOfWord_134 rfl rfl
set_option maxRecDepth 100000 in
set_option maxHeartbeats 4000000 in
theorem s_X10_signOfWord_94_st (G : GG)   (k94 : Nat → Int32 → Int32 → Int32 → Int32 → Int32 → MM Int32) (hk94 : ∀ (this : Nat) (x1 : Int32) (x2 : Int32) (x3 : Int32) (x5 : Int32) (x6 : Int32), Sn G yX10_signOfWord cX10_signOfWord 7 (some FieldType.int) 4 91 (fun v : Int32 => some (.int v)) (k94 this x1 x2 x3 x5 x6) 94 [some (va_rf (some this)), some (.int x1), some (.int x2), some (.int x3), none, some (.int x5), some (.int x6)] []) (this : Nat) (x1 : Int32) (x2 : Int32) (x3 : Int32) (x5 : Int32) (x6 : Int32) : Sn G yX10_signOfWord cX10_signOfWord 7 (some FieldType.int) 4 91 (fun v : Int32 => some (.int v)) (X10_signOfWord_94_st  k94 this x1 x2 x3 x5 x6) 94 [some (va_rf (some this)), some (.int x1), some (.int x2), some (.int x3), none, some (.int x5), some (.int x6)] [] := by
  unfold X10_signOfWord_94_st
  refine sn_iload (v := x6) (pc' := 96) dX10_signOfWord_94 rfl rfl ?_
  refine sn_iload_n (v := x1) (pc' := 97) dX10_signOfWord_96 rfl rfl rfl ?_
  refine sn_iload_n (v := x2) (pc' := 98) dX10_signOfWord_97 rfl rfl rfl ?_
  refine sn_iadd (pc' := 99) dX10_signOfWord_98 rfl ?_
  refine sn_ic_ge (pt := 120) (pf := 102) dX10_signOfWord_99 rfl rfl ?_ ?_
  · exact sn_weak (le_n (le_n (le_s (le_n (le_n (le_s (le_n le_e))))))) (s_X10_signOfWord_120 G x2 x5)
  · refine sn_aload_n (v := (some this)) (pc' := 103) dX10_signOfWord_102 rfl rfl rfl ?_
    refine sn_iload (v := x6) (pc' := 105) dX10_signOfWord_103 rfl rfl ?_
    refine sn_cV (r := (some this)) (st := []) (As := [.int x6]) (st2 := (fun v => .int v :: [])) (pc' := 108) ci_11 (fun t => c_X10_byteAt G t x6) cw_X10_byteAt rfl rfl tw372 pw4 tw374 rfl rfl cat_nil rfl (fun _ => rfl) dX10_signOfWord_105 rfl (fun v1 => ?_)
    refine sn_iload_n (v := x3) (pc' := 109) dX10_signOfWord_108 rfl rfl rfl ?_
    refine sn_ic_eq (pt := 114) (pf := 112) dX10_signOfWord_109 rfl rfl ?_ ?_
    · refine sn_iinc (v := x6) (w := 1) (L' := [some (va_rf (some this)), some (.int x1), some (.int x2), some (.int x3), none, some (.int x5), some (.int (x6 + (1 : Int32)))]) (pc' := 117) dX10_signOfWord_114 rfl rfl rfl (by decide) rfl ?_
      refine sn_goto (pc' := 94) dX10_signOfWord_117 rfl ?_
      exact sn_weak (le_s (le_s (le_s (le_s (le_n (le_s (le_s le_e))))))) (hk94 this x1 x2 x3 x5 (x6 + (1 : Int32)))
    · refine sn_iconst (v := (-1 : Int32)) (pc' := 113) dX10_signOfWord_112 rfl (by decide) ?_
      exact sn_iret dX10_signOfWord_113 rfl rfl
set_option maxRecDepth 100000 in
set_option maxHeartbeats 4000000 in
theorem s_X10_signOfWord_94 (G : GG)   : ∀ (n : Nat) (this : Nat) (x1 : Int32) (x2 : Int32) (x3 : Int32) (x5 : Int32) (x6 : Int32), Sn G yX10_signOfWord cX10_signOfWord 7 (some FieldType.int) 4 91 (fun v : Int32 => some (.int v)) (X10_signOfWord_94  n this x1 x2 x3 x5 x6) 94 [some (va_rf (some this)), some (.int x1), some (.int x2), some (.int x3), none, some (.int x5), some (.int x6)] [] := by
  intro n
  induction n with
  | zero => intro this x1 x2 x3 x5 x6; exact sn_mf
  | succ n ih => intro this x1 x2 x3 x5 x6; exact s_X10_signOfWord_94_st G   (X10_signOfWord_94  n) ih this x1 x2 x3 x5 x6
set_option maxRecDepth 100000 in
set_option maxHeartbeats 4000000 in
theorem s_X10_signOfWord_68 (G : GG)   (this : Nat) (x1 : Int32) (x2 : Int32) (x3 : Int32) : Sn G yX10_signOfWord cX10_signOfWord 7 (some FieldType.int) 4 91 (fun v : Int32 => some (.int v)) (X10_signOfWord_68  this x1 x2 x3) 68 [some (va_rf (some this)), some (.int x1), some (.int x2), some (.int x3), none, none, none] [] := by
  unfold X10_signOfWord_68
  refine sn_kS (i := 0) (pc' := 70) (tx := "abcdefghiklmnopqrstvxyz") (by decide +kernel) dX10_signOfWord_68 rfl (fun v1 => ?_)
  refine sn_iload_n (v := x3) (pc' := 71) dX10_signOfWord_70 rfl rfl rfl ?_
  refine sn_i2c (pc' := 72) dX10_signOfWord_71 rfl ?_
  refine sn_cV (r := v1) (st := []) (As := [.int (((x3).toUInt32 % 65536).toInt32)]) (st2 := (fun v => .int v :: [])) (pc' := 75) ci_0 (fun t => c_J0_indexOf_0f7a4 G t (((x3).toUInt32 % 65536).toInt32)) cw_J0_indexOf_0f7a4 rfl rfl tw394 tw396 tw395 rfl rfl cat_nil rfl (fun _ => rfl) dX10_signOfWord_72 rfl (fun v2 => ?_)
  refine sn_istore (v := v2) (L' := [some (va_rf (some this)), some (.int x1), some (.int x2), some (.int x3), none, some (.int v2), none]) (pc' := 77) dX10_signOfWord_75 rfl rfl rfl ?_
  refine sn_iload (v := v2) (pc' := 79) dX10_signOfWord_77 rfl rfl ?_
  refine sn_if_lt (pt := 87) (pf := 82) dX10_signOfWord_79 rfl rfl ?_ ?_
  · refine sn_iconst (v := (-1 : Int32)) (pc' := 88) dX10_signOfWord_87 rfl (by decide) ?_
    exact sn_iret dX10_signOfWord_88 rfl rfl
  · refine sn_iload_n (v := x2) (pc' := 83) dX10_signOfWord_82 rfl rfl rfl ?_
    refine sn_iconst (v := (3 : Int32)) (pc' := 84) dX10_signOfWord_83 rfl (by decide) ?_
    refine sn_ic_le (pt := 89) (pf := 87) dX10_signOfWord_84 rfl rfl ?_ ?_
    · refine sn_iload_n (v := x1) (pc' := 90) dX10_signOfWord_89 rfl rfl rfl ?_
      refine sn_iconst (v := (1 : Int32)) (pc' := 91) dX10_signOfWord_90 rfl (by decide) ?_
      refine sn_iadd (pc' := 92) dX10_signOfWord_91 rfl ?_
      refine sn_istore (v := (x1 + (1 : Int32))) (L' := [some (va_rf (some this)), some (.int x1), some (.int x2), some (.int x3), none, some (.int v2), some (.int (x1 + (1 : Int32)))]) (pc' := 94) dX10_signOfWord_92 rfl rfl rfl ?_
      exact sn_weak (le_s (le_s (le_s (le_s (le_n (le_s (le_s le_e))))))) (s_X10_signOfWord_94 G LFU this x1 x2 x3 v2 (x1 + (1 : Int32)))
    · refine sn_iconst (v := (-1 : Int32)) (pc' := 88) dX10_signOfWord_87 rfl (by decide) ?_
      exact sn_iret dX10_signOfWord_88 rfl rfl
set_option maxRecDepth 100000 in
set_option maxHeartbeats 4000000 in
theorem s_X10_signOfWord_35 (G : GG)   (this : Nat) (x1 : Int32) (x2 : Int32) (x3 : Int32) (x4 : Int32) : Sn G yX10_signOfWord cX10_signOfWord 7 (some FieldType.int) 4 91 (fun v : Int32 => some (.int v)) (X10_signOfWord_35  this x1 x2 x3 x4) 35 [some (va_rf (some this)), some (.int x1), some (.int x2), some (.int x3), some (.int x4), none, none] [] := by
  unfold X10_signOfWord_35
  refine sn_iload_n (v := x2) (pc' := 36) dX10_signOfWord_35 rfl rfl rfl ?_
  refine sn_iconst (v := (3 : Int32)) (pc' := 37) dX10_signOfWord_36 rfl (by decide) ?_
  refine sn_ic_ne (pt := 68) (pf := 40) dX10_signOfWord_37 rfl rfl ?_ ?_
  · refine sn_iload_n (v := x3) (pc' := 41) dX10_signOfWord_40 rfl rfl rfl ?_
    refine sn_bipush (v := (99 : Int32)) (pc' := 43) dX10_signOfWord_41 rfl (by decide) ?_
    refine sn_ic_ne (pt := 68) (pf := 46) dX10_signOfWord_43 rfl rfl ?_ ?_
    · refine sn_iload (v := x4) (pc' := 48) dX10_signOfWord_46 rfl rfl ?_
      refine sn_bipush (v := (104 : Int32)) (pc' := 50) dX10_signOfWord_48 rfl (by decide) ?_
      refine sn_ic_ne (pt := 68) (pf := 53) dX10_signOfWord_50 rfl rfl ?_ ?_
      · refine sn_aload_n (v := (some this)) (pc' := 54) dX10_signOfWord_53 rfl rfl rfl ?_
        refine sn_iload_n (v := x1) (pc' := 55) dX10_signOfWord_54 rfl rfl rfl ?_
        refine sn_iconst (v := (2 : Int32)) (pc' := 56) dX10_signOfWord_55 rfl (by decide) ?_
        refine sn_iadd (pc' := 57) dX10_signOfWord_56 rfl ?_
        refine sn_cV (r := (some this)) (st := []) (As := [.int (x1 + (2 : Int32))]) (st2 := (fun v => .int v :: [])) (pc' := 60) ci_11 (fun t => c_X10_byteAt G t (x1 + (2 : Int32))) cw_X10_byteAt rfl rfl tw372 pw4 tw374 rfl rfl cat_nil rfl (fun _ => rfl) dX10_signOfWord_57 rfl (fun v1 => ?_)
        refine sn_bipush (v := (105 : Int32)) (pc' := 62) dX10_signOfWord_60 rfl (by decide) ?_
        refine sn_ic_ne (pt := 68) (pf := 65) dX10_signOfWord_62 rfl rfl ?_ ?_
        · refine sn_bipush (v := (70 : Int32)) (pc' := 67) dX10_signOfWord_65 rfl (by decide) ?_
          exact sn_iret dX10_signOfWord_67 rfl rfl
        · exact sn_weak (le_s (le_s (le_s (le_s (le_n (le_n (le_n le_e))))))) (s_X10_signOfWord_68 G this x1 x2 x3)
      · exact sn_weak (le_s (le_s (le_s (le_s (le_n (le_n (le_n le_e))))))) (s_X10_signOfWord_68 G this x1 x2 x3)
    · exact sn_weak (le_s (le_s (le_s (le_s (le_n (le_n (le_n le_e))))))) (s_X10_signOfWord_68 G this x1 x2 x3)
  · exact sn_weak (le_s (le_s (le_s (le_s (le_n (le_n (le_n le_e))))))) (s_X10_signOfWord_68 G this x1 x2 x3)
set_option maxRecDepth 100000 in
set_option maxHeartbeats 4000000 in
theorem s_X10_signOfWord (G : GG) (this : Nat) (a1 : Int32) (a2 : Int32) : Sn G yX10_signOfWord cX10_signOfWord 7 (some FieldType.int) 4 91 (fun v : Int32 => some (.int v)) (X10_signOfWord this a1 a2) 0 [some (va_rf (some this)), some (.int a1), some (.int a2), none, none, none, none] [] := by
  unfold X10_signOfWord
  refine sn_aload_n (v := (some this)) (pc' := 1) dX10_signOfWord_0 rfl rfl rfl ?_
  refine sn_iload_n (v := a1) (pc' := 2) dX10_signOfWord_1 rfl rfl rfl ?_
  refine sn_cV (r := (some this)) (st := []) (As := [.int a1]) (st2 := (fun v => .int v :: [])) (pc' := 5) ci_11 (fun t => c_X10_byteAt G t a1) cw_X10_byteAt rfl rfl tw372 pw4 tw374 rfl rfl cat_nil rfl (fun _ => rfl) dX10_signOfWord_2 rfl (fun v1 => ?_)
  refine sn_istore_n (v := v1) (L' := [some (va_rf (some this)), some (.int a1), some (.int a2), some (.int v1), none, none, none]) (pc' := 6) dX10_signOfWord_5 rfl rfl rfl rfl ?_
  refine sn_aload_n (v := (some this)) (pc' := 7) dX10_signOfWord_6 rfl rfl rfl ?_
  refine sn_iload_n (v := a1) (pc' := 8) dX10_signOfWord_7 rfl rfl rfl ?_
  refine sn_iconst (v := (1 : Int32)) (pc' := 9) dX10_signOfWord_8 rfl (by decide) ?_
  refine sn_iadd (pc' := 10) dX10_signOfWord_9 rfl ?_
  refine sn_cV (r := (some this)) (st := []) (As := [.int (a1 + (1 : Int32))]) (st2 := (fun v => .int v :: [])) (pc' := 13) ci_11 (fun t => c_X10_byteAt G t (a1 + (1 : Int32))) cw_X10_byteAt rfl rfl tw372 pw4 tw374 rfl rfl cat_nil rfl (fun _ => rfl) dX10_signOfWord_10 rfl (fun v2 => ?_)
  refine sn_istore (v := v2) (L' := [some (va_rf (some this)), some (.int a1), some (.int a2), some (.int v1), some (.int v2), none, none]) (pc' := 15) dX10_signOfWord_13 rfl rfl rfl ?_
  refine sn_iload_n (v := a2) (pc' := 16) dX10_signOfWord_15 rfl rfl rfl ?_
  refine sn_iconst (v := (2 : Int32)) (pc' := 17) dX10_signOfWord_16 rfl (by decide) ?_
  refine sn_ic_ne (pt := 35) (pf := 20) dX10_signOfWord_17 rfl rfl ?_ ?_
  · refine sn_iload_n (v := v1) (pc' := 21) dX10_signOfWord_20 rfl rfl rfl ?_
    refine sn_bipush (v := (112 : Int32)) (pc' := 23) dX10_signOfWord_21 rfl (by decide) ?_
    refine sn_ic_ne (pt := 35) (pf := 26) dX10_signOfWord_23 rfl rfl ?_ ?_
    · refine sn_iload (v := v2) (pc' := 28) dX10_signOfWord_26 rfl rfl ?_
      refine sn_bipush (v := (105 : Int32)) (pc' := 30) dX10_signOfWord_28 rfl (by decide) ?_
      refine sn_ic_ne (pt := 35) (pf := 33) dX10_signOfWord_30 rfl rfl ?_ ?_
      · refine sn_iconst (v := (0 : Int32)) (pc' := 34) dX10_signOfWord_33 rfl (by decide) ?_
        exact sn_iret dX10_signOfWord_34 rfl rfl
      · exact sn_weak (le_s (le_s (le_s (le_s (le_s (le_n (le_n le_e))))))) (s_X10_signOfWord_35 G this a1 a2 v1 v2)
    · exact sn_weak (le_s (le_s (le_s (le_s (le_s (le_n (le_n le_e))))))) (s_X10_signOfWord_35 G this a1 a2 v1 v2)
  · exact sn_weak (le_s (le_s (le_s (le_s (le_s (le_n (le_n le_e))))))) (s_X10_signOfWord_35 G this a1 a2 v1 v2)
theorem c_X10_signOfWord (G : GG) (this : Nat) (a1 : Int32) (a2 : Int32) : Cal G yX10_signOfWord cX10_signOfWord 7 (some FieldType.int) 4 91 (fun v : Int32 => some (.int v)) (X10_signOfWord this a1 a2) [.ref this, .int a1, .int a2] :=
  Cal.of (by decide) (cat_t (cat_i (cat_i cat_nil))) rfl (sn_weak (le_s (le_s (le_s (le_z (le_z (le_z (le_z le_e))))))) (s_X10_signOfWord G this a1 a2))
theorem cw_X10_signOfWord : CW yX10_signOfWord cX10_signOfWord 7 (some FieldType.int) 2 := ⟨tw392, tw2, by decide, by decide +kernel⟩
/-! X10_valueOfNumber -/
theorem dX10_valueOfNumber_0 : decode cX10_valueOfNumber 0 = .ok (.iconst 0, 1) := by decide +kernel
theorem dX10_valueOfNumber_1 : decode cX10_valueOfNumber 1 = .ok (.istore_n 3, 1) := by decide +kernel
theorem dX10_valueOfNumber_2 : decode cX10_valueOfNumber 2 = .ok (.iload_n 1, 1) := by decide +kernel
theorem dX10_valueOfNumber_3 : decode cX10_valueOfNumber 3 = .ok (.istore 4, 2) := by decide +kernel
theorem dX10_valueOfNumber_5 : decode cX10_valueOfNumber 5 = .ok (.iload 4, 2) := by decide +kernel
theorem dX10_valueOfNumber_7 : decode cX10_valueOfNumber 7 = .ok (.iload_n 1, 1) := by decide +kernel
theorem dX10_valueOfNumber_8 : decode cX10_valueOfNumber 8 = .ok (.iload_n 2, 1) := by decide +kernel
theorem dX10_valueOfNumber_9 : decode cX10_valueOfNumber 9 = .ok (.iadd, 1) := by decide +kernel
theorem dX10_valueOfNumber_10 : decode cX10_valueOfNumber 10 = .ok (.if_icmp .ge 24, 3) := by decide +kernel
theorem dX10_valueOfNumber_13 : decode cX10_valueOfNumber 13 = .ok (.iload_n 3, 1) := by decide +kernel
theorem dX10_valueOfNumber_14 : decode cX10_valueOfNumber 14 = .ok (.bipush 10, 2) := by decide +kernel
theorem dX10_valueOfNumber_16 : decode cX10_valueOfNumber 16 = .ok (.imul, 1) := by decide +kernel
theorem dX10_valueOfNumber_17 : decode cX10_valueOfNumber 17 = .ok (.aload_n 0, 1) := by decide +kernel
theorem dX10_valueOfNumber_18 : decode cX10_valueOfNumber 18 = .ok (.iload 4, 2) := by decide +kernel
theorem dX10_valueOfNumber_20 : decode cX10_valueOfNumber 20 = .ok (.invokevirtual 41, 3) := by decide +kernel
theorem dX10_valueOfNumber_23 : decode cX10_valueOfNumber 23 = .ok (.iadd, 1) := by decide +kernel
theorem dX10_valueOfNumber_24 : decode cX10_valueOfNumber 24 = .ok (.bipush 48, 2) := by decide +kernel
theorem dX10_valueOfNumber_26 : decode cX10_valueOfNumber 26 = .ok (.isub, 1) := by decide +kernel
theorem dX10_valueOfNumber_27 : decode cX10_valueOfNumber 27 = .ok (.istore_n 3, 1) := by decide +kernel
theorem dX10_valueOfNumber_28 : decode cX10_valueOfNumber 28 = .ok (.iinc 4 1, 3) := by decide +kernel
theorem dX10_valueOfNumber_31 : decode cX10_valueOfNumber 31 = .ok (.goto (-26), 3) := by decide +kernel
theorem dX10_valueOfNumber_34 : decode cX10_valueOfNumber 34 = .ok (.iload_n 3, 1) := by decide +kernel
theorem dX10_valueOfNumber_35 : decode cX10_valueOfNumber 35 = .ok (.ireturn, 1) := by decide +kernel
def X10_valueOfNumber_5_st  (k5 : Nat → Int32 → Int32 → Int32 → Int32 → MM Int32) (this : Nat) (x1 : Int32) (x2 : Int32) (x3 : Int32) (x4 : Int32) : MM Int32 :=
  if (x1 + x2) ≤ x4 then (mr x3) else (mb (wc 11 (some this) fun t => X10_byteAt t x4) fun v1 =>
  (k5 this x1 x2 (((x3 * (10 : Int32)) + v1) - (48 : Int32)) (x4 + (1 : Int32))))
def X10_valueOfNumber_5  : Nat → Nat → Int32 → Int32 → Int32 → Int32 → MM Int32
  | 0 => fun _ _ _ _ _ => mf
  | n + 1 => fun this x1 x2 x3 x4 => X10_valueOfNumber_5_st  (X10_valueOfNumber_5  n) this x1 x2 x3 x4
def X10_valueOfNumber (this : Nat) (a1 : Int32) (a2 : Int32) : MM Int32 :=
  (X10_valueOfNumber_5 LFU this a1 a2 (0 : Int32) a1)
set_option maxRecDepth 100000 in
set_option maxHeartbeats 4000000 in
theorem s_X10_valueOfNumber_5_st (G : GG)   (k5 : Nat → Int32 → Int32 → Int32 → Int32 → MM Int32) (hk5 : ∀ (this : Nat) (x1 : Int32) (x2 : Int32) (x3 : Int32) (x4 : Int32), Sn G yX10_valueOfNumber cX10_valueOfNumber 5 (some FieldType.int) 1 21 (fun v : Int32 => some (.int v)) (k5 this x1 x2 x3 x4) 5 [some (va_rf (some this)), some (.int x1), some (.int x2), some (.int x3), some (.int x4)] []) (this : Nat) (x1 : Int32) (x2 : Int32) (x3 : Int32) (x4 : Int32) : Sn G yX10_valueOfNumber cX10_valueOfNumber 5 (some FieldType.int) 1 21 (fun v : Int32 => some (.int v)) (X10_valueOfNumber_5_st  k5 this x1 x2 x3 x4) 5 [some (va_rf (some this)), some (.int x1), some (.int x2), some (.int x3), some (.int x4)] [] := by
  unfold X10_valueOfNumber_5_st
  refine sn_iload (v := x4) (pc' := 7) dX10_valueOfNumber_5 rfl rfl ?_
  refine sn_iload_n (v := x1) (pc' := 8) dX10_valueOfNumber_7 rfl rfl rfl ?_
  refine sn_iload_n (v := x2) (pc' := 9) dX10_valueOfNumber_8 rfl rfl rfl ?_
  refine sn_iadd (pc' := 10) dX10_valueOfNumber_9 rfl ?_
  refine sn_ic_ge (pt := 34) (pf := 13) dX10_valueOfNumber_10 rfl rfl ?_ ?_
  · refine sn_iload_n (v := x3) (pc' := 35) dX10_valueOfNumber_34 rfl rfl rfl ?_
    exact sn_iret dX10_valueOfNumber_35 rfl rfl
  · refine sn_iload_n (v := x3) (pc' := 14) dX10_valueOfNumber_13 rfl rfl rfl ?_
    refine sn_bipush (v := (10 : Int32)) (pc' := 16) dX10_valueOfNumber_14 rfl (by decide) ?_
    refine sn_imul (pc' := 17) dX10_valueOfNumber_16 rfl ?_
    refine sn_aload_n (v := (some this)) (pc' := 18) dX10_valueOfNumber_17 rfl rfl rfl ?_
    refine sn_iload (v := x4) (pc' := 20) dX10_valueOfNumber_18 rfl rfl ?_
    refine sn_cV (r := (some this)) (st := [.int (x3 * (10 : Int32))]) (As := [.int x4]) (st2 := (fun v => .int v :: [.int (x3 * (10 : Int32))])) (pc' := 23) ci_11 (fun t => c_X10_byteAt G t x4) cw_X10_byteAt rfl rfl tw372 pw4 tw374 rfl rfl (cat_i cat_nil) rfl (fun _ => rfl) dX10_valueOfNumber_20 rfl (fun v1 => ?_)
    refine sn_iadd (pc' := 24) dX10_valueOfNumber_23 rfl ?_
    refine sn_bipush (v := (48 : Int32)) (pc' := 26) dX10_valueOfNumber_24 rfl (by decide) ?_
    refine sn_isub (pc' := 27) dX10_valueOfNumber_26 rfl ?_
    refine sn_istore_n (v := (((x3 * (10 : Int32)) + v1) - (48 : Int32))) (L' := [some (va_rf (some this)), some (.int x1), some (.int x2), some (.int (((x3 * (10 : Int32)) + v1) - (48 : Int32))), some (.int x4)]) (pc' := 28) dX10_valueOfNumber_27 rfl rfl rfl rfl ?_
    refine sn_iinc (v := x4) (w := 1) (L' := [some (va_rf (some this)), some (.int x1), some (.int x2), some (.int (((x3 * (10 : Int32)) + v1) - (48 : Int32))), some (.int (x4 + (1 : Int32)))]) (pc' := 31) dX10_valueOfNumber_28 rfl rfl rfl (by decide) rfl ?_
    refine sn_goto (pc' := 5) dX10_valueOfNumber_31 rfl ?_
    exact sn_weak (le_s (le_s (le_s (le_s (le_s le_e))))) (hk5 this x1 x2 (((x3 * (10 : Int32)) + v1) - (48 : Int32)) (x4 + (1 : Int32)))
set_option maxRecDepth 100000 in
set_option maxHeartbeats 4000000 in
theorem s_X10_valueOfNumber_5 (G : GG)   : ∀ (n : Nat) (this : Nat) (x1 : Int32) (x2 : Int32) (x3 : Int32) (x4 : Int32), Sn G yX10_valueOfNumber cX10_valueOfNumber 5 (some FieldType.int) 1 21 (fun v : Int32 => some (.int v)) (X10_valueOfNumber_5  n this x1 x2 x3 x4) 5 [some (va_rf (some this)), some (.int x1), some (.int x2), some (.int x3), some (.int x4)] [] := by
  intro n
  induction n with
  | zero => intro this x1 x2 x3 x4; exact sn_mf
  | succ n ih => intro this x1 x2 x3 x4; exact s_X10_valueOfNumber_5_st G   (X10_valueOfNumber_5  n) ih this x1 x2 x3 x4
set_option maxRecDepth 100000 in
set_option maxHeartbeats 4000000 in
theorem s_X10_valueOfNumber (G : GG) (this : Nat) (a1 : Int32) (a2 : Int32) : Sn G yX10_valueOfNumber cX10_valueOfNumber 5 (some FieldType.int) 1 21 (fun v : Int32 => some (.int v)) (X10_valueOfNumber this a1 a2) 0 [some (va_rf (some this)), some (.int a1), some (.int a2), none, none] [] := by
  unfold X10_valueOfNumber
  refine sn_iconst (v := (0 : Int32)) (pc' := 1) dX10_valueOfNumber_0 rfl (by decide) ?_
  refine sn_istore_n (v := (0 : Int32)) (L' := [some (va_rf (some this)), some (.int a1), some (.int a2), some (.int (0 : Int32)), none]) (pc' := 2) dX10_valueOfNumber_1 rfl rfl rfl rfl ?_
  refine sn_iload_n (v := a1) (pc' := 3) dX10_valueOfNumber_2 rfl rfl rfl ?_
  refine sn_istore (v := a1) (L' := [some (va_rf (some this)), some (.int a1), some (.int a2), some (.int (0 : Int32)), some (.int a1)]) (pc' := 5) dX10_valueOfNumber_3 rfl rfl rfl ?_
  exact sn_weak (le_s (le_s (le_s (le_s (le_s le_e))))) (s_X10_valueOfNumber_5 G LFU this a1 a2 (0 : Int32) a1)
theorem c_X10_valueOfNumber (G : GG) (this : Nat) (a1 : Int32) (a2 : Int32) : Cal G yX10_valueOfNumber cX10_valueOfNumber 5 (some FieldType.int) 1 21 (fun v : Int32 => some (.int v)) (X10_valueOfNumber this a1 a2) [.ref this, .int a1, .int a2] :=
  Cal.of (by decide) (cat_t (cat_i (cat_i cat_nil))) rfl (sn_weak (le_s (le_s (le_s (le_z (le_z le_e))))) (s_X10_valueOfNumber G this a1 a2))
theorem cw_X10_valueOfNumber : CW yX10_valueOfNumber cX10_valueOfNumber 5 (some FieldType.int) 2 := ⟨tw481, tw2, by decide, by decide +kernel⟩
/-! X8_add -/
theorem dX8_add_0 : decode cX8_add 0 = .ok (.aload_n 0, 1) := by decide +kernel
theorem dX8_add_1 : decode cX8_add 1 = .ok (.getfield 21, 3) := by decide +kernel
theorem dX8_add_4 : decode cX8_add 4 = .ok (.aload_n 0, 1) := by decide +kernel
theorem dX8_add_5 : decode cX8_add 5 = .ok (.getfield 15, 3) := by decide +kernel
theorem dX8_add_8 : decode cX8_add 8 = .ok (.arraylength, 1) := by decide +kernel
theorem dX8_add_9 : decode cX8_add 9 = .ok (.if_icmp .lt 5, 3) := by decide +kernel
theorem dX8_add_12 : decode cX8_add 12 = .ok (.iconst 0, 1) := by decide +kernel
theorem dX8_add_13 : decode cX8_add 13 = .ok (.ireturn, 1) := by decide +kernel
theorem dX8_add_14 : decode cX8_add 14 = .ok (.aload_n 0, 1) := by decide +kernel
theorem dX8_add_15 : decode cX8_add 15 = .ok (.getfield 15, 3) := by decide +kernel
theorem dX8_add_18 : decode cX8_add 18 = .ok (.aload_n 0, 1) := by decide +kernel
theorem dX8_add_19 : decode cX8_add 19 = .ok (.dup, 1) := by decide +kernel
theorem dX8_add_20 : decode cX8_add 20 = .ok (.getfield 21, 3) := by decide +kernel
theorem dX8_add_23 : decode cX8_add 23 = .ok (.dup_x1, 1) := by decide +kernel
theorem dX8_add_24 : decode cX8_add 24 = .ok (.iconst 1, 1) := by decide +kernel
theorem dX8_add_25 : decode cX8_add 25 = .ok (.iadd, 1) := by decide +kernel
theorem dX8_add_26 : decode cX8_add 26 = .ok (.putfield 21, 3) := by decide +kernel
theorem dX8_add_29 : decode cX8_add 29 = .ok (.iload_n 1, 1) := by decide +kernel
theorem dX8_add_30 : decode cX8_add 30 = .ok (.iastore, 1) := by decide +kernel
theorem dX8_add_31 : decode cX8_add 31 = .ok (.iconst 1, 1) := by decide +kernel
theorem dX8_add_32 : decode cX8_add 32 = .ok (.ireturn, 1) := by decide +kernel
def X8_add (this : Nat) (a1 : Int32) : MM Int32 :=
  mb (gI 9 (some this) 1) fun v1 =>
  mb (gR 9 (some this) 0) fun v2 =>
  mb (aN v2) fun v3 =>
  if v1 < v3 then (mb (gR 9 (some this) 0) fun v4 =>
  mb (gI 9 (some this) 1) fun v5 =>
  mb (pI 9 (some this) 1 (v5 + (1 : Int32))) fun _ =>
  mb (sI v4 v5 a1) fun _ =>
  mr (1 : Int32)) else (mr (0 : Int32))
set_option maxRecDepth 100000 in
set_option maxHeartbeats 4000000 in
theorem s_X8_add (G : GG) (this : Nat) (a1 : Int32) : Sn G yX8_add cX8_add 2 (some FieldType.boolean) 0 0 (fun v : Int32 => some (.int v)) (X8_add this a1) 0 [some (va_rf (some this)), some (.int a1)] [] := by
  unfold X8_add
  refine sn_aload_n (v := (some this)) (pc' := 1) dX8_add_0 rfl rfl rfl ?_
  refine sn_gI (k := 1) (pc' := 4) ci_9 rfl (Or.inl tw51) dX8_add_1 rfl (fun v1 => ?_)
  refine sn_aload_n (v := (some this)) (pc' := 5) dX8_add_4 rfl rfl rfl ?_
  refine sn_gR (k := 0) (pc' := 8) ci_9 rfl (Or.inl tw50) dX8_add_5 rfl (fun v2 => ?_)
  refine sn_aN (pc' := 9) dX8_add_8 rfl (fun v3 => ?_)
  refine sn_ic_lt (pt := 14) (pf := 12) dX8_add_9 rfl rfl ?_ ?_
  · refine sn_aload_n (v := (some this)) (pc' := 15) dX8_add_14 rfl rfl rfl ?_
    refine sn_gR (k := 0) (pc' := 18) ci_9 rfl (Or.inl tw50) dX8_add_15 rfl (fun v4 => ?_)
    refine sn_aload_n (v := (some this)) (pc' := 19) dX8_add_18 rfl rfl rfl ?_
    refine sn_dup (pc' := 20) dX8_add_19 rfl (cat_rf _) ?_
    refine sn_gI (k := 1) (pc' := 23) ci_9 rfl (Or.inl tw51) dX8_add_20 rfl (fun v5 => ?_)
    refine sn_dup_x1 (pc' := 24) dX8_add_23 rfl rfl (cat_rf _) ?_
    refine sn_iconst (v := (1 : Int32)) (pc' := 25) dX8_add_24 rfl (by decide) ?_
    refine sn_iadd (pc' := 26) dX8_add_25 rfl ?_
    refine sn_pI (k := 1) (pc' := 29) ci_9 rfl (Or.inl tw51) (Or.inl rfl) rfl dX8_add_26 rfl (fun _ => ?_)
    refine sn_iload_n (v := a1) (pc' := 30) dX8_add_29 rfl rfl rfl ?_
    refine sn_sI (pc' := 31) dX8_add_30 rfl (fun _ => ?_)
    refine sn_iconst (v := (1 : Int32)) (pc' := 32) dX8_add_31 rfl (by decide) ?_
    exact sn_iret dX8_add_32 rfl (by decide)
  · refine sn_iconst (v := (0 : Int32)) (pc' := 13) dX8_add_12 rfl (by decide) ?_
    exact sn_iret dX8_add_13 rfl (by decide)
theorem c_X8_add (G : GG) (this : Nat) (a1 : Int32) : Cal G yX8_add cX8_add 2 (some FieldType.boolean) 0 0 (fun v : Int32 => some (.int v)) (X8_add this a1) [.ref this, .int a1] :=
  Cal.of (by decide) (cat_t (cat_i cat_nil)) rfl (sn_weak (le_s (le_s le_e)) (s_X8_add G this a1))
theorem cw_X8_add : CW yX8_add cX8_add 2 (some FieldType.boolean) 1 := ⟨tw485, tw3, by decide, by decide +kernel⟩
/-! X10_addPiece -/
theorem dX10_addPiece_0 : decode cX10_addPiece 0 = .ok (.aload_n 0, 1) := by decide +kernel
theorem dX10_addPiece_1 : decode cX10_addPiece 1 = .ok (.iload_n 1, 1) := by decide +kernel
theorem dX10_addPiece_2 : decode cX10_addPiece 2 = .ok (.invokevirtual 41, 3) := by decide +kernel
theorem dX10_addPiece_5 : decode cX10_addPiece 5 = .ok (.istore_n 3, 1) := by decide +kernel
theorem dX10_addPiece_6 : decode cX10_addPiece 6 = .ok (.iload_n 3, 1) := by decide +kernel
theorem dX10_addPiece_7 : decode cX10_addPiece 7 = .ok (.invokestatic 64, 3) := by decide +kernel
theorem dX10_addPiece_10 : decode cX10_addPiece 10 = .ok (.ifCond .eq 7, 3) := by decide +kernel
theorem dX10_addPiece_13 : decode cX10_addPiece 13 = .ok (.iload_n 3, 1) := by decide +kernel
theorem dX10_addPiece_14 : decode cX10_addPiece 14 = .ok (.goto 4, 3) := by decide +kernel
theorem dX10_addPiece_17 : decode cX10_addPiece 17 = .ok (.iconst 3, 1) := by decide +kernel
theorem dX10_addPiece_18 : decode cX10_addPiece 18 = .ok (.istore 4, 2) := by decide +kernel
theorem dX10_addPiece_20 : decode cX10_addPiece 20 = .ok (.iconst 0, 1) := by decide +kernel
theorem dX10_addPiece_21 : decode cX10_addPiece 21 = .ok (.istore 5, 2) := by decide +kernel
theorem dX10_addPiece_23 : decode cX10_addPiece 23 = .ok (.iload_n 3, 1) := by decide +kernel
theorem dX10_addPiece_24 : decode cX10_addPiece 24 = .ok (.invokestatic 58, 3) := by decide +kernel
theorem dX10_addPiece_27 : decode cX10_addPiece 27 = .ok (.ifCond .eq 27, 3) := by decide +kernel
theorem dX10_addPiece_30 : decode cX10_addPiece 30 = .ok (.aload_n 0, 1) := by decide +kernel
theorem dX10_addPiece_31 : decode cX10_addPiece 31 = .ok (.iload_n 1, 1) := by decide +kernel
theorem dX10_addPiece_32 : decode cX10_addPiece 32 = .ok (.iload_n 2, 1) := by decide +kernel
theorem dX10_addPiece_33 : decode cX10_addPiece 33 = .ok (.invokevirtual 67, 3) := by decide +kernel
theorem dX10_addPiece_36 : decode cX10_addPiece 36 = .ok (.istore 5, 2) := by decide +kernel
theorem dX10_addPiece_38 : decode cX10_addPiece 38 = .ok (.iload 5, 2) := by decide +kernel
theorem dX10_addPiece_40 : decode cX10_addPiece 40 = .ok (.iconst (-1), 1) := by decide +kernel
theorem dX10_addPiece_41 : decode cX10_addPiece 41 = .ok (.if_icmp .ne 7, 3) := by decide +kernel
theorem dX10_addPiece_44 : decode cX10_addPiece 44 = .ok (.iconst 3, 1) := by decide +kernel
theorem dX10_addPiece_45 : decode cX10_addPiece 45 = .ok (.goto 4, 3) := by decide +kernel
theorem dX10_addPiece_48 : decode cX10_addPiece 48 = .ok (.iconst 1, 1) := by decide +kernel
theorem dX10_addPiece_49 : decode cX10_addPiece 49 = .ok (.istore 4, 2) := by decide +kernel
theorem dX10_addPiece_51 : decode cX10_addPiece 51 = .ok (.goto 26, 3) := by decide +kernel
theorem dX10_addPiece_54 : decode cX10_addPiece 54 = .ok (.iload_n 3, 1) := by decide +kernel
theorem dX10_addPiece_55 : decode cX10_addPiece 55 = .ok (.invokestatic 61, 3) := by decide +kernel
theorem dX10_addPiece_58 : decode cX10_addPiece 58 = .ok (.ifCond .eq 19, 3) := by decide +kernel
theorem dX10_addPiece_61 : decode cX10_addPiece 61 = .ok (.iload_n 2, 1) := by decide +kernel
theorem dX10_addPiece_62 : decode cX10_addPiece 62 = .ok (.iconst 3, 1) := by decide +kernel
theorem dX10_addPiece_63 : decode cX10_addPiece 63 = .ok (.if_icmp .gt 14, 3) := by decide +kernel
theorem dX10_addPiece_66 : decode cX10_addPiece 66 = .ok (.aload_n 0, 1) := by decide +kernel
theorem dX10_addPiece_67 : decode cX10_addPiece 67 = .ok (.iload_n 1, 1) := by decide +kernel
theorem dX10_addPiece_68 : decode cX10_addPiece 68 = .ok (.iload_n 2, 1) := by decide +kernel
theorem dX10_addPiece_69 : decode cX10_addPiece 69 = .ok (.invokevirtual 70, 3) := by decide +kernel
theorem dX10_addPiece_72 : decode cX10_addPiece 72 = .ok (.istore 5, 2) := by decide +kernel
theorem dX10_addPiece_74 : decode cX10_addPiece 74 = .ok (.iconst 2, 1) := by decide +kernel
theorem dX10_addPiece_75 : decode cX10_addPiece 75 = .ok (.istore 4, 2) := by decide +kernel
theorem dX10_addPiece_77 : decode cX10_addPiece 77 = .ok (.aload_n 0, 1) := by decide +kernel
theorem dX10_addPiece_78 : decode cX10_addPiece 78 = .ok (.getfield 20, 3) := by decide +kernel
theorem dX10_addPiece_81 : decode cX10_addPiece 81 = .ok (.iload 4, 2) := by decide +kernel
theorem dX10_addPiece_83 : decode cX10_addPiece 83 = .ok (.invokevirtual 54, 3) := by decide +kernel
theorem dX10_addPiece_86 : decode cX10_addPiece 86 = .ok (.pop, 1) := by decide +kernel
theorem dX10_addPiece_87 : decode cX10_addPiece 87 = .ok (.aload_n 0, 1) := by decide +kernel
theorem dX10_addPiece_88 : decode cX10_addPiece 88 = .ok (.getfield 24, 3) := by decide +kernel
theorem dX10_addPiece_91 : decode cX10_addPiece 91 = .ok (.iload_n 1, 1) := by decide +kernel
theorem dX10_addPiece_92 : decode cX10_addPiece 92 = .ok (.invokevirtual 54, 3) := by decide +kernel
theorem dX10_addPiece_95 : decode cX10_addPiece 95 = .ok (.pop, 1) := by decide +kernel
theorem dX10_addPiece_96 : decode cX10_addPiece 96 = .ok (.aload_n 0, 1) := by decide +kernel
theorem dX10_addPiece_97 : decode cX10_addPiece 97 = .ok (.getfield 27, 3) := by decide +kernel
theorem dX10_addPiece_100 : decode cX10_addPiece 100 = .ok (.iload 5, 2) := by decide +kernel
theorem dX10_addPiece_102 : decode cX10_addPiece 102 = .ok (.invokevirtual 54, 3) := by decide +kernel
theorem dX10_addPiece_105 : decode cX10_addPiece 105 = .ok (.pop, 1) := by decide +kernel
theorem dX10_addPiece_106 : decode cX10_addPiece 106 = .ok (.return_, 1) := by decide +kernel
def X10_addPiece_77  (this : Nat) (x1 : Int32) (x4 : Int32) (x5 : Int32) : MM Unit :=
  mb (gR 11 (some this) 1) fun v1 =>
  mb (wc 9 v1 fun t => X8_add t x4) fun v2 =>
  mb (gR 11 (some this) 2) fun v3 =>
  mb (wc 9 v3 fun t => X8_add t x1) fun v4 =>
  mb (gR 11 (some this) 3) fun v5 =>
  mb (wc 9 v5 fun t => X8_add t x5) fun v6 =>
  mr ()
def X10_addPiece_49  (this : Nat) (x1 : Int32) (x5 : Int32) (y0 : Int32) : MM Unit :=
  (X10_addPiece_77 this x1 y0 x5)
def X10_addPiece_18  (this : Nat) (x1 : Int32) (x2 : Int32) (x3 : Int32) (y0 : Int32) : MM Unit :=
  mb (X10_isLetter x3) fun v1 =>
  if v1 = 0 then (mb (X10_isDigit x3) fun v2 =>
  if v2 = 0 then ((X10_addPiece_77 this x1 y0 (0 : Int32))) else (if (3 : Int32) < x2 then ((X10_addPiece_77 this x1 y0 (0 : Int32))) else (mb (wc 11 (some this) fun t => X10_valueOfNumber t x1 x2) fun v3 =>
  (X10_addPiece_77 this x1 (2 : Int32) v3)))) else (mb (wc 11 (some this) fun t => X10_signOfWord t x1 x2) fun v4 =>
  if v4 = (-1 : Int32) then ((X10_addPiece_49 this x1 v4 (3 : Int32))) else ((X10_addPiece_49 this x1 v4 (1 : Int32))))
def X10_addPiece (this : Nat) (a1 : Int32) (a2 : Int32) : MM Unit :=
  mb (wc 11 (some this) fun t => X10_byteAt t a1) fun v1 =>
  mb (X10_isMark v1) fun v2 =>
  if v2 = 0 then ((X10_addPiece_18 this a1 a2 v1 (3 : Int32))) else ((X10_addPiece_18 this a1 a2 v1 v1))
set_option maxRecDepth 100000 in
set_option maxHeartbeats 4000000 in
theorem s_X10_addPiece_77 (G : GG)   (this : Nat) (x1 : Int32) (x4 : Int32) (x5 : Int32) : Sn G yX10_addPiece cX10_addPiece 6 none 5 117 (fun _ : Unit => none) (X10_addPiece_77  this x1 x4 x5) 77 [some (va_rf (some this)), some (.int x1), none, none, some (.int x4), some (.int x5)] [] := by
  unfold X10_addPiece_77
  refine sn_aload_n (v := (some this)) (pc' := 78) dX10_addPiece_77 rfl rfl rfl ?_
  refine sn_gR (k := 1) (pc' := 81) ci_11 rfl (Or.inl tw66) dX10_addPiece_78 rfl (fun v1 => ?_)
  refine sn_iload (v := x4) (pc' := 83) dX10_addPiece_81 rfl rfl ?_
  refine sn_cV (r := v1) (st := []) (As := [.int x4]) (st2 := (fun v => .int v :: [])) (pc' := 86) ci_9 (fun t => c_X8_add G t x4) cw_X8_add rfl rfl tw482 tw484 tw483 rfl rfl cat_nil rfl (fun _ => rfl) dX10_addPiece_83 rfl (fun v2 => ?_)
  refine sn_pop (pc' := 87) dX10_addPiece_86 rfl rfl ?_
  refine sn_aload_n (v := (some this)) (pc' := 88) dX10_addPiece_87 rfl rfl rfl ?_
  refine sn_gR (k := 2) (pc' := 91) ci_11 rfl (Or.inl tw68) dX10_addPiece_88 rfl (fun v3 => ?_)
  refine sn_iload_n (v := x1) (pc' := 92) dX10_addPiece_91 rfl rfl rfl ?_
  refine sn_cV (r := v3) (st := []) (As := [.int x1]) (st2 := (fun v => .int v :: [])) (pc' := 95) ci_9 (fun t => c_X8_add G t x1) cw_X8_add rfl rfl tw482 tw484 tw483 rfl rfl cat_nil rfl (fun _ => rfl) dX10_addPiece_92 rfl (fun v4 => ?_)
  refine sn_pop (pc' := 96) dX10_addPiece_95 rfl rfl ?_
  refine sn_aload_n (v := (some this)) (pc' := 97) dX10_addPiece_96 rfl rfl rfl ?_
  refine sn_gR (k := 3) (pc' := 100) ci_11 rfl (Or.inl tw70) dX10_addPiece_97 rfl (fun v5 => ?_)
  refine sn_iload (v := x5) (pc' := 102) dX10_addPiece_100 rfl rfl ?_
  refine sn_cV (r := v5) (st := []) (As := [.int x5]) (st2 := (fun v => .int v :: [])) (pc' := 105) ci_9 (fun t => c_X8_add G t x5) cw_X8_add rfl rfl tw482 tw484 tw483 rfl rfl cat_nil rfl (fun _ => rfl) dX10_addPiece_102 rfl (fun v6 => ?_)
  refine sn_pop (pc' := 106) dX10_addPiece_105 rfl rfl ?_
  exact sn_vret dX10_addPiece_106 rfl
set_option maxRecDepth 100000 in
set_option maxHeartbeats 4000000 in
theorem s_X10_addPiece_49 (G : GG)   (this : Nat) (x1 : Int32) (x5 : Int32) (y0 : Int32) : Sn G yX10_addPiece cX10_addPiece 6 none 5 117 (fun _ : Unit => none) (X10_addPiece_49  this x1 x5 y0) 49 [some (va_rf (some this)), some (.int x1), none, none, none, some (.int x5)] [.int y0] := by
  unfold X10_addPiece_49
  refine sn_istore (v := y0) (L' := [some (va_rf (some this)), some (.int x1), none, none, some (.int y0), some (.int x5)]) (pc' := 51) dX10_addPiece_49 rfl rfl rfl ?_
  refine sn_goto (pc' := 77) dX10_addPiece_51 rfl ?_
  exact sn_weak (le_s (le_s (le_n (le_n (le_s (le_s le_e)))))) (s_X10_addPiece_77 G this x1 y0 x5)
set_option maxRecDepth 100000 in
set_option maxHeartbeats 4000000 in
theorem s_X10_addPiece_18 (G : GG)   (this : Nat) (x1 : Int32) (x2 : Int32) (x3 : Int32) (y0 : Int32) : Sn G yX10_addPiece cX10_addPiece 6 none 5 117 (fun _ : Unit => none) (X10_addPiece_18  this x1 x2 x3 y0) 18 [some (va_rf (some this)), some (.int x1), some (.int x2), some (.int x3), none, none] [.int y0] := by
  unfold X10_addPiece_18
  refine sn_istore (v := y0) (L' := [some (va_rf (some this)), some (.int x1), some (.int x2), some (.int x3), some (.int y0), none]) (pc' := 20) dX10_addPiece_18 rfl rfl rfl ?_
  refine sn_iconst (v := (0 : Int32)) (pc' := 21) dX10_addPiece_20 rfl (by decide) ?_
  refine sn_istore (v := (0 : Int32)) (L' := [some (va_rf (some this)), some (.int x1), some (.int x2), some (.int x3), some (.int y0), some (.int (0 : Int32))]) (pc' := 23) dX10_addPiece_21 rfl rfl rfl ?_
  refine sn_iload_n (v := x3) (pc' := 24) dX10_addPiece_23 rfl rfl rfl ?_
  refine sn_cS (st := []) (As := [.int x3]) (st2 := (fun v => .int v :: [])) (pc' := 27) (c_X10_isLetter G x3) cw_X10_isLetter rfl rfl tw376 tw377 rfl rfl cat_nil rfl (fun _ => rfl) dX10_addPiece_24 rfl (fun v1 => ?_)
  refine sn_if_eq (pt := 54) (pf := 30) dX10_addPiece_27 rfl rfl ?_ ?_
  · refine sn_iload_n (v := x3) (pc' := 55) dX10_addPiece_54 rfl rfl rfl ?_
    refine sn_cS (st := []) (As := [.int x3]) (st2 := (fun v => .int v :: [])) (pc' := 58) (c_X10_isDigit G x3) cw_X10_isDigit rfl rfl tw379 tw380 rfl rfl cat_nil rfl (fun _ => rfl) dX10_addPiece_55 rfl (fun v2 => ?_)
    refine sn_if_eq (pt := 77) (pf := 61) dX10_addPiece_58 rfl rfl ?_ ?_
    · exact sn_weak (le_s (le_s (le_n (le_n (le_s (le_s le_e)))))) (s_X10_addPiece_77 G this x1 y0 (0 : Int32))
    · refine sn_iload_n (v := x2) (pc' := 62) dX10_addPiece_61 rfl rfl rfl ?_
      refine sn_iconst (v := (3 : Int32)) (pc' := 63) dX10_addPiece_62 rfl (by decide) ?_
      refine sn_ic_gt (pt := 77) (pf := 66) dX10_addPiece_63 rfl rfl ?_ ?_
      · exact sn_weak (le_s (le_s (le_n (le_n (le_s (le_s le_e)))))) (s_X10_addPiece_77 G this x1 y0 (0 : Int32))
      · refine sn_aload_n (v := (some this)) (pc' := 67) dX10_addPiece_66 rfl rfl rfl ?_
        refine sn_iload_n (v := x1) (pc' := 68) dX10_addPiece_67 rfl rfl rfl ?_
        refine sn_iload_n (v := x2) (pc' := 69) dX10_addPiece_68 rfl rfl rfl ?_
        refine sn_cV (r := (some this)) (st := []) (As := [.int x1, .int x2]) (st2 := (fun v => .int v :: [])) (pc' := 72) ci_11 (fun t => c_X10_valueOfNumber G t x1 x2) cw_X10_valueOfNumber rfl rfl tw478 pw7 tw480 rfl rfl cat_nil rfl (fun _ => rfl) dX10_addPiece_69 rfl (fun v3 => ?_)
        refine sn_istore (v := v3) (L' := [some (va_rf (some this)), some (.int x1), some (.int x2), some (.int x3), some (.int y0), some (.int v3)]) (pc' := 74) dX10_addPiece_72 rfl rfl rfl ?_
        refine sn_iconst (v := (2 : Int32)) (pc' := 75) dX10_addPiece_74 rfl (by decide) ?_
        refine sn_istore (v := (2 : Int32)) (L' := [some (va_rf (some this)), some (.int x1), some (.int x2), some (.int x3), some (.int (2 : Int32)), some (.int v3)]) (pc' := 77) dX10_addPiece_75 rfl rfl rfl ?_
        exact sn_weak (le_s (le_s (le_n (le_n (le_s (le_s le_e)))))) (s_X10_addPiece_77 G this x1 (2 : Int32) v3)
  · refine sn_aload_n (v := (some this)) (pc' := 31) dX10_addPiece_30 rfl rfl rfl ?_
    refine sn_iload_n (v := x1) (pc' := 32) dX10_addPiece_31 rfl rfl rfl ?_
    refine sn_iload_n (v := x2) (pc' := 33) dX10_addPiece_32 rfl rfl rfl ?_
    refine sn_cV (r := (some this)) (st := []) (As := [.int x1, .int x2]) (st2 := (fun v => .int v :: [])) (pc' := 36) ci_11 (fun t => c_X10_signOfWord G t x1 x2) cw_X10_signOfWord rfl rfl tw389 pw6 tw391 rfl rfl cat_nil rfl (fun _ => rfl) dX10_addPiece_33 rfl (fun v4 => ?_)
    refine sn_istore (v := v4) (L' := [some (va_rf (some this)), some (.int x1), some (.int x2), some (.int x3), some (.int y0), some (.int v4)]) (pc' := 38) dX10_addPiece_36 rfl rfl rfl ?_
    refine sn_iload (v := v4) (pc' := 40) dX10_addPiece_38 rfl rfl ?_
    refine sn_iconst (v := (-1 : Int32)) (pc' := 41) dX10_addPiece_40 rfl (by decide) ?_
    refine sn_ic_ne (pt := 48) (pf := 44) dX10_addPiece_41 rfl rfl ?_ ?_
    · refine sn_iconst (v := (3 : Int32)) (pc' := 45) dX10_addPiece_44 rfl (by decide) ?_
      refine sn_goto (pc' := 49) dX10_addPiece_45 rfl ?_
      exact sn_weak (le_s (le_s (le_n (le_n (le_n (le_s le_e)))))) (s_X10_addPiece_49 G this x1 v4 (3 : Int32))
    · refine sn_iconst (v := (1 : Int32)) (pc' := 49) dX10_addPiece_48 rfl (by decide) ?_
      exact sn_weak (le_s (le_s (le_n (le_n (le_n (le_s le_e)))))) (s_X10_addPiece_49 G this x1 v4 (1 : Int32))
set_option maxRecDepth 100000 in
set_option maxHeartbeats 4000000 in
theorem s_X10_addPiece (G : GG) (this : Nat) (a1 : Int32) (a2 : Int32) : Sn G yX10_addPiece cX10_addPiece 6 none 5 117 (fun _ : Unit => none) (X10_addPiece this a1 a2) 0 [some (va_rf (some this)), some (.int a1), some (.int a2), none, none, none] [] := by
  unfold X10_addPiece
  refine sn_aload_n (v := (some this)) (pc' := 1) dX10_addPiece_0 rfl rfl rfl ?_
  refine sn_iload_n (v := a1) (pc' := 2) dX10_addPiece_1 rfl rfl rfl ?_
  refine sn_cV (r := (some this)) (st := []) (As := [.int a1]) (st2 := (fun v => .int v :: [])) (pc' := 5) ci_11 (fun t => c_X10_byteAt G t a1) cw_X10_byteAt rfl rfl tw372 pw4 tw374 rfl rfl cat_nil rfl (fun _ => rfl) dX10_addPiece_2 rfl (fun v1 => ?_)
  refine sn_istore_n (v := v1) (L' := [some (va_rf (some this)), some (.int a1), some (.int a2), some (.int v1), none, none]) (pc' := 6) dX10_addPiece_5 rfl rfl rfl rfl ?_
  refine sn_iload_n (v := v1) (pc' := 7) dX10_addPiece_6 rfl rfl rfl ?_
  refine sn_cS (st := []) (As := [.int v1]) (st2 := (fun v => .int v :: [])) (pc' := 10) (c_X10_isMark G v1) cw_X10_isMark rfl rfl tw386 tw387 rfl rfl cat_nil rfl (fun _ => rfl) dX10_addPiece_7 rfl (fun v2 => ?_)
  refine sn_if_eq (pt := 17) (pf := 13) dX10_addPiece_10 rfl rfl ?_ ?_
  · refine sn_iconst (v := (3 : Int32)) (pc' := 18) dX10_addPiece_17 rfl (by decide) ?_
    exact sn_weak (le_s (le_s (le_s (le_s (le_n (le_n le_e)))))) (s_X10_addPiece_18 G this a1 a2 v1 (3 : Int32))
  · refine sn_iload_n (v := v1) (pc' := 14) dX10_addPiece_13 rfl rfl rfl ?_
    refine sn_goto (pc' := 18) dX10_addPiece_14 rfl ?_
    exact sn_weak (le_s (le_s (le_s (le_s (le_n (le_n le_e)))))) (s_X10_addPiece_18 G this a1 a2 v1 v1)
theorem c_X10_addPiece (G : GG) (this : Nat) (a1 : Int32) (a2 : Int32) : Cal G yX10_addPiece cX10_addPiece 6 none 5 117 (fun _ : Unit => none) (X10_addPiece this a1 a2) [.ref this, .int a1, .int a2] :=
  Cal.of (by decide) (cat_t (cat_i (cat_i cat_nil))) rfl (sn_weak (le_s (le_s (le_s (le_z (le_z (le_z le_e)))))) (s_X10_addPiece G this a1 a2))
theorem cw_X10_addPiece : CW yX10_addPiece cX10_addPiece 6 none 2 := ⟨tw385, tw2, by decide, by decide +kernel⟩
