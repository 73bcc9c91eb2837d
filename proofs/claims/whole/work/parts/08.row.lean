theorem tw3 : (Jvm.Cond.initialized "LeafFormula$Row") ∈ gtbl := gt_of 96 (by decide +kernel) (by decide +kernel)
theorem tw4 : (Jvm.Cond.initialized "java/lang/Math") ∈ gtbl := gt_of 97 (by decide +kernel) (by decide +kernel)
theorem tw33 : (Jvm.Cond.instanceMethod ({ cls := "java/lang/Object", name := "<init>", desc := "()V" } : Jvm.MethodName)) ∈ gtbl := gt_of 126 (by decide +kernel) (by decide +kernel)
theorem tw34 : (Jvm.Cond.code ({ cls := "java/lang/Object", name := "<init>", desc := "()V" } : Jvm.MethodName) object_method_1_code (1 : Nat) (Option.none : Option Jvm.ClassFile.FieldType)) ∈ gtbl := gt_of 127 (by decide +kernel) (by decide +kernel)
theorem tw45 : (Jvm.Cond.code ({ cls := "LeafFormula$Row", name := "<init>", desc := "(I)V" } : Jvm.MethodName) prog_10_method_1_code (2 : Nat) (Option.none : Option Jvm.ClassFile.FieldType)) ∈ gtbl := gt_of 138 (by decide +kernel) (by decide +kernel)
theorem tw46 : (Jvm.Cond.methodLink "LeafFormula$Row" (3 : Nat) ({ cls := "java/lang/Object", name := "<init>", desc := "()V" } : Jvm.MethodName)) ∈ gtbl := gt_of 139 (by decide +kernel) (by decide +kernel)
theorem tw47 : (Jvm.Cond.methodLink "LeafFormula$Row" (9 : Nat) ({ cls := "java/lang/Math", name := "max", desc := "(II)I" } : Jvm.MethodName)) ∈ gtbl := gt_of 140 (by decide +kernel) (by decide +kernel)
theorem tw48 : (Jvm.Cond.static ({ cls := "java/lang/Math", name := "max", desc := "(II)I" } : Jvm.MethodName)) ∈ gtbl := gt_of 141 (by decide +kernel) (by decide +kernel)
theorem tw49 : (Jvm.Cond.code ({ cls := "java/lang/Math", name := "max", desc := "(II)I" } : Jvm.MethodName) prog_19_method_65_code (2 : Nat) (Option.some Jvm.ClassFile.FieldType.int)) ∈ gtbl := gt_of 142 (by decide +kernel) (by decide +kernel)
theorem tw50 : (Jvm.Cond.fieldLink "LeafFormula$Row" (15 : Nat) "LeafFormula$Row" "numbers" "[I") ∈ gtbl := gt_of 143 (by decide +kernel) (by decide +kernel)
theorem tw51 : (Jvm.Cond.fieldLink "LeafFormula$Row" (21 : Nat) "LeafFormula$Row" "length" "I") ∈ gtbl := gt_of 144 (by decide +kernel) (by decide +kernel)
theorem tw64 : (Jvm.Cond.arrayClass Jvm.ClassFile.FieldType.int) ∈ gtbl := gt_of 157 (by decide +kernel) (by decide +kernel)
theorem tw355 : (Jvm.Cond.instanceMethod ({ cls := "LeafFormula$Row", name := "clear", desc := "()V" } : Jvm.MethodName)) ∈ gtbl := gt_of 448 (by decide +kernel) (by decide +kernel)
theorem tw356 : (Jvm.Cond.selects "LeafFormula$Row" ({ cls := "LeafFormula$Row", name := "clear", desc := "()V" } : Jvm.MethodName) ({ cls := "LeafFormula$Row", name := "clear", desc := "()V" } : Jvm.MethodName)) ∈ gtbl := gt_of 449 (by decide +kernel) (by decide +kernel)
theorem tw357 : (Jvm.Cond.code ({ cls := "LeafFormula$Row", name := "clear", desc := "()V" } : Jvm.MethodName) prog_10_method_4_code (1 : Nat) (Option.none : Option Jvm.ClassFile.FieldType)) ∈ gtbl := gt_of 450 (by decide +kernel) (by decide +kernel)
theorem tw483 : (Jvm.Cond.instanceMethod ({ cls := "LeafFormula$Row", name := "add", desc := "(I)Z" } : Jvm.MethodName)) ∈ gtbl := gt_of 576 (by decide +kernel) (by decide +kernel)
theorem tw484 : (Jvm.Cond.selects "LeafFormula$Row" ({ cls := "LeafFormula$Row", name := "add", desc := "(I)Z" } : Jvm.MethodName) ({ cls := "LeafFormula$Row", name := "add", desc := "(I)Z" } : Jvm.MethodName)) ∈ gtbl := gt_of 577 (by decide +kernel) (by decide +kernel)
theorem tw485 : (Jvm.Cond.code ({ cls := "LeafFormula$Row", name := "add", desc := "(I)Z" } : Jvm.MethodName) prog_10_method_2_code (2 : Nat) (Option.some Jvm.ClassFile.FieldType.boolean)) ∈ gtbl := gt_of 578 (by decide +kernel) (by decide +kernel)
theorem tw495 : (Jvm.Cond.instanceMethod ({ cls := "LeafFormula$Row", name := "get", desc := "(I)I" } : Jvm.MethodName)) ∈ gtbl := gt_of 588 (by decide +kernel) (by decide +kernel)
theorem tw496 : (Jvm.Cond.selects "LeafFormula$Row" ({ cls := "LeafFormula$Row", name := "get", desc := "(I)I" } : Jvm.MethodName) ({ cls := "LeafFormula$Row", name := "get", desc := "(I)I" } : Jvm.MethodName)) ∈ gtbl := gt_of 589 (by decide +kernel) (by decide +kernel)
theorem tw497 : (Jvm.Cond.code ({ cls := "LeafFormula$Row", name := "get", desc := "(I)I" } : Jvm.MethodName) prog_10_method_3_code (2 : Nat) (Option.some Jvm.ClassFile.FieldType.int)) ∈ gtbl := gt_of 590 (by decide +kernel) (by decide +kernel)
theorem tw981 : (Jvm.Cond.code ({ cls := "LeafFormula$Row", name := "copyFrom", desc := "(LLeafFormula$Row;)V" } : Jvm.MethodName) prog_10_method_5_code (3 : Nat) (Option.none : Option Jvm.ClassFile.FieldType)) ∈ gtbl := gt_of 1074 (by decide +kernel) (by decide +kernel)
theorem tw982 : (Jvm.Cond.methodLink "LeafFormula$Row" (25 : Nat) ({ cls := "LeafFormula$Row", name := "clear", desc := "()V" } : Jvm.MethodName)) ∈ gtbl := gt_of 1075 (by decide +kernel) (by decide +kernel)
theorem tw983 : (Jvm.Cond.methodLink "LeafFormula$Row" (28 : Nat) ({ cls := "LeafFormula$Row", name := "get", desc := "(I)I" } : Jvm.MethodName)) ∈ gtbl := gt_of 1076 (by decide +kernel) (by decide +kernel)
theorem tw984 : (Jvm.Cond.methodLink "LeafFormula$Row" (32 : Nat) ({ cls := "LeafFormula$Row", name := "add", desc := "(I)Z" } : Jvm.MethodName)) ∈ gtbl := gt_of 1077 (by decide +kernel) (by decide +kernel)
/-! X8_init -/
theorem dX8_init_0 : decode cX8_init 0 = .ok (.aload_n 0, 1) := by decide +kernel
theorem dX8_init_1 : decode cX8_init 1 = .ok (.invokespecial 3, 3) := by decide +kernel
theorem dX8_init_4 : decode cX8_init 4 = .ok (.aload_n 0, 1) := by decide +kernel
theorem dX8_init_5 : decode cX8_init 5 = .ok (.iload_n 1, 1) := by decide +kernel
theorem dX8_init_6 : decode cX8_init 6 = .ok (.iconst 0, 1) := by decide +kernel
theorem dX8_init_7 : decode cX8_init 7 = .ok (.invokestatic 9, 3) := by decide +kernel
theorem dX8_init_10 : decode cX8_init 10 = .ok (.newarray .int, 2) := by decide +kernel
theorem dX8_init_12 : decode cX8_init 12 = .ok (.putfield 15, 3) := by decide +kernel
theorem dX8_init_15 : decode cX8_init 15 = .ok (.return_, 1) := by decide +kernel
def X8_init (this : Nat) (a1 : Int32) : MM Unit :=
  wn (some this) fun _ =>
  mb (nA 0 (if a1 < (0 : Int32) then (0 : Int32) else a1)) fun v1 =>
  mb (pR 9 (some this) 0 v1) fun _ =>
  mr ()
set_option maxRecDepth 100000 in
set_option maxHeartbeats 4000000 in
theorem s_X8_init (G : GG) (this : Nat) (a1 : Int32) : Sn G yX8_init cX8_init 2 none 1 14 (fun _ : Unit => none) (X8_init this a1) 0 [some (va_rf (some this)), some (.int a1)] [] := by
  unfold X8_init
  refine sn_aload_n (v := (some this)) (pc' := 1) dX8_init_0 rfl rfl rfl ?_
  refine sn_oI (pc' := 4) rfl tw46 tw33 tw34 cat_nil rfl dX8_init_1 rfl ?_
  refine sn_aload_n (v := (some this)) (pc' := 5) dX8_init_4 rfl rfl rfl ?_
  refine sn_iload_n (v := a1) (pc' := 6) dX8_init_5 rfl rfl rfl ?_
  refine sn_iconst (v := (0 : Int32)) (pc' := 7) dX8_init_6 rfl (by decide) ?_
  refine sn_max (pc' := 10) rfl tw47 tw48 tw4 tw49 (cat_q cat_nil) rfl dX8_init_7 rfl ?_
  refine sn_nA (t := 0) (pc' := 12) rfl rfl tw64 dX8_init_10 rfl (fun v1 => ?_)
  refine sn_pR (k := 0) (pc' := 15) ci_9 rfl (Or.inl tw50) (Or.inr ⟨rfl, rfl, rfl, tw50⟩) (Or.inr ⟨_, rfl⟩) dX8_init_12 rfl (fun _ => ?_)
  exact sn_vret dX8_init_15 rfl
theorem c_X8_init (G : GG) (this : Nat) (a1 : Int32) : Cal G yX8_init cX8_init 2 none 1 14 (fun _ : Unit => none) (X8_init this a1) [.ref this, .int a1] :=
  Cal.of (by decide) (cat_t (cat_i cat_nil)) rfl (sn_weak (le_s (le_s le_e)) (s_X8_init G this a1))
theorem cw_X8_init : CW yX8_init cX8_init 2 none 1 := ⟨tw45, tw3, by decide, by decide +kernel⟩
/-! X8_add -/
theorem dX8_add_0 : decode cX8_add 0 = .ok (.aload_n 0, 1) := by decide +kernel
theorem dX8_add_1 : decode cX8_add 1 = .ok (.getfield 21, 3) := by decide +kernel
theorem dX8_add_4 : decode cX8_add 4 = .ok (.aload_n 0, 1) := by decide +kernel
theorem dX8_add_5 : decode cX8_add 5 = .ok (.getfield 15, 3) := by decide +kernel
theorem dX8_add_8 : decode cX8_add 8 = .ok (.arraylength, 1) := by decide +kernel
theorem dX8_add_9 : decode cX8_add 9 = .ok (.if_icmp .lt 5, 3) := by decide +kernel
theorem dX8_add_12 : decode cX8_add 12 = .ok (.iconst 0, 1) := by decide +kernel
theorem dX8_add_13 : decode cX8_add 13 = .ok (.ireturn, 1) := by decide +kernel
theorem dX8_add_14 : decode cX8_add 14 = .ok (.aload_n 0, 1) := by decide +kernel
theorem dX8_add_15 : decode cX8_add 15 = .ok (.getfield 15, 3) := by decide +kernel
theorem dX8_add_18 : decode cX8_add 18 = .ok (.aload_n 0, 1) := by decide +kernel
theorem dX8_add_19 : decode cX8_add 19 = .ok (.dup, 1) := by decide +kernel
theorem dX8_add_20 : decode cX8_add 20 = .ok (.getfield 21, 3) := by decide +kernel
theorem dX8_add_23 : decode cX8_add 23 = .ok (.dup_x1, 1) := by decide +kernel
theorem dX8_add_24 : decode cX8_add 24 = .ok (.iconst 1, 1) := by decide +kernel
theorem dX8_add_25 : decode cX8_add 25 = .ok (.iadd, 1) := by decide +kernel
theorem dX8_add_26 : decode cX8_add 26 = .ok (.putfield 21, 3) := by decide +kernel
theorem dX8_add_29 : decode cX8_add 29 = .ok (.iload_n 1, 1) := by decide +kernel
theorem dX8_add_30 : decode cX8_add 30 = .ok (.iastore, 1) := by decide +kernel
theorem dX8_add_31 : decode cX8_add 31 = .ok (.iconst 1, 1) := by decide +kernel
theorem dX8_add_32 : decode cX8_add 32 = .ok (.ireturn, 1) := by decide +kernel
def X8_add (this : Nat) (a1 : Int32) : MM Int32 :=
  mb (gI 9 (some this) 1) fun v1 =>
  mb (gR 9 (some this) 0) fun v2 =>
  mb (aN v2) fun v3 =>
  if v1 < v3 then (mb (gR 9 (some this) 0) fun v4 =>
  mb (gI 9 (some this) 1) fun v5 =>
  mb (pI 9 (some this) 1 (v5 + (1 : Int32))) fun _ =>
  mb (sI v4 v5 a1) fun _ =>
  mr (1 : Int32)) else (mr (0 : Int32))
set_option maxRecDepth 100000 in
set_option maxHeartbeats 4000000 in
theorem s_X8_add (G : GG) (this : Nat) (a1 : Int32) : Sn G yX8_add cX8_add 2 (some FieldType.boolean) 0 0 (fun v : Int32 => some (.int v)) (X8_add this a1) 0 [some (va_rf (some this)), some (.int a1)] [] := by
  unfold X8_add
  refine sn_aload_n (v := (some this)) (pc' := 1) dX8_add_0 rfl rfl rfl ?_
  refine sn_gI (k := 1) (pc' := 4) ci_9 rfl (Or.inl tw51) dX8_add_1 rfl (fun v1 => ?_)
  refine sn_aload_n (v := (some this)) (pc' := 5) dX8_add_4 rfl rfl rfl ?_
  refine sn_gR (k := 0) (pc' := 8) ci_9 rfl (Or.inl tw50) dX8_add_5 rfl (fun v2 => ?_)
  refine sn_aN (pc' := 9) dX8_add_8 rfl (fun v3 => ?_)
  refine sn_ic_lt (pt := 14) (pf := 12) dX8_add_9 rfl rfl ?_ ?_
  · refine sn_aload_n (v := (some this)) (pc' := 15) dX8_add_14 rfl rfl rfl ?_
    refine sn_gR (k := 0) (pc' := 18) ci_9 rfl (Or.inl tw50) dX8_add_15 rfl (fun v4 => ?_)
    refine sn_aload_n (v := (some this)) (pc' := 19) dX8_add_18 rfl rfl rfl ?_
    refine sn_dup (pc' := 20) dX8_add_19 rfl (cat_rf _) ?_
    refine sn_gI (k := 1) (pc' := 23) ci_9 rfl (Or.inl tw51) dX8_add_20 rfl (fun v5 => ?_)
    refine sn_dup_x1 (pc' := 24) dX8_add_23 rfl rfl (cat_rf _) ?_
    refine sn_iconst (v := (1 : Int32)) (pc' := 25) dX8_add_24 rfl (by decide) ?_
    refine sn_iadd (pc' := 26) dX8_add_25 rfl ?_
    refine sn_pI (k := 1) (pc' := 29) ci_9 rfl (Or.inl tw51) (Or.inl rfl) rfl dX8_add_26 rfl (fun _ => ?_)
    refine sn_iload_n (v := a1) (pc' := 30) dX8_add_29 rfl rfl rfl ?_
    refine sn_sI (pc' := 31) dX8_add_30 rfl (fun _ => ?_)
    refine sn_iconst (v := (1 : Int32)) (pc' := 32) dX8_add_31 rfl (by decide) ?_
    exact sn_iret dX8_add_32 rfl (by decide)
  · refine sn_iconst (v := (0 : Int32)) (pc' := 13) dX8_add_12 rfl (by decide) ?_
    exact sn_iret dX8_add_13 rfl (by decide)
theorem c_X8_add (G : GG) (this : Nat) (a1 : Int32) : Cal G yX8_add cX8_add 2 (some FieldType.boolean) 0 0 (fun v : Int32 => some (.int v)) (X8_add this a1) [.ref this, .int a1] :=
  Cal.of (by decide) (cat_t (cat_i cat_nil)) rfl (sn_weak (le_s (le_s le_e)) (s_X8_add G this a1))
theorem cw_X8_add : CW yX8_add cX8_add 2 (some FieldType.boolean) 1 := ⟨tw485, tw3, by decide, by decide +kernel⟩
/-! X8_get -/
theorem dX8_get_0 : decode cX8_get 0 = .ok (.iload_n 1, 1) := by decide +kernel
theorem dX8_get_1 : decode cX8_get 1 = .ok (.ifCond .lt 11, 3) := by decide +kernel
theorem dX8_get_4 : decode cX8_get 4 = .ok (.iload_n 1, 1) := by decide +kernel
theorem dX8_get_5 : decode cX8_get 5 = .ok (.aload_n 0, 1) := by decide +kernel
theorem dX8_get_6 : decode cX8_get 6 = .ok (.getfield 21, 3) := by decide +kernel
theorem dX8_get_9 : decode cX8_get 9 = .ok (.if_icmp .lt 7, 3) := by decide +kernel
theorem dX8_get_12 : decode cX8_get 12 = .ok (.iconst (-1), 1) := by decide +kernel
theorem dX8_get_13 : decode cX8_get 13 = .ok (.goto 9, 3) := by decide +kernel
theorem dX8_get_16 : decode cX8_get 16 = .ok (.aload_n 0, 1) := by decide +kernel
theorem dX8_get_17 : decode cX8_get 17 = .ok (.getfield 15, 3) := by decide +kernel
theorem dX8_get_20 : decode cX8_get 20 = .ok (.iload_n 1, 1) := by decide +kernel
theorem dX8_get_21 : decode cX8_get 21 = .ok (.iaload, 1) := by decide +kernel
theorem dX8_get_22 : decode cX8_get 22 = .ok (.ireturn, 1) := by decide +kernel
def X8_get (this : Nat) (a1 : Int32) : MM Int32 :=
  if a1 < 0 then (mr (-1 : Int32)) else (mb (gI 9 (some this) 1) fun v1 =>
  if a1 < v1 then (mb (gR 9 (some this) 0) fun v2 =>
  mb (aI v2 a1) fun v3 =>
  mr v3) else (mr (-1 : Int32)))
set_option maxRecDepth 100000 in
set_option maxHeartbeats 4000000 in
theorem s_X8_get (G : GG) (this : Nat) (a1 : Int32) : Sn G yX8_get cX8_get 2 (some FieldType.int) 0 0 (fun v : Int32 => some (.int v)) (X8_get this a1) 0 [some (va_rf (some this)), some (.int a1)] [] := by
  unfold X8_get
  refine sn_iload_n (v := a1) (pc' := 1) dX8_get_0 rfl rfl rfl ?_
  refine sn_if_lt (pt := 12) (pf := 4) dX8_get_1 rfl rfl ?_ ?_
  · refine sn_iconst (v := (-1 : Int32)) (pc' := 13) dX8_get_12 rfl (by decide) ?_
    refine sn_goto (pc' := 22) dX8_get_13 rfl ?_
    exact sn_iret dX8_get_22 rfl rfl
  · refine sn_iload_n (v := a1) (pc' := 5) dX8_get_4 rfl rfl rfl ?_
    refine sn_aload_n (v := (some this)) (pc' := 6) dX8_get_5 rfl rfl rfl ?_
    refine sn_gI (k := 1) (pc' := 9) ci_9 rfl (Or.inl tw51) dX8_get_6 rfl (fun v1 => ?_)
    refine sn_ic_lt (pt := 16) (pf := 12) dX8_get_9 rfl rfl ?_ ?_
    · refine sn_aload_n (v := (some this)) (pc' := 17) dX8_get_16 rfl rfl rfl ?_
      refine sn_gR (k := 0) (pc' := 20) ci_9 rfl (Or.inl tw50) dX8_get_17 rfl (fun v2 => ?_)
      refine sn_iload_n (v := a1) (pc' := 21) dX8_get_20 rfl rfl rfl ?_
      refine sn_aI (pc' := 22) dX8_get_21 rfl (fun v3 => ?_)
      exact sn_iret dX8_get_22 rfl rfl
    · refine sn_iconst (v := (-1 : Int32)) (pc' := 13) dX8_get_12 rfl (by decide) ?_
      refine sn_goto (pc' := 22) dX8_get_13 rfl ?_
      exact sn_iret dX8_get_22 rfl rfl
theorem c_X8_get (G : GG) (this : Nat) (a1 : Int32) : Cal G yX8_get cX8_get 2 (some FieldType.int) 0 0 (fun v : Int32 => some (.int v)) (X8_get this a1) [.ref this, .int a1] :=
  Cal.of (by decide) (cat_t (cat_i cat_nil)) rfl (sn_weak (le_s (le_s le_e)) (s_X8_get G this a1))
theorem cw_X8_get : CW yX8_get cX8_get 2 (some FieldType.int) 1 := ⟨tw497, tw3, by decide, by decide +kernel⟩
/-! X8_clear -/
theorem dX8_clear_0 : decode cX8_clear 0 = .ok (.aload_n 0, 1) := by decide +kernel
theorem dX8_clear_1 : decode cX8_clear 1 = .ok (.iconst 0, 1) := by decide +kernel
theorem dX8_clear_2 : decode cX8_clear 2 = .ok (.putfield 21, 3) := by decide +kernel
theorem dX8_clear_5 : decode cX8_clear 5 = .ok (.return_, 1) := by decide +kernel
def X8_clear (this : Nat) : MM Unit :=
  mb (pI 9 (some this) 1 (0 : Int32)) fun _ =>
  mr ()
set_option maxRecDepth 100000 in
set_option maxHeartbeats 4000000 in
theorem s_X8_clear (G : GG) (this : Nat) : Sn G yX8_clear cX8_clear 1 none 0 0 (fun _ : Unit => none) (X8_clear this) 0 [some (va_rf (some this))] [] := by
  unfold X8_clear
  refine sn_aload_n (v := (some this)) (pc' := 1) dX8_clear_0 rfl rfl rfl ?_
  refine sn_iconst (v := (0 : Int32)) (pc' := 2) dX8_clear_1 rfl (by decide) ?_
  refine sn_pI (k := 1) (pc' := 5) ci_9 rfl (Or.inl tw51) (Or.inl rfl) rfl dX8_clear_2 rfl (fun _ => ?_)
  exact sn_vret dX8_clear_5 rfl
theorem c_X8_clear (G : GG) (this : Nat) : Cal G yX8_clear cX8_clear 1 none 0 0 (fun _ : Unit => none) (X8_clear this) [.ref this] :=
  Cal.of (by decide) (cat_t cat_nil) rfl (sn_weak (le_s le_e) (s_X8_clear G this))
theorem cw_X8_clear : CW yX8_clear cX8_clear 1 none 0 := ⟨tw357, tw3, by decide, by decide +kernel⟩
/-! X8_copyFrom -/
theorem dX8_copyFrom_0 : decode cX8_copyFrom 0 = .ok (.aload_n 0, 1) := by decide +kernel
theorem dX8_copyFrom_1 : decode cX8_copyFrom 1 = .ok (.invokevirtual 25, 3) := by decide +kernel
theorem dX8_copyFrom_4 : decode cX8_copyFrom 4 = .ok (.iconst 0, 1) := by decide +kernel
theorem dX8_copyFrom_5 : decode cX8_copyFrom 5 = .ok (.istore_n 2, 1) := by decide +kernel
theorem dX8_copyFrom_6 : decode cX8_copyFrom 6 = .ok (.iload_n 2, 1) := by decide +kernel
theorem dX8_copyFrom_7 : decode cX8_copyFrom 7 = .ok (.aload_n 1, 1) := by decide +kernel
theorem dX8_copyFrom_8 : decode cX8_copyFrom 8 = .ok (.getfield 21, 3) := by decide +kernel
theorem dX8_copyFrom_11 : decode cX8_copyFrom 11 = .ok (.if_icmp .ge 19, 3) := by decide +kernel
theorem dX8_copyFrom_14 : decode cX8_copyFrom 14 = .ok (.aload_n 0, 1) := by decide +kernel
theorem dX8_copyFrom_15 : decode cX8_copyFrom 15 = .ok (.aload_n 1, 1) := by decide +kernel
theorem dX8_copyFrom_16 : decode cX8_copyFrom 16 = .ok (.iload_n 2, 1) := by decide +kernel
theorem dX8_copyFrom_17 : decode cX8_copyFrom 17 = .ok (.invokevirtual 28, 3) := by decide +kernel
theorem dX8_copyFrom_20 : decode cX8_copyFrom 20 = .ok (.invokevirtual 32, 3) := by decide +kernel
theorem dX8_copyFrom_23 : decode cX8_copyFrom 23 = .ok (.pop, 1) := by decide +kernel
theorem dX8_copyFrom_24 : decode cX8_copyFrom 24 = .ok (.iinc 2 1, 3) := by decide +kernel
theorem dX8_copyFrom_27 : decode cX8_copyFrom 27 = .ok (.goto (-21), 3) := by decide +kernel
theorem dX8_copyFrom_30 : decode cX8_copyFrom 30 = .ok (.return_, 1) := by decide +kernel
def X8_copyFrom_6_st  (k6 : Nat → Option Nat → Int32 → MM Unit) (this : Nat) (x1 : Option Nat) (x2 : Int32) : MM Unit :=
  mb (gI 9 x1 1) fun v1 =>
  if v1 ≤ x2 then (mr ()) else (mb (wc 9 x1 fun t => X8_get t x2) fun v2 =>
  mb (wc 9 (some this) fun t => X8_add t v2) fun v3 =>
  (k6 this x1 (x2 + (1 : Int32))))
def X8_copyFrom_6  : Nat → Nat → Option Nat → Int32 → MM Unit
  | 0 => fun _ _ _ => mf
  | n + 1 => fun this x1 x2 => X8_copyFrom_6_st  (X8_copyFrom_6  n) this x1 x2
def X8_copyFrom (this : Nat) (a1 : Option Nat) : MM Unit :=
  mb (wc 9 (some this) fun t => X8_clear t ) fun _ =>
  (X8_copyFrom_6 LFU this a1 (0 : Int32))
set_option maxRecDepth 100000 in
set_option maxHeartbeats 4000000 in
theorem s_X8_copyFrom_6_st (G : GG)   (k6 : Nat → Option Nat → Int32 → MM Unit) (hk6 : ∀ (this : Nat) (x1 : Option Nat) (x2 : Int32), Sn G yX8_copyFrom cX8_copyFrom 3 none 1 21 (fun _ : Unit => none) (k6 this x1 x2) 6 [some (va_rf (some this)), some (va_rf x1), some (.int x2)] []) (this : Nat) (x1 : Option Nat) (x2 : Int32) : Sn G yX8_copyFrom cX8_copyFrom 3 none 1 21 (fun _ : Unit => none) (X8_copyFrom_6_st  k6 this x1 x2) 6 [some (va_rf (some this)), some (va_rf x1), some (.int x2)] [] := by
  unfold X8_copyFrom_6_st
  refine sn_iload_n (v := x2) (pc' := 7) dX8_copyFrom_6 rfl rfl rfl ?_
  refine sn_aload_n (v := x1) (pc' := 8) dX8_copyFrom_7 rfl rfl rfl ?_
  refine sn_gI (k := 1) (pc' := 11) ci_9 rfl (Or.inl tw51) dX8_copyFrom_8 rfl (fun v1 => ?_)
  refine sn_ic_ge (pt := 30) (pf := 14) dX8_copyFrom_11 rfl rfl ?_ ?_
  · exact sn_vret dX8_copyFrom_30 rfl
  · refine sn_aload_n (v := (some this)) (pc' := 15) dX8_copyFrom_14 rfl rfl rfl ?_
    refine sn_aload_n (v := x1) (pc' := 16) dX8_copyFrom_15 rfl rfl rfl ?_
    refine sn_iload_n (v := x2) (pc' := 17) dX8_copyFrom_16 rfl rfl rfl ?_
    refine sn_cV (r := x1) (st := [va_rf (some this)]) (As := [.int x2]) (st2 := (fun v => .int v :: [va_rf (some this)])) (pc' := 20) ci_9 (fun t => c_X8_get G t x2) cw_X8_get rfl rfl tw983 tw496 tw495 rfl rfl (cat_q cat_nil) rfl (fun _ => rfl) dX8_copyFrom_17 rfl (fun v2 => ?_)
    refine sn_cV (r := (some this)) (st := []) (As := [.int v2]) (st2 := (fun v => .int v :: [])) (pc' := 23) ci_9 (fun t => c_X8_add G t v2) cw_X8_add rfl rfl tw984 tw484 tw483 rfl rfl cat_nil rfl (fun _ => rfl) dX8_copyFrom_20 rfl (fun v3 => ?_)
    refine sn_pop (pc' := 24) dX8_copyFrom_23 rfl rfl ?_
    refine sn_iinc (v := x2) (w := 1) (L' := [some (va_rf (some this)), some (va_rf x1), some (.int (x2 + (1 : Int32)))]) (pc' := 27) dX8_copyFrom_24 rfl rfl rfl (by decide) rfl ?_
    refine sn_goto (pc' := 6) dX8_copyFrom_27 rfl ?_
    exact sn_weak (le_s (le_s (le_s le_e))) (hk6 this x1 (x2 + (1 : Int32)))
set_option maxRecDepth 100000 in
set_option maxHeartbeats 4000000 in
theorem s_X8_copyFrom_6 (G : GG)   : ∀ (n : Nat) (this : Nat) (x1 : Option Nat) (x2 : Int32), Sn G yX8_copyFrom cX8_copyFrom 3 none 1 21 (fun _ : Unit => none) (X8_copyFrom_6  n this x1 x2) 6 [some (va_rf (some this)), some (va_rf x1), some (.int x2)] [] := by
  intro n
  induction n with
  | zero => intro this x1 x2; exact sn_mf
  | succ n ih => intro this x1 x2; exact s_X8_copyFrom_6_st G   (X8_copyFrom_6  n) ih this x1 x2
set_option maxRecDepth 100000 in
set_option maxHeartbeats 4000000 in
theorem s_X8_copyFrom (G : GG) (this : Nat) (a1 : Option Nat) : Sn G yX8_copyFrom cX8_copyFrom 3 none 1 21 (fun _ : Unit => none) (X8_copyFrom this a1) 0 [some (va_rf (some this)), some (va_rf a1), none] [] := by
  unfold X8_copyFrom
  refine sn_aload_n (v := (some this)) (pc' := 1) dX8_copyFrom_0 rfl rfl rfl ?_
  refine sn_cV (r := (some this)) (st := []) (As := []) (st2 := (fun _ => [])) (pc' := 4) ci_9 (fun t => c_X8_clear G t ) cw_X8_clear rfl rfl tw982 tw356 tw355 rfl rfl cat_nil rfl (fun _ => rfl) dX8_copyFrom_1 rfl (fun _ => ?_)
  refine sn_iconst (v := (0 : Int32)) (pc' := 5) dX8_copyFrom_4 rfl (by decide) ?_
  refine sn_istore_n (v := (0 : Int32)) (L' := [some (va_rf (some this)), some (va_rf a1), some (.int (0 : Int32))]) (pc' := 6) dX8_copyFrom_5 rfl rfl rfl rfl ?_
  exact sn_weak (le_s (le_s (le_s le_e))) (s_X8_copyFrom_6 G LFU this a1 (0 : Int32))
theorem c_X8_copyFrom (G : GG) (this : Nat) (a1 : Option Nat) : Cal G yX8_copyFrom cX8_copyFrom 3 none 1 21 (fun _ : Unit => none) (X8_copyFrom this a1) [.ref this, va_rf a1] :=
  Cal.of (by decide) (cat_t (cat_q cat_nil)) rfl (sn_weak (le_s (le_s (le_z le_e))) (s_X8_copyFrom G this a1))
theorem cw_X8_copyFrom : CW yX8_copyFrom cX8_copyFrom 3 none 1 := ⟨tw981, tw3, by decide, by decide +kernel⟩
