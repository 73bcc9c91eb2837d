theorem tw1760 : (Jvm.Cond.code ({ cls := "LeafFormulaModel", name := "together", desc := "(II)I" } : Jvm.MethodName) prog_14_method_83_code (7 : Nat) (Option.some Jvm.ClassFile.FieldType.int)) ∈ gtbl := gt_of 1853 (by decide +kernel) (by decide +kernel)
theorem tw1764 : (Jvm.Cond.code ({ cls := "LeafFormulaModel", name := "status", desc := "()I" } : Jvm.MethodName) prog_14_method_84_code (1 : Nat) (Option.some Jvm.ClassFile.FieldType.int)) ∈ gtbl := gt_of 1857 (by decide +kernel) (by decide +kernel)
/-! X12_together -/
theorem dX12_together_0 : decode cX12_together 0 = .ok (.aload_n 0, 1) := by decide +kernel
theorem dX12_together_1 : decode cX12_together 1 = .ok (.iload_n 1, 1) := by decide +kernel
theorem dX12_together_2 : decode cX12_together 2 = .ok (.iload_n 2, 1) := by decide +kernel
theorem dX12_together_3 : decode cX12_together 3 = .ok (.invokevirtual 378, 3) := by decide +kernel
theorem dX12_together_6 : decode cX12_together 6 = .ok (.istore_n 3, 1) := by decide +kernel
theorem dX12_together_7 : decode cX12_together 7 = .ok (.iload_n 3, 1) := by decide +kernel
theorem dX12_together_8 : decode cX12_together 8 = .ok (.ifCond .le 9, 3) := by decide +kernel
theorem dX12_together_11 : decode cX12_together 11 = .ok (.aload_n 0, 1) := by decide +kernel
theorem dX12_together_12 : decode cX12_together 12 = .ok (.iload_n 3, 1) := by decide +kernel
theorem dX12_together_13 : decode cX12_together 13 = .ok (.invokevirtual 193, 3) := by decide +kernel
theorem dX12_together_16 : decode cX12_together 16 = .ok (.ireturn, 1) := by decide +kernel
theorem dX12_together_17 : decode cX12_together 17 = .ok (.aload_n 0, 1) := by decide +kernel
theorem dX12_together_18 : decode cX12_together 18 = .ok (.getfield 14, 3) := by decide +kernel
theorem dX12_together_21 : decode cX12_together 21 = .ok (.bipush 16, 2) := by decide +kernel
theorem dX12_together_23 : decode cX12_together 23 = .ok (.if_icmp .ne 10, 3) := by decide +kernel
theorem dX12_together_26 : decode cX12_together 26 = .ok (.aload_n 0, 1) := by decide +kernel
theorem dX12_together_27 : decode cX12_together 27 = .ok (.bipush 9, 2) := by decide +kernel
theorem dX12_together_29 : decode cX12_together 29 = .ok (.invokevirtual 193, 3) := by decide +kernel
theorem dX12_together_32 : decode cX12_together 32 = .ok (.ireturn, 1) := by decide +kernel
theorem dX12_together_33 : decode cX12_together 33 = .ok (.aload_n 0, 1) := by decide +kernel
theorem dX12_together_34 : decode cX12_together 34 = .ok (.iload_n 1, 1) := by decide +kernel
theorem dX12_together_35 : decode cX12_together 35 = .ok (.aload_n 0, 1) := by decide +kernel
theorem dX12_together_36 : decode cX12_together 36 = .ok (.getfield 305, 3) := by decide +kernel
theorem dX12_together_39 : decode cX12_together 39 = .ok (.invokevirtual 381, 3) := by decide +kernel
theorem dX12_together_42 : decode cX12_together 42 = .ok (.aload_n 0, 1) := by decide +kernel
theorem dX12_together_43 : decode cX12_together 43 = .ok (.iload_n 2, 1) := by decide +kernel
theorem dX12_together_44 : decode cX12_together 44 = .ok (.aload_n 0, 1) := by decide +kernel
theorem dX12_together_45 : decode cX12_together 45 = .ok (.getfield 308, 3) := by decide +kernel
theorem dX12_together_48 : decode cX12_together 48 = .ok (.invokevirtual 381, 3) := by decide +kernel
theorem dX12_together_51 : decode cX12_together 51 = .ok (.aload_n 0, 1) := by decide +kernel
theorem dX12_together_52 : decode cX12_together 52 = .ok (.getfield 14, 3) := by decide +kernel
theorem dX12_together_55 : decode cX12_together 55 = .ok (.istore 4, 2) := by decide +kernel
theorem dX12_together_57 : decode cX12_together 57 = .ok (.iconst 0, 1) := by decide +kernel
theorem dX12_together_58 : decode cX12_together 58 = .ok (.istore 5, 2) := by decide +kernel
theorem dX12_together_60 : decode cX12_together 60 = .ok (.iconst 0, 1) := by decide +kernel
theorem dX12_together_61 : decode cX12_together 61 = .ok (.istore 6, 2) := by decide +kernel
theorem dX12_together_63 : decode cX12_together 63 = .ok (.iload 6, 2) := by decide +kernel
theorem dX12_together_65 : decode cX12_together 65 = .ok (.sipush 400, 3) := by decide +kernel
theorem dX12_together_68 : decode cX12_together 68 = .ok (.if_icmp .ge 51, 3) := by decide +kernel
theorem dX12_together_71 : decode cX12_together 71 = .ok (.aload_n 0, 1) := by decide +kernel
theorem dX12_together_72 : decode cX12_together 72 = .ok (.getfield 305, 3) := by decide +kernel
theorem dX12_together_75 : decode cX12_together 75 = .ok (.iload 6, 2) := by decide +kernel
theorem dX12_together_77 : decode cX12_together 77 = .ok (.baload, 1) := by decide +kernel
theorem dX12_together_78 : decode cX12_together 78 = .ok (.ifCond .ne 16, 3) := by decide +kernel
theorem dX12_together_81 : decode cX12_together 81 = .ok (.aload_n 0, 1) := by decide +kernel
theorem dX12_together_82 : decode cX12_together 82 = .ok (.getfield 308, 3) := by decide +kernel
theorem dX12_together_85 : decode cX12_together 85 = .ok (.iload 6, 2) := by decide +kernel
theorem dX12_together_87 : decode cX12_together 87 = .ok (.baload, 1) := by decide +kernel
theorem dX12_together_88 : decode cX12_together 88 = .ok (.ifCond .ne 6, 3) := by decide +kernel
theorem dX12_together_91 : decode cX12_together 91 = .ok (.goto 22, 3) := by decide +kernel
theorem dX12_together_94 : decode cX12_together 94 = .ok (.aload_n 0, 1) := by decide +kernel
theorem dX12_together_95 : decode cX12_together 95 = .ok (.getfield 245, 3) := by decide +kernel
theorem dX12_together_98 : decode cX12_together 98 = .ok (.iload 4, 2) := by decide +kernel
theorem dX12_together_100 : decode cX12_together 100 = .ok (.sipush 400, 3) := by decide +kernel
theorem dX12_together_103 : decode cX12_together 103 = .ok (.imul, 1) := by decide +kernel
theorem dX12_together_104 : decode cX12_together 104 = .ok (.iload 5, 2) := by decide +kernel
theorem dX12_together_106 : decode cX12_together 106 = .ok (.iadd, 1) := by decide +kernel
theorem dX12_together_107 : decode cX12_together 107 = .ok (.iload 6, 2) := by decide +kernel
theorem dX12_together_109 : decode cX12_together 109 = .ok (.iastore, 1) := by decide +kernel
theorem dX12_together_110 : decode cX12_together 110 = .ok (.iinc 5 1, 3) := by decide +kernel
theorem dX12_together_113 : decode cX12_together 113 = .ok (.iinc 6 1, 3) := by decide +kernel
theorem dX12_together_116 : decode cX12_together 116 = .ok (.goto (-53), 3) := by decide +kernel
theorem dX12_together_119 : decode cX12_together 119 = .ok (.aload_n 0, 1) := by decide +kernel
theorem dX12_together_120 : decode cX12_together 120 = .ok (.getfield 242, 3) := by decide +kernel
theorem dX12_together_123 : decode cX12_together 123 = .ok (.iload 4, 2) := by decide +kernel
theorem dX12_together_125 : decode cX12_together 125 = .ok (.iload 5, 2) := by decide +kernel
theorem dX12_together_127 : decode cX12_together 127 = .ok (.iastore, 1) := by decide +kernel
theorem dX12_together_128 : decode cX12_together 128 = .ok (.aload_n 0, 1) := by decide +kernel
theorem dX12_together_129 : decode cX12_together 129 = .ok (.getfield 236, 3) := by decide +kernel
theorem dX12_together_132 : decode cX12_together 132 = .ok (.iload 4, 2) := by decide +kernel
theorem dX12_together_134 : decode cX12_together 134 = .ok (.aload_n 0, 1) := by decide +kernel
theorem dX12_together_135 : decode cX12_together 135 = .ok (.getfield 236, 3) := by decide +kernel
theorem dX12_together_138 : decode cX12_together 138 = .ok (.iload_n 1, 1) := by decide +kernel
theorem dX12_together_139 : decode cX12_together 139 = .ok (.iaload, 1) := by decide +kernel
theorem dX12_together_140 : decode cX12_together 140 = .ok (.iastore, 1) := by decide +kernel
theorem dX12_together_141 : decode cX12_together 141 = .ok (.aload_n 0, 1) := by decide +kernel
theorem dX12_together_142 : decode cX12_together 142 = .ok (.dup, 1) := by decide +kernel
theorem dX12_together_143 : decode cX12_together 143 = .ok (.getfield 14, 3) := by decide +kernel
theorem dX12_together_146 : decode cX12_together 146 = .ok (.iconst 1, 1) := by decide +kernel
theorem dX12_together_147 : decode cX12_together 147 = .ok (.iadd, 1) := by decide +kernel
theorem dX12_together_148 : decode cX12_together 148 = .ok (.putfield 14, 3) := by decide +kernel
theorem dX12_together_151 : decode cX12_together 151 = .ok (.aload_n 0, 1) := by decide +kernel
theorem dX12_together_152 : decode cX12_together 152 = .ok (.iload 4, 2) := by decide +kernel
theorem dX12_together_154 : decode cX12_together 154 = .ok (.invokevirtual 199, 3) := by decide +kernel
theorem dX12_together_157 : decode cX12_together 157 = .ok (.ireturn, 1) := by decide +kernel
def X12_together_113 (k63 : Nat → Int32 → Int32 → Int32 → Int32 → MM Int32) (this : Nat) (x1 : Int32) (x4 : Int32) (x5 : Int32) (x6 : Int32) : MM Int32 :=
  (k63 this x1 x4 x5 (x6 + (1 : Int32)))
def X12_together_94 (k63 : Nat → Int32 → Int32 → Int32 → Int32 → MM Int32) (this : Nat) (x1 : Int32) (x4 : Int32) (x5 : Int32) (x6 : Int32) : MM Int32 :=
  mb (gR 13 (some this) 18) fun v1 =>
  mb (sI v1 ((x4 * (400 : Int32)) + x5) x6) fun _ =>
  (X12_together_113 k63 this x1 x4 (x5 + (1 : Int32)) x6)
def X12_together_119  (this : Nat) (x1 : Int32) (x4 : Int32) (x5 : Int32) : MM Int32 :=
  mb (gR 13 (some this) 17) fun v1 =>
  mb (sI v1 x4 x5) fun _ =>
  mb (gR 13 (some this) 16) fun v2 =>
  mb (gR 13 (some this) 16) fun v3 =>
  mb (aI v3 x1) fun v4 =>
  mb (sI v2 x4 v4) fun _ =>
  mb (gI 13 (some this) 15) fun v5 =>
  mb (pI 13 (some this) 15 (v5 + (1 : Int32))) fun _ =>
  mb (wc 13 (some this) fun t => X12_fine t x4) fun v6 =>
  mr v6
def X12_together_63_st  (k63 : Nat → Int32 → Int32 → Int32 → Int32 → MM Int32) (this : Nat) (x1 : Int32) (x4 : Int32) (x5 : Int32) (x6 : Int32) : MM Int32 :=
  if (400 : Int32) ≤ x6 then ((X12_together_119 this x1 x4 x5)) else (mb (gR 13 (some this) 47) fun v1 =>
  mb (aB v1 x6) fun v2 =>
  if v2 = 0 then (mb (gR 13 (some this) 48) fun v3 =>
  mb (aB v3 x6) fun v4 =>
  if v4 = 0 then ((X12_together_113 k63 this x1 x4 x5 x6)) else ((X12_together_94 k63 this x1 x4 x5 x6))) else ((X12_together_94 k63 this x1 x4 x5 x6)))
def X12_together_63  : Nat → Nat → Int32 → Int32 → Int32 → Int32 → MM Int32
  | 0 => fun _ _ _ _ _ => mf
  | n + 1 => fun this x1 x4 x5 x6 => X12_together_63_st  (X12_together_63  n) this x1 x4 x5 x6
def X12_together (this : Nat) (a1 : Int32) (a2 : Int32) : MM Int32 :=
  mb (wc 13 (some this) fun t => X12_twoWhy t a1 a2) fun v1 =>
  if v1 ≤ 0 then (mb (gI 13 (some this) 15) fun v2 =>
  if v2 = (16 : Int32) then (mb (wc 13 (some this) fun t => X12_no t (9 : Int32)) fun v3 =>
  mr v3) else (mb (gR 13 (some this) 47) fun v4 =>
  mb (wc 13 (some this) fun t => X12_mark t a1 v4) fun _ =>
  mb (gR 13 (some this) 48) fun v5 =>
  mb (wc 13 (some this) fun t => X12_mark t a2 v5) fun _ =>
  mb (gI 13 (some this) 15) fun v6 =>
  (X12_together_63 LFU this a1 v6 (0 : Int32) (0 : Int32)))) else (mb (wc 13 (some this) fun t => X12_no t v1) fun v7 =>
  mr v7)
set_option maxRecDepth 100000 in
set_option maxHeartbeats 4000000 in
theorem s_X12_together_113 (G : GG) (k63 : Nat → Int32 → Int32 → Int32 → Int32 → MM Int32) (hk63 : ∀ (this : Nat) (x1 : Int32) (x4 : Int32) (x5 : Int32) (x6 : Int32), Sn G yX12_together cX12_together 7 (some FieldType.int) 3 65 (fun v : Int32 => some (.int v)) (k63 this x1 x4 x5 x6) 63 [some (va_rf (some this)), some (.int x1), none, none, some (.int x4), some (.int x5), some (.int x6)] []) (this : Nat) (x1 : Int32) (x4 : Int32) (x5 : Int32) (x6 : Int32) : Sn G yX12_together cX12_together 7 (some FieldType.int) 3 65 (fun v : Int32 => some (.int v)) (X12_together_113 k63 this x1 x4 x5 x6) 113 [some (va_rf (some this)), some (.int x1), none, none, some (.int x4), some (.int x5), some (.int x6)] [] := by
  unfold X12_together_113
  refine sn_iinc (v := x6) (w := 1) (L' := [some (va_rf (some this)), some (.int x1), none, none, some (.int x4), some (.int x5), some (.int (x6 + (1 : Int32)))]) (pc' := 116) dX12_together_113 rfl rfl rfl (by decide) rfl ?_
  refine sn_goto (pc' := 63) dX12_together_116 rfl ?_
  exact sn_weak (le_s (le_s (le_n (le_n (le_s (le_s (le_s le_e))))))) (hk63 this x1 x4 x5 (x6 + (1 : Int32)))
set_option maxRecDepth 100000 in
set_option maxHeartbeats 4000000 in
theorem s_X12_together_94 (G : GG) (k63 : Nat → Int32 → Int32 → Int32 → Int32 → MM Int32) (hk63 : ∀ (this : Nat) (x1 : Int32) (x4 : Int32) (x5 : Int32) (x6 : Int32), Sn G yX12_together cX12_together 7 (some FieldType.int) 3 65 (fun v : Int32 => some (.int v)) (k63 this x1 x4 x5 x6) 63 [some (va_rf (some this)), some (.int x1), none, none, some (.int x4), some (.int x5), some (.int x6)] []) (this : Nat) (x1 : Int32) (x4 : Int32) (x5 : Int32) (x6 : Int32) : Sn G yX12_together cX12_together 7 (some FieldType.int) 3 65 (fun v : Int32 => some (.int v)) (X12_together_94 k63 this x1 x4 x5 x6) 94 [some (va_rf (some this)), some (.int x1), none, none, some (.int x4), some (.int x5), some (.int x6)] [] := by
  unfold X12_together_94
  refine sn_aload_n (v := (some this)) (pc' := 95) dX12_together_94 rfl rfl rfl ?_
  refine sn_gR (k := 18) (pc' := 98) ci_13 rfl (Or.inl tw1296) dX12_together_95 rfl (fun v1 => ?_)
  refine sn_iload (v := x4) (pc' := 100) dX12_together_98 rfl rfl ?_
  refine sn_sipush (v := (400 : Int32)) (pc' := 103) dX12_together_100 rfl (by decide) ?_
  refine sn_imul (pc' := 104) dX12_together_103 rfl ?_
  refine sn_iload (v := x5) (pc' := 106) dX12_together_104 rfl rfl ?_
  refine sn_iadd (pc' := 107) dX12_together_106 rfl ?_
  refine sn_iload (v := x6) (pc' := 109) dX12_together_107 rfl rfl ?_
  refine sn_sI (pc' := 110) dX12_together_109 rfl (fun _ => ?_)
  refine sn_iinc (v := x5) (w := 1) (L' := [some (va_rf (some this)), some (.int x1), none, none, some (.int x4), some (.int (x5 + (1 : Int32))), some (.int x6)]) (pc' := 113) dX12_together_110 rfl rfl rfl (by decide) rfl ?_
  exact sn_weak (le_s (le_s (le_n (le_n (le_s (le_s (le_s le_e))))))) (s_X12_together_113 G k63 hk63 this x1 x4 (x5 + (1 : Int32)) x6)
set_option maxRecDepth 100000 in
set_option maxHeartbeats 4000000 in
theorem s_X12_together_119 (G : GG)   (this : Nat) (x1 : Int32) (x4 : Int32) (x5 : Int32) : Sn G yX12_together cX12_together 7 (some FieldType.int) 3 65 (fun v : Int32 => some (.int v)) (X12_together_119  this x1 x4 x5) 119 [some (va_rf (some this)), some (.int x1), none, none, some (.int x4), some (.int x5), none] [] := by
  unfold X12_together_119
  refine sn_aload_n (v := (some this)) (pc' := 120) dX12_together_119 rfl rfl rfl ?_
  refine sn_gR (k := 17) (pc' := 123) ci_13 rfl (Or.inl tw1295) dX12_together_120 rfl (fun v1 => ?_)
  refine sn_iload (v := x4) (pc' := 125) dX12_together_123 rfl rfl ?_
  refine sn_iload (v := x5) (pc' := 127) dX12_together_125 rfl rfl ?_
  refine sn_sI (pc' := 128) dX12_together_127 rfl (fun _ => ?_)
  refine sn_aload_n (v := (some this)) (pc' := 129) dX12_together_128 rfl rfl rfl ?_
  refine sn_gR (k := 16) (pc' := 132) ci_13 rfl (Or.inl tw1294) dX12_together_129 rfl (fun v2 => ?_)
  refine sn_iload (v := x4) (pc' := 134) dX12_together_132 rfl rfl ?_
  refine sn_aload_n (v := (some this)) (pc' := 135) dX12_together_134 rfl rfl rfl ?_
  refine sn_gR (k := 16) (pc' := 138) ci_13 rfl (Or.inl tw1294) dX12_together_135 rfl (fun v3 => ?_)
  refine sn_iload_n (v := x1) (pc' := 139) dX12_together_138 rfl rfl rfl ?_
  refine sn_aI (pc' := 140) dX12_together_139 rfl (fun v4 => ?_)
  refine sn_sI (pc' := 141) dX12_together_140 rfl (fun _ => ?_)
  refine sn_aload_n (v := (some this)) (pc' := 142) dX12_together_141 rfl rfl rfl ?_
  refine sn_dup (pc' := 143) dX12_together_142 rfl (cat_rf _) ?_
  refine sn_gI (k := 15) (pc' := 146) ci_13 rfl (Or.inl tw1293) dX12_together_143 rfl (fun v5 => ?_)
  refine sn_iconst (v := (1 : Int32)) (pc' := 147) dX12_together_146 rfl (by decide) ?_
  refine sn_iadd (pc' := 148) dX12_together_147 rfl ?_
  refine sn_pI (k := 15) (pc' := 151) ci_13 rfl (Or.inl tw1293) (Or.inl rfl) rfl dX12_together_148 rfl (fun _ => ?_)
  refine sn_aload_n (v := (some this)) (pc' := 152) dX12_together_151 rfl rfl rfl ?_
  refine sn_iload (v := x4) (pc' := 154) dX12_together_152 rfl rfl ?_
  refine sn_cV (r := (some this)) (st := []) (As := [.int x4]) (st2 := (fun v => .int v :: [])) (pc' := 157) ci_13 (fun t => c_X12_fine G t x4) cw_X12_fine rfl rfl tw1435 pw45 tw1437 rfl rfl cat_nil rfl (fun _ => rfl) dX12_together_154 rfl (fun v6 => ?_)
  exact sn_iret dX12_together_157 rfl rfl
set_option maxRecDepth 100000 in
set_option maxHeartbeats 4000000 in
theorem s_X12_together_63_st (G : GG)   (k63 : Nat → Int32 → Int32 → Int32 → Int32 → MM Int32) (hk63 : ∀ (this : Nat) (x1 : Int32) (x4 : Int32) (x5 : Int32) (x6 : Int32), Sn G yX12_together cX12_together 7 (some FieldType.int) 3 65 (fun v : Int32 => some (.int v)) (k63 this x1 x4 x5 x6) 63 [some (va_rf (some this)), some (.int x1), none, none, some (.int x4), some (.int x5), some (.int x6)] []) (this : Nat) (x1 : Int32) (x4 : Int32) (x5 : Int32) (x6 : Int32) : Sn G yX12_together cX12_together 7 (some FieldType.int) 3 65 (fun v : Int32 => some (.int v)) (X12_together_63_st  k63 this x1 x4 x5 x6) 63 [some (va_rf (some this)), some (.int x1), none, none, some (.int x4), some (.int x5), some (.int x6)] [] := by
  unfold X12_together_63_st
  refine sn_iload (v := x6) (pc' := 65) dX12_together_63 rfl rfl ?_
  refine sn_sipush (v := (400 : Int32)) (pc' := 68) dX12_together_65 rfl (by decide) ?_
  refine sn_ic_ge (pt := 119) (pf := 71) dX12_together_68 rfl rfl ?_ ?_
  · exact sn_weak (le_s (le_s (le_n (le_n (le_s (le_s (le_n le_e))))))) (s_X12_together_119 G this x1 x4 x5)
  · refine sn_aload_n (v := (some this)) (pc' := 72) dX12_together_71 rfl rfl rfl ?_
    refine sn_gR (k := 47) (pc' := 75) ci_13 rfl (Or.inl tw1325) dX12_together_72 rfl (fun v1 => ?_)
    refine sn_iload (v := x6) (pc' := 77) dX12_together_75 rfl rfl ?_
    refine sn_aB (pc' := 78) dX12_together_77 rfl (fun v2 => ?_)
    refine sn_if_ne (pt := 94) (pf := 81) dX12_together_78 rfl rfl ?_ ?_
    · refine sn_aload_n (v := (some this)) (pc' := 82) dX12_together_81 rfl rfl rfl ?_
      refine sn_gR (k := 48) (pc' := 85) ci_13 rfl (Or.inl tw1326) dX12_together_82 rfl (fun v3 => ?_)
      refine sn_iload (v := x6) (pc' := 87) dX12_together_85 rfl rfl ?_
      refine sn_aB (pc' := 88) dX12_together_87 rfl (fun v4 => ?_)
      refine sn_if_ne (pt := 94) (pf := 91) dX12_together_88 rfl rfl ?_ ?_
      · refine sn_goto (pc' := 113) dX12_together_91 rfl ?_
        exact sn_weak (le_s (le_s (le_n (le_n (le_s (le_s (le_s le_e))))))) (s_X12_together_113 G k63 hk63 this x1 x4 x5 x6)
      · exact sn_weak (le_s (le_s (le_n (le_n (le_s (le_s (le_s le_e))))))) (s_X12_together_94 G k63 hk63 this x1 x4 x5 x6)
    · exact sn_weak (le_s (le_s (le_n (le_n (le_s (le_s (le_s le_e))))))) (s_X12_together_94 G k63 hk63 this x1 x4 x5 x6)
set_option maxRecDepth 100000 in
set_option maxHeartbeats 4000000 in
theorem s_X12_together_63 (G : GG)   : ∀ (n : Nat) (this : Nat) (x1 : Int32) (x4 : Int32) (x5 : Int32) (x6 : Int32), Sn G yX12_together cX12_together 7 (some FieldType.int) 3 65 (fun v : Int32 => some (.int v)) (X12_together_63  n this x1 x4 x5 x6) 63 [some (va_rf (some this)), some (.int x1), none, none, some (.int x4), some (.int x5), some (.int x6)] [] := by
  intro n
  induction n with
  | zero => intro this x1 x4 x5 x6; exact sn_mf
  | succ n ih => intro this x1 x4 x5 x6; exact s_X12_together_63_st G   (X12_together_63  n) ih this x1 x4 x5 x6
set_option maxRecDepth 100000 in
set_option maxHeartbeats 4000000 in
theorem s_X12_together (G : GG) (this : Nat) (a1 : Int32) (a2 : Int32) : Sn G yX12_together cX12_together 7 (some FieldType.int) 3 65 (fun v : Int32 => some (.int v)) (X12_together this a1 a2) 0 [some (va_rf (some this)), some (.int a1), some (.int a2), none, none, none, none] [] := by
  unfold X12_together
  refine sn_aload_n (v := (some this)) (pc' := 1) dX12_together_0 rfl rfl rfl ?_
  refine sn_iload_n (v := a1) (pc' := 2) dX12_together_1 rfl rfl rfl ?_
  refine sn_iload_n (v := a2) (pc' := 3) dX12_together_2 rfl rfl rfl ?_
  refine sn_cV (r := (some this)) (st := []) (As := [.int a1, .int a2]) (st2 := (fun v => .int v :: [])) (pc' := 6) ci_13 (fun t => c_X12_twoWhy G t a1 a2) cw_X12_twoWhy rfl rfl tw1749 pw91 tw1751 rfl rfl cat_nil rfl (fun _ => rfl) dX12_together_3 rfl (fun v1 => ?_)
  refine sn_istore_n (v := v1) (L' := [some (va_rf (some this)), some (.int a1), some (.int a2), some (.int v1), none, none, none]) (pc' := 7) dX12_together_6 rfl rfl rfl rfl ?_
  refine sn_iload_n (v := v1) (pc' := 8) dX12_together_7 rfl rfl rfl ?_
  refine sn_if_le (pt := 17) (pf := 11) dX12_together_8 rfl rfl ?_ ?_
  · refine sn_aload_n (v := (some this)) (pc' := 18) dX12_together_17 rfl rfl rfl ?_
    refine sn_gI (k := 15) (pc' := 21) ci_13 rfl (Or.inl tw1293) dX12_together_18 rfl (fun v2 => ?_)
    refine sn_bipush (v := (16 : Int32)) (pc' := 23) dX12_together_21 rfl (by decide) ?_
    refine sn_ic_ne (pt := 33) (pf := 26) dX12_together_23 rfl rfl ?_ ?_
    · refine sn_aload_n (v := (some this)) (pc' := 27) dX12_together_26 rfl rfl rfl ?_
      refine sn_bipush (v := (9 : Int32)) (pc' := 29) dX12_together_27 rfl (by decide) ?_
      refine sn_cV (r := (some this)) (st := []) (As := [.int (9 : Int32)]) (st2 := (fun v => .int v :: [])) (pc' := 32) ci_13 (fun t => c_X12_no G t (9 : Int32)) cw_X12_no rfl rfl tw1431 pw44 tw1433 rfl rfl cat_nil rfl (fun _ => rfl) dX12_together_29 rfl (fun v3 => ?_)
      exact sn_iret dX12_together_32 rfl rfl
    · refine sn_aload_n (v := (some this)) (pc' := 34) dX12_together_33 rfl rfl rfl ?_
      refine sn_iload_n (v := a1) (pc' := 35) dX12_together_34 rfl rfl rfl ?_
      refine sn_aload_n (v := (some this)) (pc' := 36) dX12_together_35 rfl rfl rfl ?_
      refine sn_gR (k := 47) (pc' := 39) ci_13 rfl (Or.inl tw1325) dX12_together_36 rfl (fun v4 => ?_)
      refine sn_cV (r := (some this)) (st := []) (As := [.int a1, va_rf v4]) (st2 := (fun _ => [])) (pc' := 42) ci_13 (fun t => c_X12_mark G t a1 v4) cw_X12_mark rfl rfl tw1753 pw92 tw1755 rfl rfl cat_nil rfl (fun _ => rfl) dX12_together_39 rfl (fun _ => ?_)
      refine sn_aload_n (v := (some this)) (pc' := 43) dX12_together_42 rfl rfl rfl ?_
      refine sn_iload_n (v := a2) (pc' := 44) dX12_together_43 rfl rfl rfl ?_
      refine sn_aload_n (v := (some this)) (pc' := 45) dX12_together_44 rfl rfl rfl ?_
      refine sn_gR (k := 48) (pc' := 48) ci_13 rfl (Or.inl tw1326) dX12_together_45 rfl (fun v5 => ?_)
      refine sn_cV (r := (some this)) (st := []) (As := [.int a2, va_rf v5]) (st2 := (fun _ => [])) (pc' := 51) ci_13 (fun t => c_X12_mark G t a2 v5) cw_X12_mark rfl rfl tw1753 pw92 tw1755 rfl rfl cat_nil rfl (fun _ => rfl) dX12_together_48 rfl (fun _ => ?_)
      refine sn_aload_n (v := (some this)) (pc' := 52) dX12_together_51 rfl rfl rfl ?_
      refine sn_gI (k := 15) (pc' := 55) ci_13 rfl (Or.inl tw1293) dX12_together_52 rfl (fun v6 => ?_)
      refine sn_istore (v := v6) (L' := [some (va_rf (some this)), some (.int a1), some (.int a2), some (.int v1), some (.int v6), none, none]) (pc' := 57) dX12_together_55 rfl rfl rfl ?_
      refine sn_iconst (v := (0 : Int32)) (pc' := 58) dX12_together_57 rfl (by decide) ?_
      refine sn_istore (v := (0 : Int32)) (L' := [some (va_rf (some this)), some (.int a1), some (.int a2), some (.int v1), some (.int v6), some (.int (0 : Int32)), none]) (pc' := 60) dX12_together_58 rfl rfl rfl ?_
      refine sn_iconst (v := (0 : Int32)) (pc' := 61) dX12_together_60 rfl (by decide) ?_
      refine sn_istore (v := (0 : Int32)) (L' := [some (va_rf (some this)), some (.int a1), some (.int a2), some (.int v1), some (.int v6), some (.int (0 : Int32)), some (.int (0 : Int32))]) (pc' := 63) dX12_together_61 rfl rfl rfl ?_
      exact sn_weak (le_s (le_s (le_n (le_n (le_s (le_s (le_s le_e))))))) (s_X12_together_63 G LFU this a1 v6 (0 : Int32) (0 : Int32))
  · refine sn_aload_n (v := (some this)) (pc' := 12) dX12_together_11 rfl rfl rfl ?_
    refine sn_iload_n (v := v1) (pc' := 13) dX12_together_12 rfl rfl rfl ?_
    refine sn_cV (r := (some this)) (st := []) (As := [.int v1]) (st2 := (fun v => .int v :: [])) (pc' := 16) ci_13 (fun t => c_X12_no G t v1) cw_X12_no rfl rfl tw1431 pw44 tw1433 rfl rfl cat_nil rfl (fun _ => rfl) dX12_together_13 rfl (fun v7 => ?_)
    exact sn_iret dX12_together_16 rfl rfl
theorem c_X12_together (G : GG) (this : Nat) (a1 : Int32) (a2 : Int32) : Cal G yX12_together cX12_together 7 (some FieldType.int) 3 65 (fun v : Int32 => some (.int v)) (X12_together this a1 a2) [.ref this, .int a1, .int a2] :=
  Cal.of (by decide) (cat_t (cat_i (cat_i cat_nil))) rfl (sn_weak (le_s (le_s (le_s (le_z (le_z (le_z (le_z le_e))))))) (s_X12_together G this a1 a2))
theorem cw_X12_together : CW yX12_together cX12_together 7 (some FieldType.int) 2 := ⟨tw1760, tw15, by decide, by decide +kernel⟩
/-! X12_status -/
theorem dX12_status_0 : decode cX12_status 0 = .ok (.aload_n 0, 1) := by decide +kernel
theorem dX12_status_1 : decode cX12_status 1 = .ok (.getfield 1, 3) := by decide +kernel
theorem dX12_status_4 : decode cX12_status 4 = .ok (.ireturn, 1) := by decide +kernel
def X12_status (this : Nat) : MM Int32 :=
  mb (gI 13 (some this) 2) fun v1 =>
  mr v1
set_option maxRecDepth 100000 in
set_option maxHeartbeats 4000000 in
theorem s_X12_status (G : GG) (this : Nat) : Sn G yX12_status cX12_status 1 (some FieldType.int) 0 0 (fun v : Int32 => some (.int v)) (X12_status this) 0 [some (va_rf (some this))] [] := by
  unfold X12_status
  refine sn_aload_n (v := (some this)) (pc' := 1) dX12_status_0 rfl rfl rfl ?_
  refine sn_gI (k := 2) (pc' := 4) ci_13 rfl (Or.inl tw1280) dX12_status_1 rfl (fun v1 => ?_)
  exact sn_iret dX12_status_4 rfl rfl
theorem c_X12_status (G : GG) (this : Nat) : Cal G yX12_status cX12_status 1 (some FieldType.int) 0 0 (fun v : Int32 => some (.int v)) (X12_status this) [.ref this] :=
  Cal.of (by decide) (cat_t cat_nil) rfl (sn_weak (le_s le_e) (s_X12_status G this))
theorem cw_X12_status : CW yX12_status cX12_status 1 (some FieldType.int) 0 := ⟨tw1764, tw15, by decide, by decide +kernel⟩
