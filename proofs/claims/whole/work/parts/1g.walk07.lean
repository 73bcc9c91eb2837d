theorem tw1271 : (Jvm.Cond.code ({ cls := "LeafFormula", name := "status", desc := "()I" } : Jvm.MethodName) prog_1_method_27_code (1 : Nat) (Option.some Jvm.ClassFile.FieldType.int)) ∈ gtbl := gt_of 1364 (by decide +kernel) (by decide +kernel)
/-! X11_status -/
theorem dX11_status_0 : decode cX11_status 0 = .ok (.aload_n 0, 1) := by decide +kernel
theorem dX11_status_1 : decode cX11_status 1 = .ok (.getfield 231, 3) := by decide +kernel
theorem dX11_status_4 : decode cX11_status 4 = .ok (.ireturn, 1) := by decide +kernel
def X11_status (this : Nat) : MM Int32 :=
  mb (gI 12 (some this) 11) fun v1 =>
  mr v1
set_option maxRecDepth 100000 in
set_option maxHeartbeats 4000000 in
theorem s_X11_status (G : GG) (this : Nat) : Sn G yX11_status cX11_status 1 (some FieldType.int) 0 0 (fun v : Int32 => some (.int v)) (X11_status this) 0 [some (va_rf (some this))] [] := by
  unfold X11_status
  refine sn_aload_n (v := (some this)) (pc' := 1) dX11_status_0 rfl rfl rfl ?_
  refine sn_gI (k := 11) (pc' := 4) ci_12 rfl (Or.inl tw284) dX11_status_1 rfl (fun v1 => ?_)
  exact sn_iret dX11_status_4 rfl rfl
theorem c_X11_status (G : GG) (this : Nat) : Cal G yX11_status cX11_status 1 (some FieldType.int) 0 0 (fun v : Int32 => some (.int v)) (X11_status this) [.ref this] :=
  Cal.of (by decide) (cat_t cat_nil) rfl (sn_weak (le_s le_e) (s_X11_status G this))
theorem cw_X11_status : CW yX11_status cX11_status 1 (some FieldType.int) 0 := ⟨tw1271, tw1, by decide, by decide +kernel⟩
