/-! ===== together ===== -/
def C11_together_22 : CM Int32 := cb (C11_refuse (1 : Int32)) fun v => cr v
def C11_together (a1 a2 : Int32) : CM Int32 :=
  cb (C11_copyAt a1) fun v1 =>
  cb (C11_copyAt a2) fun v2 =>
  con v1 C11_together_22 (fun i1 => con v2 C11_together_22 (fun i2 =>
  cb (cG 12 i1) fun v3 =>
  cb (cG 12 i2) fun v4 =>
  if v3 = v4 then (
  cb (C1_listTogether i1 i2 12) fun _ =>
  cb (cG 12 i1) fun v8 =>
  cb (cR i1) fun v9 =>
  cb (C11_keepCopy v8 v9) fun v => cr v) else (cb (C11_refuse (4 : Int32)) fun v => cr v)))
section MKP
variable {am : AM}
theorem so_ref {k : Int32 → Nat × Nat} (n : Int32) : So am k (mb (wc 12 (some am.1) fun t => X11_refuse t n) fun v => mr v) (cb (C11_refuse n) fun v => cr v) := so_sc (sc_wc (q := (5, 0)) (k := id) (fun _ => rfl) rfl (fun _ => ⟨_, rfl⟩) (u_X11_refuse n) fun v => sc_ret)
theorem u_X11_together (a1 a2 : Int32) : So am kC (X11_together am.1 a1 a2) (C11_together a1 a2) := by
  unfold X11_together C11_together
  refine so_cal (kk := fun v : Option Nat => v.map (aCo am)) (sc_w (q := (5, 0)) (fun _ => rfl) rfl (fun _ => ⟨_, rfl⟩) (u_X11_copyAt a1)) fun v1 => ?_
  refine so_cal (kk := fun v : Option Nat => v.map (aCo am)) (sc_w (q := (5, 0)) (fun _ => rfl) rfl (fun _ => ⟨_, rfl⟩) (u_X11_copyAt a2)) fun v2 => ?_
  refine so_con (fun e => ?_) (fun i1 e => ?_)
  · unfold X11_together_22 C11_together_22
    exact so_ref _
  subst e
  refine so_con (fun e => ?_) (fun i2 e => ?_)
  · unfold X11_together_22 C11_together_22
    exact so_ref _
  subst e
  refine so_cal (kk := id) (sc_g (t := 12) (i := i1) rfl (fun _ => ⟨_, rfl, rfl⟩)) fun v3 => ?_
  refine so_cal (kk := id) (sc_g (t := 12) (i := i2) rfl (fun _ => ⟨_, rfl, rfl⟩)) fun v4 => ?_
  refine so_ite ?_ (so_ref _)
  refine so_rd (gR_f (q := (5, 0)) (b := am.1 + 37) (fun _ => rfl) rfl (fun _ => ⟨_, rfl, rfl⟩)) ?_
  refine so_rd (gR_f (q := (5, 0)) (b := aRo am 12) (fun _ => rfl) rfl (fun _ => ⟨_, rfl, rfl⟩)) ?_
  refine so_cal (kk := id) (sc_w (q := (10, 0)) (fun _ => rfl) rfl (fun _ => ⟨_, rfl⟩) (u_X1_listTogether i1 i2 12)) fun _ => ?_
  refine so_cal (kk := id) (sc_g (t := 12) (i := i1) rfl (fun _ => ⟨_, rfl, rfl⟩)) fun v8 => ?_
  refine so_cal (kk := fun s => some (aBo am s)) (sc_1 (sc_gS fun s => sc_ret (a := s))) fun v9 => ?_
  exact so_end (u_X11_keepCopy v8 v9)
end MKP
