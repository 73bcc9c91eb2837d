/-! ===== book, change, copy, together, name ===== -/
def kB : Int32 → Nat × Nat := fun v => if v = -9 then (0, 0) else (17, 20707)
def kC : Int32 → Nat × Nat := fun v => if v = -9 then (0, 0) else (13, 18406)
def kNm : Int32 → Nat × Nat := fun _ => (2, 104)
def C11_book : CM Int32 :=
  cb (cP 10 0 (0 : Int32)) fun _ =>
  cb C7_readsFormula fun v2 =>
  if v2 = 0 then (cb (C11_closeBook (2 : Int32)) fun v => cr v) else (cb C11_draftFormula fun v3 => cb (C11_closeBook v3) fun v => cr v)
def C11_change (a1 : Int32) : CM Int32 :=
  cb (C11_bookAt a1) fun v1 =>
  con v1 (cb (C11_closeBook (1 : Int32)) fun v => cr v) (fun i =>
  cb (cP 10 0 (0 : Int32)) fun _ =>
  cb C7_readsChanges fun v4 =>
  if v4 = 0 then (cb (C11_closeBook (2 : Int32)) fun v => cr v) else (cb (C11_draftChanges i) fun v5 => cb (C11_closeBook v5) fun v => cr v))
def C11_copy_48 (n : Int32) (i : Nat) (y : Int32) : CM Int32 :=
  cb (C10_cutTo (0 : Int32)) fun _ =>
  if y = 0 then (cb (C11_keepCopy n i) fun v => cr v) else (cb (C11_refuse y) fun v => cr v)
def C11_copy (a1 : Int32) : CM Int32 :=
  cb (C11_bookAt a1) fun v1 =>
  con v1 (cb (C10_cutTo (0 : Int32)) fun _ => cb (C11_refuse (1 : Int32)) fun v => cr v) (fun i =>
  cb (cP 10 0 (0 : Int32)) fun _ =>
  cb C7_readsRow fun v5 =>
  if v5 = 0 then (C11_copy_48 a1 i (2 : Int32)) else (cb (C11_draftRow i) fun v6 => C11_copy_48 a1 i v6))
def C11_name (a1 a2 a3 : Int32) : CM Int32 :=
  cb (C11_bookWithLeaf a1 a2) fun v1 =>
  con v1 (cb (C11_refuse (1 : Int32)) fun v => cr v) (fun i =>
  cb (C9_nameText i a2) fun s =>
  cb (C11_byteOf s a3) fun v => cr v)
section MKN
variable {am : AM}
theorem sc_p10 {v : Int32} : Sc am id (pI 12 (some am.1) 10 v) (cP 10 0 v) := sc_1 (sc_pI (t := 10) (i := 0) (by decide) rfl (fun _ => ⟨_, rfl, Nat.le_of_ble_eq_true rfl, celp10⟩) (sc_ret (a := ())))
theorem u_X11_book : So am kB (X11_book am.1) C11_book := by
  unfold X11_book C11_book
  refine so_cal (kk := id) sc_p10 fun _ => ?_
  refine so_rd (gR_f (q := (5, 0)) (b := am.1 + 9) (fun _ => rfl) rfl (fun _ => ⟨_, rfl, rfl⟩)) ?_
  refine so_cal (kk := id) (sc_w (q := (7, 0)) (fun _ => rfl) rfl (fun _ => ⟨_, rfl⟩) u_X7_readsFormula) fun v2 => ?_
  refine so_ite ?_ ?_
  · exact so_end (u_X11_closeBook (2 : Int32))
  · refine so_cal (kk := id) (sc_w (q := (5, 0)) (fun _ => rfl) rfl (fun _ => ⟨_, rfl⟩) u_X11_draftFormula) fun v3 => ?_
    exact so_end (u_X11_closeBook v3)
theorem u_X11_change (a1 : Int32) : So am kB (X11_change am.1 a1) (C11_change a1) := by
  unfold X11_change C11_change
  refine so_cal (kk := fun v : Option Nat => v.map (aBo am)) (sc_w (q := (5, 0)) (fun _ => rfl) rfl (fun _ => ⟨_, rfl⟩) (u_X11_bookAt a1)) fun v1 => ?_
  refine so_con (fun e => ?_) (fun i e => ?_)
  · exact so_end (u_X11_closeBook (1 : Int32))
  subst e
  refine so_cal (kk := id) sc_p10 fun _ => ?_
  refine so_rd (gR_f (q := (5, 0)) (b := am.1 + 9) (fun _ => rfl) rfl (fun _ => ⟨_, rfl, rfl⟩)) ?_
  refine so_cal (kk := id) (sc_w (q := (7, 0)) (fun _ => rfl) rfl (fun _ => ⟨_, rfl⟩) u_X7_readsChanges) fun v4 => ?_
  refine so_ite ?_ ?_
  · exact so_end (u_X11_closeBook (2 : Int32))
  · refine so_cal (kk := id) (sc_w (q := (5, 0)) (fun _ => rfl) rfl (fun _ => ⟨_, rfl⟩) (u_X11_draftChanges i)) fun v5 => ?_
    exact so_end (u_X11_closeBook v5)
theorem u_X11_copy_48 (n : Int32) (i : Nat) (y : Int32) : So am kC (X11_copy_48 am.1 n (some (aBo am i)) y) (C11_copy_48 n i y) := by
  unfold X11_copy_48 C11_copy_48
  refine so_rd (gR_f (q := (5, 0)) (b := am.1 + 1) (fun _ => rfl) rfl (fun _ => ⟨_, rfl, rfl⟩)) ?_
  refine so_cal (kk := id) (sc_w (q := (6, 0)) (fun _ => rfl) rfl (fun _ => ⟨_, rfl⟩) (u_X10_cutTo (0 : Int32))) fun _ => ?_
  refine so_ite ?_ (so_sc (sc_wc (q := (5, 0)) (k := id) (fun _ => rfl) rfl (fun _ => ⟨_, rfl⟩) (u_X11_refuse y) fun v => sc_ret))
  exact so_end (u_X11_keepCopy n i)
theorem u_X11_copy (a1 : Int32) : So am kC (X11_copy am.1 a1) (C11_copy a1) := by
  unfold X11_copy C11_copy
  refine so_cal (kk := fun v : Option Nat => v.map (aBo am)) (sc_w (q := (5, 0)) (fun _ => rfl) rfl (fun _ => ⟨_, rfl⟩) (u_X11_bookAt a1)) fun v1 => ?_
  refine so_con (fun e => ?_) (fun i e => ?_)
  · refine so_rd (gR_f (q := (5, 0)) (b := am.1 + 1) (fun _ => rfl) rfl (fun _ => ⟨_, rfl, rfl⟩)) ?_
    refine so_cal (kk := id) (sc_w (q := (6, 0)) (fun _ => rfl) rfl (fun _ => ⟨_, rfl⟩) (u_X10_cutTo (0 : Int32))) fun _ => ?_
    exact so_sc (sc_wc (q := (5, 0)) (k := id) (fun _ => rfl) rfl (fun _ => ⟨_, rfl⟩) (u_X11_refuse (1 : Int32)) fun v => sc_ret)
  subst e
  refine so_cal (kk := id) sc_p10 fun _ => ?_
  refine so_rd (gR_f (q := (5, 0)) (b := am.1 + 9) (fun _ => rfl) rfl (fun _ => ⟨_, rfl, rfl⟩)) ?_
  refine so_cal (kk := id) (sc_w (q := (7, 0)) (fun _ => rfl) rfl (fun _ => ⟨_, rfl⟩) u_X7_readsRow) fun v5 => ?_
  refine so_ite ?_ ?_
  · exact u_X11_copy_48 a1 i (2 : Int32)
  · refine so_cal (kk := id) (sc_w (q := (5, 0)) (fun _ => rfl) rfl (fun _ => ⟨_, rfl⟩) (u_X11_draftRow i)) fun v6 => ?_
    exact u_X11_copy_48 a1 i v6
theorem u_X11_name (a1 a2 a3 : Int32) : So am kNm (X11_name am.1 a1 a2 a3) (C11_name a1 a2 a3) := by
  unfold X11_name C11_name
  refine so_cal (kk := fun v : Option Nat => v.map (aBo am)) (sc_w (q := (5, 0)) (fun _ => rfl) rfl (fun _ => ⟨_, rfl⟩) (u_X11_bookWithLeaf a1 a2)) fun v1 => ?_
  refine so_con (fun e => ?_) (fun i e => ?_)
  · exact so_sc (sc_wc (q := (5, 0)) (k := id) (fun _ => rfl) rfl (fun _ => ⟨_, rfl⟩) (u_X11_refuse (1 : Int32)) fun v => sc_ret)
  subst e
  refine so_rd (gR_f (q := (5, 0)) (b := am.1 + 41) (fun _ => rfl) rfl (fun _ => ⟨_, rfl, rfl⟩)) ?_
  refine so_mono (k := kp (fun _ => (0, 0)) 2 (4 + 100)) ?_ (fun v => ⟨by show 0 + 2 ≤ 2; omega, by show 0 + (4 + 100) ≤ 104; omega⟩)
  refine so_sa (L := 100) (sa_w (q := (13, 0)) (fun _ => rfl) rfl (fun _ => ⟨_, rfl⟩) (u_X9_nameText i a2)) fun a s => ?_
  exact so_sc (sc_wc (am := amT am s a) (q := (5, 0)) (k := id) (fun _ => rfl) rfl (fun _ => ⟨_, rfl⟩) (u_X11_byteOf (am := amT am s a) s a3) fun v => sc_ret)
end MKN
