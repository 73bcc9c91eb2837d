/-! ===== keepCopy ===== -/
section MKM
variable {am : AM}
theorem aNC_f (S : CS) (b1 b2 : Nat) (h : AH) (hR : RC am b1 b2 S h) : aN (some (am.1 + 45)) h = some (16, h) := by
  have hc : ce h (am.1 + 45) = cel am S (12, 0) := hR.at (q := (12, 0)) rfl
  unfold aN
  simp only [hc]
  rfl
theorem u_X11_keepCopy (n : Int32) (b : Nat) : So am (fun v => if v = -9 then (0, 0) else (13, 18406)) (X11_keepCopy am.1 n (some (aBo am b))) (C11_keepCopy n b) := by
  unfold X11_keepCopy C11_keepCopy
  refine so_cal (kk := id) (sc_g (t := 9) (i := 0) rfl (fun _ => ⟨_, rfl, rfl⟩)) fun v1 => ?_
  refine so_rd (gR_f (q := (5, 0)) (b := am.1 + 45) (fun _ => rfl) rfl (fun _ => ⟨_, rfl, rfl⟩)) ?_
  refine so_rd aNC_f ?_
  refine so_ite ?_ ?_
  · unfold X11_keepCopy_16
    exact so_sc (sc_wc (q := (5, 0)) (k := id) (fun _ => rfl) rfl (fun _ => ⟨_, rfl⟩) (u_X11_refuse (9 : Int32)) fun v => sc_ret)
  rw [if_neg (by intro q; cases q)]
  refine so_ne (k := kp (kp (kp (fun _ => (0, 0)) 2 (4 + 16384)) 10 2010) 1 8) (fun v => ⟨by show 0 + 2 + 10 + 1 ≤ 13; omega, by show 0 + (4 + 16384) + 2010 + 8 ≤ 18406; omega⟩) (na_cb fun _ => na_cb fun _ => na_cb fun _ => na_cb fun _ => na_cb fun _ => na_cb fun _ => na_cb fun _ => na_cb fun _ => na_cb fun _ => na_cb fun _ => na_9) ?_
  refine so_spare fun C hC79 => ?_
  refine so_rd (gR_f (am := amS am C _) (q := (5, 0)) (b := aRo am 12) (fun _ => rfl) rfl (fun _ => ⟨_, rfl, rfl⟩)) ?_
  refine so_cp (am := amS am C _) (if_pos rfl) hC79 fun c base => ?_
  refine so_rd (gR_f (am := amC (amS am C _) c C base) (q := (5, 0)) (b := am.1 + 37) (fun _ => rfl) rfl (fun _ => ⟨_, rfl, rfl⟩)) ?_
  have eco : aCo (amC (amS am C (.inr (4, [.int 0, .null, .null, .null, .null, .null, .null, .null]))) c C base) c = C := if_pos rfl
  have hcol := u_X1_collate (am := amC (amS am C (.inr (4, [.int 0, .null, .null, .null, .null, .null, .null, .null]))) c C base) c
  have hnote := u_X9_noteText (am := amC (amS am C (.inr (4, [.int 0, .null, .null, .null, .null, .null, .null, .null]))) c C base) c
  rw [eco] at hcol hnote
  refine so_cal (am := amC (amS am C _) c C base) (kk := id) (sc_w (q := (10, 0)) (fun _ => rfl) rfl (fun _ => ⟨_, rfl⟩) hcol) fun _ => ?_
  refine so_rd (gR_f (am := amC (amS am C _) c C base) (q := (5, 0)) (b := am.1 + 41) (fun _ => rfl) rfl (fun _ => ⟨_, rfl, rfl⟩)) ?_
  refine so_sa (am := amC (amS am C _) c C base) (L := 16384) (sa_w (q := (13, 0)) (fun _ => rfl) rfl (fun _ => ⟨_, rfl⟩) hnote) fun a s => ?_
  refine so_sc ?_
  refine sc_pN (am := amT (amC (amS am C _) c C base) s a) (if_pos rfl) ?_
  refine sc_gR (am := amT (amC (amS am C _) c C base) s a) (q := (5, 0)) (b := am.1 + 45) (fun _ => rfl) rfl (fun _ => ⟨_, rfl, rfl⟩) ?_
  refine sc_gI (am := amT (amC (amS am C _) c C base) s a) (t := 9) (i := 0) rfl (fun _ => ⟨_, rfl, rfl⟩) fun v10 => ?_
  refine sc_sRC (am := amT (amC (amS am C _) c C base) s a) (if_pos rfl) ?_
  refine sc_gI (am := amT (amC (amS am C _) c C base) s a) (t := 9) (i := 0) rfl (fun _ => ⟨_, rfl, rfl⟩) fun v11 => ?_
  refine sc_pI (am := amT (amC (amS am C _) c C base) s a) (t := 9) (i := 0) (by decide) rfl (fun _ => ⟨_, rfl, Nat.le_of_ble_eq_true rfl, celp9⟩) ?_
  refine sc_wc (am := amT (amC (amS am C _) c C base) s a) (q := (5, 0)) (k := id) (fun _ => rfl) rfl (fun _ => ⟨_, rfl⟩) (u_X11_answer (am := amT (amC (amS am C _) c C base) s a) v11) fun v => ?_
  exact sc_9
end MKM
