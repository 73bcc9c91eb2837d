/-! ===== note: the whole ===== -/
section NOT
variable {W : IS} {J : JS} {E R : Int → Int} {m mx : Int} {b c : Nat}
theorem m_wnote {W0 : IS} (el : I12_look c W0 = some ((), W)) (h : LkQ W b c E R m mx) : I12_writeNote c W0 = some ((), wrs (noT (nmC W b) E (t2E E m) (t3E E m) (t4E E R mx) (LC (mB W b)) m) (iu1 W 37 0)) := by
  have hI := h.2.2.1
  have h4 := hI.2.2.1
  have hLn := (LC_tot hI.1).1
  have h' : LkQ (iu1 W 37 0) b c E R m mx := h
  have h37 : (iu1 W 37 0).1 37 = 0 := by rw [iu1_1, if_pos rfl]
  have hR : RmW (iu1 W 37 0) 16384 := by unfold RmW; rw [h37]; omega
  have hbt := cnT_bd (t := t2E E m) b2 hLn
  have l13 := txt_l.2.2.2.2.2.2.2.2.2.1
  have hr := rnT_le (t := t2E E m) (nmC_le hI) (LC (mB W b)).toNat 0 (-1) 0
  rw [if_pos (by decide)] at hr
  have ec : I12_countTold c 2 (iu1 W 37 0) = some (cnT (t2E E m) (LC (mB W b)), iu1 W 37 0) := h'.cn (w := 2) (by omega) []
  rw [noT_st]
  refine wp_eq ?_
  unfold I12_writeNote
  rw [wp_ib, wp_ret el, wp_ib, wp_ipI, wp_ib, wp_ret ec, wp_ig, wp_ite]
  refine ⟨⟨by omega, by omega⟩, ?_⟩
  by_cases z : cnT (t2E E m) (LC (mB W b)) = 0
  · rw [if_pos (by omega), if_pos z]
    have := m_n32 h' h37 (acc := []) (Nat.zero_le _) (B := _) rfl
    rw [wp_ret (show I12_writeNote_32 c (iu1 W 37 0) = _ from this)]
    exact ⟨rfl, rfl⟩
  · rw [if_neg (by omega), if_neg z, wp_ib]
    have hh := hd_l (acc := []) l13
    rw [List.length_nil] at hh
    show wp (I12_writeWord 13) _ (wrs [] (iu1 W 37 0))
    refine w_wo (n := 16384) hR (by rw [l13, List.length_nil]; omega) (by omega) ?_
    rw [hd_1]
    have e2 : I12_writeRuns c 2 (wrs (hdT [] (txt 13)) (iu1 W 37 0)) = some ((), wrs (hdT [] (txt 13) ++ rnT (nmC W b) (t2E E m) (LC (mB W b)).toNat 0 (-1) 0) (iu1 W 37 0)) := m_writeRuns (w := 2) h' (Or.inl rfl) hR (by omega)
    rw [wp_ib, wp_ret e2, wp_ret (m_n32 h' h37 (acc := hdT [] (txt 13) ++ rnT (nmC W b) (t2E E m) (LC (mB W b)).toNat 0 (-1) 0) (by rw [List.length_append]; omega) (B := _) rfl)]
    exact ⟨rfl, rfl⟩
end NOT
