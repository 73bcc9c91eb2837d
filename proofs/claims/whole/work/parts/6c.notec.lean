/-! ===== note: the whole ===== -/
section NOT
variable {W : IS} {J : JS} {E R : Int → Int} {m mx : Int} {b c : Nat}
theorem mB_2 {W1 : IS} (e : W1.2 = W.2) {b : Int} : mB W1 b = mB W b := by
  unfold mB
  rw [e]
theorem LkQ.e2 {W1 : IS} (h : LkQ W b c E R m mx) (e : W1.2 = W.2) : LkQ W1 b c E R m mx := by
  have em := mB_2 (W := W) e (b := (b : Int))
  unfold LkQ BkI mL at h ⊢
  rw [em, e]
  exact h
theorem nmC_2 {W1 : IS} (e : W1.2 = W.2) : nmC W1 b = nmC W b := by
  have em := mB_2 (W := W) e (b := (b : Int))
  funext p
  unfold nmC nmT
  rw [em, e]
def wnP (c : Int) : IM Unit := ib (I12_countTold c 2) fun v1 => ig (R32 v1) <| if v1 ≤ 0 then I12_writeNote_32 c else (ib (I12_writeWord 13) fun _ => ib (I12_writeRuns c 2) fun _ => I12_writeNote_32 c)
theorem m_wn0 (h : LkQ W b c E R m mx) (h37 : W.1 37 = 0) : wnP c W = some ((), wrs (noT (nmC W b) E (t2E E m) (t3E E m) (t4E E R mx) (LC (mB W b)) m) W) := by
  have hI := h.2.2.1
  have h4 := hI.2.2.1
  have hLn := (LC_tot hI.1).1
  have e0 : wrs [] W = W := rfl
  have hR : RmW W 16384 := by unfold RmW; rw [h37]; omega
  have hbt := cnT_bd (t := t2E E m) b2 hLn
  have l13 := txt_l.2.2.2.2.2.2.2.2.2.1
  have hh := hd_l (acc := []) l13
  rw [List.length_nil] at hh
  have hr := rnT_le (t := t2E E m) (nmC_le hI) (LC (mB W b)).toNat 0 (-1) 0
  rw [if_pos (by decide)] at hr
  have ec : I12_countTold c 2 (wrs [] W) = some (cnT (t2E E m) (LC (mB W b)), wrs [] W) := h.cn (w := 2) (by omega) []
  rw [e0] at ec
  rw [noT_st]
  by_cases z : cnT (t2E E m) (LC (mB W b)) = 0
  · rw [if_pos z]
    obtain ⟨B, hB⟩ : ∃ B, B = (if cnT (t3E E m) (LC (mB W b)) = 0 then ([] : List Nat) else hdT [] (txt 16) ++ rnT (nmC W b) (t3E E m) (LC (mB W b)).toNat 0 (-1) 0) := ⟨_, rfl⟩
    have e := m_n32 h h37 (acc := []) (Nat.zero_le _) hB
    rw [e0] at e
    rw [← hB]
    refine wp_eq ?_
    unfold wnP
    rw [wp_ib, wp_ret ec, wp_ig, wp_ite, if_pos (show cnT (t2E E m) (LC (mB W b)) ≤ 0 by omega), wp_ret e]
    exact ⟨⟨by omega, by omega⟩, rfl, rfl⟩
  · rw [if_neg z]
    obtain ⟨A, hA⟩ : ∃ A, A = hdT [] (txt 13) ++ rnT (nmC W b) (t2E E m) (LC (mB W b)).toNat 0 (-1) 0 := ⟨_, rfl⟩
    rw [← hA]
    obtain ⟨B, hB⟩ : ∃ B, B = (if cnT (t3E E m) (LC (mB W b)) = 0 then A else hdT A (txt 16) ++ rnT (nmC W b) (t3E E m) (LC (mB W b)).toNat 0 (-1) 0) := ⟨_, rfl⟩
    have lA : A.length ≤ 5000 := by
      rw [hA, List.length_append]
      omega
    have e := m_n32 h h37 (acc := A) lA hB
    rw [← hB]
    have e13 : I12_writeWord 13 (wrs [] W) = some ((), wrs (hdT [] (txt 13)) W) := by
      refine wp_eq (w_wo (n := 16384) hR (by rw [l13, List.length_nil]; omega) (by omega) ?_)
      rw [hd_1]
      exact ⟨rfl, rfl⟩
    rw [e0] at e13
    have e2 : I12_writeRuns c 2 (wrs (hdT [] (txt 13)) W) = some ((), wrs (hdT [] (txt 13) ++ rnT (nmC W b) (t2E E m) (LC (mB W b)).toNat 0 (-1) 0) W) := m_writeRuns (w := 2) h (Or.inl rfl) hR (by omega)
    rw [← hA] at e2
    refine wp_eq ?_
    unfold wnP
    rw [wp_ib, wp_ret ec, wp_ig, wp_ite, if_neg (show ¬ cnT (t2E E m) (LC (mB W b)) ≤ 0 by omega), wp_ib, wp_ret e13, wp_ib, wp_ret e2, wp_ret e]
    exact ⟨⟨by omega, by omega⟩, rfl, rfl⟩
theorem m_wnote {W0 : IS} (el : I12_look c W0 = some ((), W)) (h : LkQ W b c E R m mx) : I12_writeNote c W0 = some ((), wrs (noT (nmC W b) E (t2E E m) (t3E E m) (t4E E R mx) (LC (mB W b)) m) (iu1 W 37 0)) := by
  obtain ⟨W1, hW1⟩ : ∃ W1, W1 = iu1 W 37 0 := ⟨_, rfl⟩
  have e2 : W1.2 = W.2 := by rw [hW1]; rfl
  have e := m_wn0 (h.e2 e2) (by rw [hW1, iu1_1, if_pos rfl])
  rw [nmC_2 e2, mB_2 e2] at e
  refine wp_eq ?_
  unfold I12_writeNote
  rw [wp_ib, wp_ret el, wp_ib, wp_ipI, ← hW1]
  show wp (wnP c) _ W1
  rw [wp_ret e]
  exact ⟨rfl, rfl⟩
end NOT
