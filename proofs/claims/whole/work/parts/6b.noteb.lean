/-! ===== note: behind what is missing ===== -/
section NOT
variable {W : IS} {J : JS} {E R : Int → Int} {m mx : Int} {b c : Nat}
theorem m_n32 (h : LkQ W b c E R m mx) (h37 : W.1 37 = 0) {acc : List Nat} (hl : acc.length ≤ 5000) {B : List Nat} (hB : B = (if cnT (t3E E m) (LC (mB W b)) = 0 then acc else hdT acc (txt 16) ++ rnT (nmC W b) (t3E E m) (LC (mB W b)).toNat 0 (-1) 0)) : I12_writeNote_32 c (wrs acc W) = some ((), wrs (if cnT (t4E E R mx) m = 0 then B else hdT B (txt 18) ++ mvT (nmC W b) E (t4E E R mx) m.toNat 0 0) W) := by
  have hm := h.2.2.2.1
  have hI := h.2.2.1
  have h4 := hI.2.2.1
  have hLn := (LC_tot hI.1).1
  have hR : RmW W 16384 := by unfold RmW; rw [h37]; omega
  have hbt := cnT_bd (t := t3E E m) b3 hLn
  have l16 := txt_l.2.2.2.2.2.2.2.2.2.2.1
  have hh := hd_l (acc := acc) l16
  have hr := rnT_le (t := t3E E m) (nmC_le hI) (LC (mB W b)).toNat 0 (-1) 0
  rw [if_pos (by decide)] at hr
  have e37 : (wrs acc W).1 37 = acc.length := by rw [wrs_37, h37, Int.zero_add]
  have ec : I12_countTold c 3 (wrs acc W) = some (cnT (t3E E m) (LC (mB W b)), wrs acc W) := h.cn (w := 3) (by omega) acc
  refine wp_eq ?_
  unfold I12_writeNote_32 I12_writeNote_58
  rw [wp_ib, wp_ret ec, wp_ig, wp_ite]
  refine ⟨⟨by omega, by omega⟩, ?_⟩
  by_cases z : cnT (t3E E m) (LC (mB W b)) = 0
  · rw [if_pos z] at hB
    subst hB
    rw [if_pos (by omega), wp_ret (m_n67 h h37 (by omega))]
    exact ⟨rfl, rfl⟩
  · rw [if_neg z] at hB
    rw [if_neg (by omega), wp_ib, wp_igI, e37, wp_ig, wp_ite]
    refine ⟨⟨by omega, by omega⟩, ?_⟩
    have nx : wp (ib (I12_writeRuns c 3) fun _ => I12_writeNote_67 c) (fun v t => v = () ∧ t = wrs (if cnT (t4E E R mx) m = 0 then B else hdT B (txt 18) ++ mvT (nmC W b) E (t4E E R mx) m.toNat 0 0) W) (wrs (hdT acc (txt 16)) W) := by
      have e3 : I12_writeRuns c 3 (wrs (hdT acc (txt 16)) W) = some ((), wrs (hdT acc (txt 16) ++ rnT (nmC W b) (t3E E m) (LC (mB W b)).toNat 0 (-1) 0) W) := m_writeRuns (w := 3) h (Or.inr rfl) hR (by omega)
      rw [wp_ib, wp_ret e3, ← hB, wp_ret (m_n67 h h37 (by rw [hB, List.length_append]; omega))]
      exact ⟨rfl, rfl⟩
    by_cases k : acc = []
    · subst k
      rw [if_pos (acc_0.mpr rfl), wp_ib]
      refine w_wo (n := 16384) hR (by rw [l16]; omega) (by omega) ?_
      rw [hd_1]
      exact nx
    · rw [if_neg (fun q => k (acc_0.mp q)), wp_ib]
      refine w_wo (n := 16384) hR (by rw [txt_m.2.2.1]; omega) (by omega) ?_
      rw [hd_2 k txt_m.1]
      exact nx
end NOT
