/-! ===== note: the model writes what stands twice, what is elsewhere ===== -/
section NOT
variable {W : IS} {J : JS} {E R : Int → Int} {m mx : Int} {b c : Nat}
theorem hd_1 {i : Nat} : ([] : List Nat) ++ txt i = hdT [] (txt i) := by
  unfold hdT
  rw [if_pos rfl, List.nil_append, List.nil_append]
theorem hd_2 {acc : List Nat} {i j : Nat} (h : acc ≠ []) (e : txt j = txt 6 ++ txt i) : acc ++ txt j = hdT acc (txt i) := by
  unfold hdT
  rw [if_neg h, e]
theorem hd_l {acc : List Nat} {i : Nat} (hi : (txt i).length = 6) : (hdT acc (txt i)).length ≤ acc.length + 8 := by
  have := txt_l.2.1
  unfold hdT
  rw [List.length_append, List.length_append, hi]
  split
  · rw [List.length_nil]; omega
  · omega
theorem acc_0 {acc : List Nat} : ((acc.length : Int) ≤ 0) ↔ acc = [] := ⟨fun q => List.length_eq_zero_iff.mp (by omega), fun q => by rw [q]; decide⟩
theorem LkQ.cn (h : LkQ W b c E R m mx) {w : Int} (hw : 2 ≤ w ∧ w ≤ 5) (acc : List Nat) : I12_countTold c w (wrs acc W) = some (cnT (tlF E (cjC W b) R m mx w) (tlN (LC (mB W b)) m w), wrs acc W) := by
  obtain ⟨h1, h2, h3⟩ := h.wr acc
  rw [m_countTold h1 hw, h2, h3]
theorem m_n67 (h : LkQ W b c E R m mx) (h37 : W.1 37 = 0) {acc : List Nat} (hl : acc.length ≤ 12000) : I12_writeNote_67 c (wrs acc W) = some ((), wrs (if cnT (t4E E R mx) m = 0 then acc else hdT acc (txt 18) ++ mvT (nmC W b) E (t4E E R mx) m.toNat 0 0) W) := by
  have hm := h.2.2.2.1
  have hR : RmW W 16384 := by unfold RmW; rw [h37]; omega
  have hbt := cnT_bd (t := t4E E R mx) b4 hm.1
  have hh := hd_l (acc := acc) txt_l.2.2.2.2.2.2.2.2.2.2.2
  have e37 : (wrs acc W).1 37 = acc.length := by rw [wrs_37, h37, Int.zero_add]
  have ec : I12_countTold c 4 (wrs acc W) = some (cnT (t4E E R mx) m, wrs acc W) := h.cn (w := 4) (by omega) acc
  refine wp_eq ?_
  unfold I12_writeNote_67 I12_writeNote_94
  rw [wp_ib, wp_ret ec, wp_ig, wp_ite]
  refine ⟨⟨by omega, by omega⟩, ?_⟩
  by_cases z : cnT (t4E E R mx) m = 0
  · rw [if_pos z, if_pos z, wp_ir]
    exact ⟨rfl, rfl⟩
  · rw [if_neg z, if_neg z, wp_ib, wp_igI, e37, wp_ig, wp_ite]
    refine ⟨⟨by omega, by omega⟩, ?_⟩
    have nx : wp (I12_writeNote_101 LFU c 0 0) (fun v t => v = () ∧ t = wrs (hdT acc (txt 18) ++ mvT (nmC W b) E (t4E E R mx) m.toNat 0 0) W) (wrs (hdT acc (txt 18)) W) := by
      rw [wp_ret (m_wn101 h hR m.toNat LFU 0 0 (hdT acc (txt 18)) (Nat.lt_of_le_of_lt (show m.toNat ≤ 400 by omega) (by decide)) (Int.le_refl _) (by omega) (Or.inl rfl) (by omega))]
      exact ⟨rfl, rfl⟩
    by_cases k : acc = []
    · subst k
      rw [if_pos (acc_0.mpr rfl), wp_ib]
      refine w_wo (n := 16384) hR (by rw [txt_l.2.2.2.2.2.2.2.2.2.2.2]; omega) (by omega) ?_
      rw [hd_1]
      exact nx
    · rw [if_neg (fun q => k (acc_0.mp q)), wp_ib]
      refine w_wo (n := 16384) hR (by rw [txt_m.2.2.2]; omega) (by omega) ?_
      rw [hd_2 k txt_m.2.1]
      exact nx
end NOT
