/-! ===== note ===== -/
section NOT
variable {W : IS} {J : JS} {E R : Int → Int} {m mx : Int} {b c : Nat}
theorem hd_1 {i : Nat} : ([] : List Nat) ++ txt i = hdT [] (txt i) := by
  unfold hdT
  rw [if_pos rfl, List.nil_append, List.nil_append, List.nil_append]
theorem hd_2 {acc : List Nat} {i j : Nat} (h : acc ≠ []) (e : txt j = txt 6 ++ txt i) : acc ++ txt j = hdT acc (txt i) := by
  unfold hdT
  rw [if_neg h, e]
theorem hd_l {acc : List Nat} {i : Nat} (hi : (txt i).length = 6) : (hdT acc (txt i)).length ≤ acc.length + 8 := by
  have := txt_l.2.1
  unfold hdT
  rw [List.length_append, List.length_append, hi]
  split
  · rw [List.length_nil]; omega
  · omega
theorem acc_0 {acc : List Nat} : ((acc.length : Int) ≤ 0) ↔ acc = [] := ⟨fun q => List.length_eq_zero_iff.mp (by omega), fun q => by rw [q]; decide⟩
theorem LkQ.cn (h : LkQ W b c E R m mx) {w : Int} (hw : 2 ≤ w ∧ w ≤ 5) (acc : List Nat) : I12_countTold c w (wrs acc W) = some (cnT (tlF E (cjC W b) R m mx w) (tlN (LC (mB W b)) m w), wrs acc W) := by
  obtain ⟨h1, h2, h3⟩ := h.wr acc
  rw [m_countTold h1 hw, h2, h3]
theorem m_n67 (h : LkQ W b c E R m mx) (h37 : W.1 37 = 0) {acc : List Nat} (hl : acc.length ≤ 12000) : I12_writeNote_67 c (wrs acc W) = some ((), wrs (if cnT (t4E E R mx) m = 0 then acc else hdT acc (txt 18) ++ mvT (nmC W b) E (t4E E R mx) m.toNat 0 0) W) := by
  have hm := h.2.2.2.1
  have hR : RmW W 16384 := by unfold RmW; rw [h37]; omega
  have hbt := cnT_bd (t := t4E E R mx) b4 hm.1
  have hh := hd_l (acc := acc) txt_l.2.2.2.2.2.2.2.2.2.2.2
  have e37 : (wrs acc W).1 37 = acc.length := by rw [wrs_37, h37, Int.zero_add]
  have ec : I12_countTold c 4 (wrs acc W) = some (cnT (t4E E R mx) m, wrs acc W) := h.cn (w := 4) (by omega) acc
  refine wp_eq ?_
  unfold I12_writeNote_67 I12_writeNote_94
  rw [wp_ib, wp_ret ec, wp_ig, wp_ite]
  refine ⟨⟨by omega, by omega⟩, ?_⟩
  by_cases z : cnT (t4E E R mx) m = 0
  · rw [if_pos z, if_pos z, wp_ir]
    exact ⟨rfl, rfl⟩
  · rw [if_neg z, if_neg z, wp_ib, wp_igI, e37, wp_ig, wp_ite]
    refine ⟨⟨by omega, by omega⟩, ?_⟩
    have nx : wp (I12_writeNote_101 LFU c 0 0) (fun v t => v = () ∧ t = wrs (hdT acc (txt 18) ++ mvT (nmC W b) E (t4E E R mx) m.toNat 0 0) W) (wrs (hdT acc (txt 18)) W) := by
      rw [wp_ret (m_wn101 h hR m.toNat LFU 0 0 (hdT acc (txt 18)) (Nat.lt_of_le_of_lt (show m.toNat ≤ 400 by omega) (by decide)) (Int.le_refl _) (by omega) (Or.inl rfl) (by omega))]
      exact ⟨rfl, rfl⟩
    by_cases k : acc = []
    · subst k
      rw [if_pos (acc_0.mpr rfl), wp_ib]
      refine w_wo (n := 16384) hR (by rw [txt_l.2.2.2.2.2.2.2.2.2.2.2]; omega) (by omega) ?_
      rw [hd_1]
      exact nx
    · rw [if_neg (fun q => k (acc_0.mp q)), wp_ib]
      refine w_wo (n := 16384) hR (by rw [txt_m.2.2.2]; omega) (by omega) ?_
      rw [hd_2 k txt_m.2.1]
      exact nx
theorem m_n32 (h : LkQ W b c E R m mx) (h37 : W.1 37 = 0) {acc : List Nat} (hl : acc.length ≤ 5000) {B : List Nat} (hB : B = (if cnT (t3E E m) (LC (mB W b)) = 0 then acc else hdT acc (txt 16) ++ rnT (nmC W b) (t3E E m) (LC (mB W b)).toNat 0 (-1) 0)) : I12_writeNote_32 c (wrs acc W) = some ((), wrs (if cnT (t4E E R mx) m = 0 then B else hdT B (txt 18) ++ mvT (nmC W b) E (t4E E R mx) m.toNat 0 0) W) := by
  have hm := h.2.2.2.1
  have hI := h.2.2.1
  have h4 := hI.2.2.1
  have hLn := (LC_tot hI.1).1
  have hR : RmW W 16384 := by unfold RmW; rw [h37]; omega
  have hbt := cnT_bd (t := t3E E m) b3 hLn
  have l16 := txt_l.2.2.2.2.2.2.2.2.2.2.1
  have hh := hd_l (acc := acc) l16
  have hr := rnT_le (t := t3E E m) (nmC_le hI) (LC (mB W b)).toNat 0 (-1) 0
  rw [if_pos (by decide)] at hr
  have e37 : (wrs acc W).1 37 = acc.length := by rw [wrs_37, h37, Int.zero_add]
  have ec : I12_countTold c 3 (wrs acc W) = some (cnT (t3E E m) (LC (mB W b)), wrs acc W) := h.cn (w := 3) (by omega) acc
  refine wp_eq ?_
  unfold I12_writeNote_32 I12_writeNote_58
  rw [wp_ib, wp_ret ec, wp_ig, wp_ite]
  refine ⟨⟨by omega, by omega⟩, ?_⟩
  by_cases z : cnT (t3E E m) (LC (mB W b)) = 0
  · rw [if_pos z] at hB
    subst hB
    rw [if_pos (by omega), wp_ret (m_n67 h h37 (by omega))]
    exact ⟨rfl, rfl⟩
  · rw [if_neg z] at hB
    rw [if_neg (by omega), wp_ib, wp_igI, e37, wp_ig, wp_ite]
    refine ⟨⟨by omega, by omega⟩, ?_⟩
    have nx : wp (ib (I12_writeRuns c 3) fun _ => I12_writeNote_67 c) (fun v t => v = () ∧ t = wrs (if cnT (t4E E R mx) m = 0 then B else hdT B (txt 18) ++ mvT (nmC W b) E (t4E E R mx) m.toNat 0 0) W) (wrs (hdT acc (txt 16)) W) := by
      have e3 : I12_writeRuns c 3 (wrs (hdT acc (txt 16)) W) = some ((), wrs (hdT acc (txt 16) ++ rnT (nmC W b) (t3E E m) (LC (mB W b)).toNat 0 (-1) 0) W) := m_writeRuns (w := 3) h (Or.inr rfl) hR (by omega)
      rw [wp_ib, wp_ret e3, ← hB, wp_ret (m_n67 h h37 (by rw [hB, List.length_append]; omega))]
      exact ⟨rfl, rfl⟩
    by_cases k : acc = []
    · subst k
      rw [if_pos (acc_0.mpr rfl), wp_ib]
      refine w_wo (n := 16384) hR (by rw [l16]; omega) (by omega) ?_
      rw [hd_1]
      exact nx
    · rw [if_neg (fun q => k (acc_0.mp q)), wp_ib]
      refine w_wo (n := 16384) hR (by rw [txt_m.2.2.1]; omega) (by omega) ?_
      rw [hd_2 k txt_m.1]
      exact nx
theorem m_wnote {W0 : IS} (el : I12_look c W0 = some ((), W)) (h : LkQ W b c E R m mx) : I12_writeNote c W0 = some ((), wrs (noT (nmC W b) E (t2E E m) (t3E E m) (t4E E R mx) (LC (mB W b)) m) (iu1 W 37 0)) := by
  have hI := h.2.2.1
  have h4 := hI.2.2.1
  have hLn := (LC_tot hI.1).1
  have h' : LkQ (iu1 W 37 0) b c E R m mx := h
  have h37 : (iu1 W 37 0).1 37 = 0 := by rw [iu1_1, if_pos rfl]
  have hR : RmW (iu1 W 37 0) 16384 := by unfold RmW; rw [h37]; omega
  have hbt := cnT_bd (t := t2E E m) b2 hLn
  have l13 := txt_l.2.2.2.2.2.2.2.2.2.1
  have hr := rnT_le (t := t2E E m) (nmC_le hI) (LC (mB W b)).toNat 0 (-1) 0
  rw [if_pos (by decide)] at hr
  have ec : I12_countTold c 2 (iu1 W 37 0) = some (cnT (t2E E m) (LC (mB W b)), iu1 W 37 0) := h'.cn (w := 2) (by omega) []
  rw [noT_st]
  refine wp_eq ?_
  unfold I12_writeNote
  rw [wp_ib, wp_ret el, wp_ib, wp_ipI, wp_ib, wp_ret ec, wp_ig, wp_ite]
  refine ⟨⟨by omega, by omega⟩, ?_⟩
  by_cases z : cnT (t2E E m) (LC (mB W b)) = 0
  · rw [if_pos (by omega), if_pos z]
    have := m_n32 h' h37 (acc := []) (Nat.zero_le _) (B := _) rfl
    rw [wp_ret (show I12_writeNote_32 c (iu1 W 37 0) = _ from this)]
    exact ⟨rfl, rfl⟩
  · rw [if_neg (by omega), if_neg z, wp_ib]
    have hh := hd_l (acc := []) l13
    rw [List.length_nil] at hh
    show wp (I12_writeWord 13) _ (wrs [] (iu1 W 37 0))
    refine w_wo (n := 16384) hR (by rw [l13, List.length_nil]; omega) (by omega) ?_
    rw [hd_1]
    have e2 : I12_writeRuns c 2 (wrs (hdT [] (txt 13)) (iu1 W 37 0)) = some ((), wrs (hdT [] (txt 13) ++ rnT (nmC W b) (t2E E m) (LC (mB W b)).toNat 0 (-1) 0) (iu1 W 37 0)) := m_writeRuns (w := 2) h' (Or.inl rfl) hR (by omega)
    rw [wp_ib, wp_ret e2, wp_ret (m_n32 h' h37 (acc := hdT [] (txt 13) ++ rnT (nmC W b) (t2E E m) (LC (mB W b)).toNat 0 (-1) 0) (by rw [List.length_append]; omega) (B := _) rfl)]
    exact ⟨rfl, rfl⟩
theorem mvT_cg {nm : Int → List Nat} {t t' : Int → Int} : ∀ (d : Nat) (e f : Int), (∀ x, e ≤ x → x < e + d → t x = t' x) → mvT nm E t d e f = mvT nm E t' d e f
  | 0, _, _, _ => rfl
  | d + 1, e, f, h => by
    have h1 := h e (Int.le_refl _) (by omega)
    show (if t e = 0 then mvT nm E t d (e + 1) f else (if f = 0 then [] else txt 14) ++ (nm (E e) ++ mvT nm E t d (e + 1) 1)) = (if t' e = 0 then mvT nm E t' d (e + 1) f else (if f = 0 then [] else txt 14) ++ (nm (E e) ++ mvT nm E t' d (e + 1) 1))
    rw [h1, mvT_cg d (e + 1) f (fun x x0 x1 => h x (by omega) (by omega)), mvT_cg d (e + 1) 1 (fun x x0 x1 => h x (by omega) (by omega))]
theorem noT_cg {nm : Int → List Nat} {t2 t3 t t' : Int → Int} {n : Int} (hm : 0 ≤ m) (h : ∀ x, 0 ≤ x → x < m → t x = t' x) : noT nm E t2 t3 t n m = noT nm E t2 t3 t' n m := by
  rw [noT_st, noT_st, cnT_cg h hm, mvT_cg m.toNat 0 0 (fun x x0 x1 => h x x0 (by omega))]
theorem noT_le (hI : BkI W (b : Int)) (hm : 0 ≤ m ∧ m ≤ 400) {t2 t3 t4 : Int → Int} : (noT (nmC W b) E t2 t3 t4 (LC (mB W b)) m).length ≤ 12100 := by
  have hL4 := hI.2.2.1
  have hLn := (LC_tot hI.1).1
  have hn := nmC_le hI
  have r2 := rnT_le (t := t2) hn (LC (mB W b)).toNat 0 (-1) 0
  have r3 := rnT_le (t := t3) hn (LC (mB W b)).toNat 0 (-1) 0
  have rm := mvT_le (t := t4) (E := E) hn m.toNat 0 0
  rw [if_pos (by decide)] at r2 r3
  rw [noT_st]
  obtain ⟨A, hA⟩ : ∃ A, A = (if cnT t2 (LC (mB W b)) = 0 then [] else hdT [] (txt 13) ++ rnT (nmC W b) t2 (LC (mB W b)).toNat 0 (-1) 0) := ⟨_, rfl⟩
  have lA : A.length ≤ 4010 := by
    rw [hA]
    split
    · exact Nat.zero_le _
    · have := hd_l (acc := []) txt_l.2.2.2.2.2.2.2.2.2.1
      rw [List.length_append]
      rw [List.length_nil] at this
      omega
  rw [← hA]
  obtain ⟨B, hB⟩ : ∃ B, B = (if cnT t3 (LC (mB W b)) = 0 then A else hdT A (txt 16) ++ rnT (nmC W b) t3 (LC (mB W b)).toNat 0 (-1) 0) := ⟨_, rfl⟩
  have lB : B.length ≤ 8020 := by
    rw [hB]
    split
    · omega
    · have := hd_l (acc := A) txt_l.2.2.2.2.2.2.2.2.2.2.1
      rw [List.length_append]
      omega
  rw [← hB]
  split
  · omega
  · have := hd_l (acc := B) txt_l.2.2.2.2.2.2.2.2.2.2.2
    rw [List.length_append]
    omega
theorem p_note (hI : Inv W J) {a k : Int} (ha : R32 a) (hk : R32 k) : SQ (I12_note a k) (G11_note a k) W J := by
  unfold I12_note G11_note
  refine k_at hI ha (s_no hI) fun c e hc h16 hK => ?_
  subst e
  obtain ⟨b, W', R, mx, hb, hb8, -, el, f, hI', hL, em, ec, hR, hmx, hq⟩ := b_look hI h16 hK
  have hB' := (hI'.2.2.2.2.2.1 b hb).2.1
  have hm := hq.2.2.2.1
  have en : nmC W' b = nmC W b := by
    funext p
    unfold nmC nmT
    rw [em, f.2 12 (by omega), f.2 13 (by omega), f.2 14 (by omega)]
  obtain ⟨q1, q2, q3, q4, q5, q6, q7, q8, q9, R', mx', hR', hmx', q10, q11, q12⟩ := hq
  refine s_mr (m_wnote el hL) (s_c ?_)
  rw [jp_Tx]
  refine ⟨hc, t_tell hI'.wr (by rw [iu1_1, if_pos rfl]) (by have := noT_le (E := eC W c) (t2 := t2E (eC W c) (W.2 17 c)) (t3 := t3E (eC W c) (W.2 17 c)) (t4 := t4E (eC W c) R mx) hB' hm; omega) q11 ?_ hk⟩
  rw [q12, en, em]
  exact noT_cg hm.1 fun x x0 x1 => (t4_u hm hR hR' hmx hmx' x x0 x1).symm
end NOT
