/-! ===== note ===== -/
section NOT
variable {W : IS} {J : JS} {E R : Int → Int} {m mx : Int} {b c : Nat}
theorem mvT_cg {nm : Int → List Nat} {t t' : Int → Int} : ∀ (d : Nat) (e f : Int), (∀ x, e ≤ x → x < e + d → t x = t' x) → mvT nm E t d e f = mvT nm E t' d e f
  | 0, _, _, _ => rfl
  | d + 1, e, f, h => by
    have h1 := h e (Int.le_refl _) (by omega)
    show (if t e = 0 then mvT nm E t d (e + 1) f else (if f = 0 then [] else txt 14) ++ (nm (E e) ++ mvT nm E t d (e + 1) 1)) = (if t' e = 0 then mvT nm E t' d (e + 1) f else (if f = 0 then [] else txt 14) ++ (nm (E e) ++ mvT nm E t' d (e + 1) 1))
    rw [h1, mvT_cg d (e + 1) f (fun x x0 x1 => h x (by omega) (by omega)), mvT_cg d (e + 1) 1 (fun x x0 x1 => h x (by omega) (by omega))]
theorem noT_cg {nm : Int → List Nat} {t2 t3 t t' : Int → Int} {n : Int} (hm : 0 ≤ m) (h : ∀ x, 0 ≤ x → x < m → t x = t' x) : noT nm E t2 t3 t n m = noT nm E t2 t3 t' n m := by
  rw [noT_st, noT_st, cnT_cg h hm, mvT_cg m.toNat 0 0 (fun x x0 x1 => h x x0 (by omega))]
theorem noT_le (hI : BkI W (b : Int)) (hm : 0 ≤ m ∧ m ≤ 400) {t2 t3 t4 : Int → Int} : (noT (nmC W b) E t2 t3 t4 (LC (mB W b)) m).length ≤ 12100 := by
  have hL4 := hI.2.2.1
  have hLn := (LC_tot hI.1).1
  have hn := nmC_le hI
  have r2 := rnT_le (t := t2) hn (LC (mB W b)).toNat 0 (-1) 0
  have r3 := rnT_le (t := t3) hn (LC (mB W b)).toNat 0 (-1) 0
  have rm := mvT_le (t := t4) (E := E) hn m.toNat 0 0
  rw [if_pos (by decide)] at r2 r3
  rw [noT_st]
  obtain ⟨A, hA⟩ : ∃ A, A = (if cnT t2 (LC (mB W b)) = 0 then [] else hdT [] (txt 13) ++ rnT (nmC W b) t2 (LC (mB W b)).toNat 0 (-1) 0) := ⟨_, rfl⟩
  have lA : A.length ≤ 4010 := by
    rw [hA]
    split
    · exact Nat.zero_le _
    · have := hd_l (acc := []) txt_l.2.2.2.2.2.2.2.2.2.1
      rw [List.length_append]
      rw [List.length_nil] at this
      omega
  rw [← hA]
  obtain ⟨B, hB⟩ : ∃ B, B = (if cnT t3 (LC (mB W b)) = 0 then A else hdT A (txt 16) ++ rnT (nmC W b) t3 (LC (mB W b)).toNat 0 (-1) 0) := ⟨_, rfl⟩
  have lB : B.length ≤ 8020 := by
    rw [hB]
    split
    · omega
    · have := hd_l (acc := A) txt_l.2.2.2.2.2.2.2.2.2.2.1
      rw [List.length_append]
      omega
  rw [← hB]
  split
  · omega
  · have := hd_l (acc := B) txt_l.2.2.2.2.2.2.2.2.2.2.2
    rw [List.length_append]
    omega
theorem p_note (hI : Inv W J) {a k : Int} (ha : R32 a) (hk : R32 k) : SQ (I12_note a k) (G11_note a k) W J := by
  unfold I12_note G11_note
  refine k_at hI ha (s_no hI) fun c e hc h16 hK => ?_
  subst e
  obtain ⟨b, W', R, mx, hb, hb8, -, el, f, hI', hL, em, ec, hR, hmx, hq⟩ := b_look hI h16 hK
  have hB' := (hI'.2.2.2.2.2.1 b hb).2.1
  have hm := hq.2.2.2.1
  have en : nmC W' b = nmC W b := by
    funext p
    unfold nmC nmT
    rw [em, f.2 12 (by omega), f.2 13 (by omega), f.2 14 (by omega)]
  obtain ⟨q1, q2, q3, q4, q5, q6, q7, q8, q9, R', mx', hR', hmx', q10, q11, q12⟩ := hq
  refine s_mr (m_wnote el hL) (s_c ?_)
  rw [jp_Tx]
  refine ⟨hc, t_tell hI'.wr (by rw [iu1_1, if_pos rfl]) (by have := noT_le (E := eC W c) (t2 := t2E (eC W c) (W.2 17 c)) (t3 := t3E (eC W c) (W.2 17 c)) (t4 := t4E (eC W c) R mx) hB' hm; omega) q11 ?_ hk⟩
  rw [q12, en, em]
  exact noT_cg hm.1 fun x x0 x1 => (t4_u hm hR hR' hmx hmx' x x0 x1).symm
end NOT
