/-! ===== the class writes a note; a copy is kept ===== -/
section KEP
variable {W : IS} {J J' : JS} {t E : Int → Int} {n m : Int} {b c id : Nat}
theorem jr_r (h : J'.2.2 = J.2.2) : jr J' = jr J := by unfold jr; rw [h]
theorem jT_r (h : J'.2.2 = J.2.2) : jT J' = jT J := by unfold jT; rw [h]
theorem jt_r (h : J'.2.2 = J.2.2) : jt J' = jt J := by unfold jt; rw [h]
theorem jd_r (h : J'.2.2 = J.2.2) : jd J' = jd J := by unfold jd; rw [h]
theorem jb_r (h : J'.2.2 = J.2.2) : jb J' = jb J := by unfold jb; rw [h]
theorem jw_r (h : J'.2.2 = J.2.2) : jw J' = jw J := by unfold jw; rw [h]
theorem jn_r (h : J'.2.2 = J.2.2) : jn J' = jn J := by unfold jn; rw [h]
theorem c_writeRuns (hC : CT J) (hJ : BoR J W b) (hI : BkI W (b : Int)) (hb : b01 t) (hx : rxk J id) (hid : 12 ≤ id) (hL : LsR J id t (LC (mB W b))) {i : Nat} (hi : i < 19) (hi6 : (txt i).length = 6) {acc : List Nat} (hl : acc.length ≤ 12000) : G9_writeRuns i b id (jux J acc) = some ((), jux J (if cnT t (LC (mB W b)) = 0 then acc else hdT acc (txt i) ++ rnT (nmC W b) t (LC (mB W b)).toNat 0 (-1) 0)) := by
  have h4 := hI.2.2.1
  have hLn := (LC_tot hI.1).1
  have hbn := cnT_bd hb hLn
  have e1 : js (jux J acc) 1 id = cnT t (LC (mB W b)) := hL.1
  have hx' : id ≤ 12 ∨ (100 ≤ id ∧ id < 100 + 4 * jB (jux J acc)) ∨ (200 ≤ id ∧ id < 200 + 5 * jC (jux J acc)) := hx
  refine wp_eq ?_
  unfold G9_writeRuns
  rw [wp_ib, jG1, kj_1, e1, wp_ig, wp_ite]
  refine ⟨hx', ⟨by omega, by omega⟩, ?_⟩
  by_cases k : cnT t (LC (mB W b)) = 0
  · rw [if_pos k, if_pos k, jp_ret]
    exact ⟨rfl, rfl⟩
  · have hh : (hdT acc (txt i)).length ≤ acc.length + 8 := by
      have := txt_l.2.1
      unfold hdT
      rw [List.length_append, List.length_append, hi6]
      split
      · rw [List.length_nil]; omega
      · omega
    rw [if_neg k, if_neg k, wp_ib, wp_ret (c_head2 hC hi (by omega)), wp_ret (c_runs19 hC hJ hI hb hx hid hL (LC (mB W b)).toNat 0 (-1) 0 (hdT acc (txt i)) LFU 0 0 (Nat.lt_of_le_of_lt (show (LC (mB W b)).toNat ≤ 400 by omega) (by decide)) (Int.le_refl _) (by omega) rfl (Or.inl ⟨rfl, rfl⟩) (Or.inl ⟨rfl, rfl⟩) (by rw [if_pos (by decide)]; omega))]
    exact ⟨rfl, rfl⟩
theorem c_mv19 (hC : CT J) (hJ : BoR J W b) (hI : BkI W (b : Int)) (hb : b01 t) (hc : c < jC J) (hr : jr J c = b) (hm : 0 ≤ m ∧ m ≤ 400) (hL : LsR J (200 + 3 + 5 * c) t m) (hRo : RoR J (200 + 5 * c) E m) (hE : ∀ i, 0 ≤ i → i < m → 0 ≤ E i ∧ E i < LC (mB W b)) : ∀ (d : Nat) (e f : Int) (acc : List Nat) (k : Nat) (x2 : Int), d < k → 0 ≤ e → e + d = m → x2 = cnT t e → ((f = 0 ∧ x2 = 0) ∨ (f = 1 ∧ 0 < x2)) → acc.length + 10 * d ≤ 16384 → G9_writeMoved_19 k c x2 (jux J acc) = some ((), jux J (acc ++ mvT (nmC W b) E t d e f)) := by
  have hbm := cnT_bd hb hm.1
  have hL0 : ∀ acc : List Nat, js (jux J acc) 1 (203 + 5 * c) = cnT t m := fun acc => hL.1
  have x3 : ∀ acc : List Nat, (203 + 5 * c ≤ 12 ∨ (100 ≤ 203 + 5 * c ∧ 203 + 5 * c < 100 + 4 * jB (jux J acc)) ∨ (200 ≤ 203 + 5 * c ∧ 203 + 5 * c < 200 + 5 * jC (jux J acc))) := fun acc => rx_c (r := 3) (J := jux J acc) hc (by omega)
  have x0 : ∀ acc : List Nat, (200 + 5 * c ≤ 12 ∨ (100 ≤ 200 + 5 * c ∧ 200 + 5 * c < 100 + 4 * jB (jux J acc)) ∨ (200 ≤ 200 + 5 * c ∧ 200 + 5 * c < 200 + 5 * jC (jux J acc))) := fun acc => rx_c (r := 0) (J := jux J acc) hc (by omega)
  intro d
  induction d with
  | zero =>
    intro e f acc k x2 hk e0 e1 e5 hf hl
    cases k with
    | zero => omega
    | succ k =>
      have ee : e = m := by omega
      refine wp_eq ?_
      unfold G9_writeMoved_19 G9_writeMoved_19_st
      rw [wp_ib, jp_E, kj_4, wp_ib, jG1, kj_1, hL0, wp_ig, wp_ig, wp_ite, if_pos (show cnT t m ≤ x2 by rw [e5, ee]; exact Int.le_refl _), jp_ret]
      refine ⟨hc, x3 acc, ⟨by omega, by omega⟩, ⟨by rw [e5, ee]; omega, by rw [e5, ee]; omega⟩, rfl, ?_⟩
      unfold mvT
      rw [List.append_nil]
  | succ d ih =>
    intro e f acc k x2 hk e0 e1 e5 hf hl
    have he := cnT_bd hb e0
    rcases hb e with te | te
    · rw [ih (e + 1) f acc k x2 (by omega) (by omega) (by omega) (by rw [e5, cnT_s e0, te, Int.add_zero]) hf (by omega)]
      show _ = some ((), jux J (acc ++ (if t e = 0 then mvT (nmC W b) E t d (e + 1) f else _)))
      rw [if_pos te]
    · cases k with
      | zero => omega
      | succ k =>
        have hlt := cnT_lt hb e0 (show e < m by omega) te
        have hEe := hE e e0 (by omega)
        have ht14 := txt_l.1
        have n1 := nmC_le hI (E e)
        have er : mvT (nmC W b) E t (d + 1) e f = (if f = 0 then [] else txt 14) ++ (nmC W b (E e) ++ mvT (nmC W b) E t d (e + 1) 1) := by
          show (if t e = 0 then _ else _) = _
          rw [if_neg (by omega)]
        rw [er]
        have body : ∀ acc1 : List Nat, acc1.length ≤ acc.length + 2 → wp (G9_writeMoved_44 (G9_writeMoved_19 k) c x2) (fun v t' => v = () ∧ t' = jux J (acc1 ++ (nmC W b (E e) ++ mvT (nmC W b) E t d (e + 1) 1))) (jux J acc1) := fun acc1 ha => by
          have g1 : G8_get (203 + 5 * c) x2 (jux J acc1) = some (e, jux J acc1) := by
            rw [c_get (J := jux J acc1) (x3 acc1) ⟨by omega, by omega⟩ (by rw [hL0]; omega) (by rw [hL0, rl4 (by omega)]; omega), hL0, if_pos (by omega), e5]
            rw [show ja (jux J acc1) 1 (203 + 5 * c) (cnT t e) = e from hL.2 e e0 (by omega) te]
          have g2 : G8_get (200 + 5 * c) e (jux J acc1) = some (E e, jux J acc1) := RoR.g (J := jux J acc1) (E := E) (m := m) hRo (x0 acc1) ⟨hm.1, by rw [rl4 (by omega)]; omega⟩ e0 (by omega) hm.2
          unfold G9_writeMoved_44
          rw [wp_ib, jp_R, wp_ib, jp_E, kj_4, wp_ib, jp_E, kj_4, wp_ib, jp_E, kj_1, wp_ib, wp_ret g1, wp_ib, jp_E, kj_1, wp_ib, wp_ret g2, wp_ib, jux_jr, hr, wp_ret (c_writeName hC hJ hI hEe.1 hEe.2 (l := acc1) (by omega)), ← nmC_in ⟨hEe.1, hEe.2⟩, wp_ret (ih (e + 1) 1 _ k (x2 + 1) (by omega) (by omega) (by omega) (by rw [cnT_s e0, te, e5]) (Or.inr ⟨rfl, by omega⟩) (by rw [List.length_append]; omega)), List.append_assoc]
          exact ⟨hc, hc, hc, x3 acc1, x0 acc1, rfl, rfl⟩
        refine wp_eq ?_
        unfold G9_writeMoved_19 G9_writeMoved_19_st
        rw [wp_ib, jp_E, kj_4, wp_ib, jG1, kj_1, hL0, wp_ig, wp_ig, wp_ite, if_neg (show ¬ cnT t m ≤ x2 by omega), wp_ite]
        refine ⟨hc, x3 acc, ⟨by omega, by omega⟩, ⟨by omega, by omega⟩, ?_⟩
        rcases hf with ⟨f0, f4⟩ | ⟨f0, f4⟩
        · rw [if_pos (by omega), if_pos f0, List.nil_append]
          exact body acc (by omega)
        · rw [if_neg (by omega), if_neg (by omega), wp_ib, jp_Xs, jux_x, jux_t, hC.2 7 (by omega), txt_l.2.2.2.2.2.2.2.2.1, jux_jux, ← List.append_assoc]
          exact ⟨⟨show 7 < jT J by have := hC.1; omega, by omega⟩, body _ (by rw [List.length_append]; omega)⟩
theorem noT_st {nm : Int → List Nat} {E t2 t3 t4 : Int → Int} : noT nm E t2 t3 t4 n m = (if cnT t4 m = 0 then (if cnT t3 n = 0 then (if cnT t2 n = 0 then [] else hdT [] (txt 13) ++ rnT nm t2 n.toNat 0 (-1) 0) else hdT (if cnT t2 n = 0 then [] else hdT [] (txt 13) ++ rnT nm t2 n.toNat 0 (-1) 0) (txt 16) ++ rnT nm t3 n.toNat 0 (-1) 0) else hdT (if cnT t3 n = 0 then (if cnT t2 n = 0 then [] else hdT [] (txt 13) ++ rnT nm t2 n.toNat 0 (-1) 0) else hdT (if cnT t2 n = 0 then [] else hdT [] (txt 13) ++ rnT nm t2 n.toNat 0 (-1) 0) (txt 16) ++ rnT nm t3 n.toNat 0 (-1) 0) (txt 18) ++ mvT nm E t4 m.toNat 0 0) := rfl
theorem c_noteText {t2 t3 t4 : Int → Int} (hC : CT J) (hJ : BoR J W b) (hI : BkI W (b : Int)) (hc : c < jC J) (hr : jr J c = b) (hm : 0 ≤ m ∧ m ≤ 400) (hb2 : b01 t2) (hb3 : b01 t3) (hb4 : b01 t4) (h2 : LsR J (200 + 1 + 5 * c) t2 (LC (mB W b))) (h3 : LsR J (200 + 2 + 5 * c) t3 (LC (mB W b))) (h4 : LsR J (200 + 3 + 5 * c) t4 m) (hRo : RoR J (200 + 5 * c) E m) (hE : ∀ i, 0 ≤ i → i < m → 0 ≤ E i ∧ E i < LC (mB W b)) : G9_noteText c J = some (jT J, juT (jux J (noT (nmC W b) E t2 t3 t4 (LC (mB W b)) m))) ∧ (noT (nmC W b) E t2 t3 t4 (LC (mB W b)) m).length ≤ 12100 := by
  have hL4 := hI.2.2.1
  have hLn := (LC_tot hI.1).1
  obtain ⟨l14, l6, l5, l8, l9, e5, e8, e9, e7, l13, l16, l18⟩ := txt_l
  have hn := nmC_le hI
  have r2 := rnT_le (t := t2) hn (LC (mB W b)).toNat 0 (-1) 0
  have r3 := rnT_le (t := t3) hn (LC (mB W b)).toNat 0 (-1) 0
  have rm := mvT_le (t := t4) (E := E) hn m.toNat 0 0
  rw [if_pos (by decide)] at r2 r3
  have hd : ∀ (acc : List Nat) (i : Nat), (txt i).length = 6 → (hdT acc (txt i)).length ≤ acc.length + 8 := fun acc i hi => by
    unfold hdT
    rw [List.length_append, List.length_append, hi]
    split
    · rw [List.length_nil]; omega
    · omega
  rw [noT_st]
  obtain ⟨A, hA⟩ : ∃ A, A = (if cnT t2 (LC (mB W b)) = 0 then [] else hdT [] (txt 13) ++ rnT (nmC W b) t2 (LC (mB W b)).toNat 0 (-1) 0) := ⟨_, rfl⟩
  have lA : A.length ≤ 4010 := by
    rw [hA]
    split
    · exact Nat.zero_le _
    · have := hd [] 13 l13
      rw [List.length_append]
      rw [List.length_nil] at this
      omega
  rw [← hA]
  obtain ⟨B, hB⟩ : ∃ B, B = (if cnT t3 (LC (mB W b)) = 0 then A else hdT A (txt 16) ++ rnT (nmC W b) t3 (LC (mB W b)).toNat 0 (-1) 0) := ⟨_, rfl⟩
  have lB : B.length ≤ 8020 := by
    rw [hB]
    split
    · omega
    · have := hd A 16 l16
      rw [List.length_append]
      omega
  rw [← hB]
  have lC : (if cnT t4 m = 0 then B else hdT B (txt 18) ++ mvT (nmC W b) E t4 m.toNat 0 0).length ≤ 12100 := by
    split
    · omega
    · have := hd B 18 l18
      rw [List.length_append]
      omega
  refine ⟨wp_eq ?_, lC⟩
  have w2 := c_writeRuns hC hJ hI hb2 (rx_c (r := 1) hc (by omega)) (by omega) h2 (i := 5) (by omega) l5 (acc := []) (Nat.zero_le _)
  rw [e5, ← hA] at w2
  have w3 := c_writeRuns hC hJ hI hb3 (rx_c (r := 2) hc (by omega)) (by omega) h3 (i := 8) (by omega) l8 (acc := A) (by omega)
  rw [e8, ← hB] at w3
  have w4 : G9_writeMoved c (jux J B) = some ((), jux J (if cnT t4 m = 0 then B else hdT B (txt 18) ++ mvT (nmC W b) E t4 m.toNat 0 0)) := by
    have hbm := cnT_bd hb4 hm.1
    have e1 : js (jux J B) 1 (203 + 5 * c) = cnT t4 m := h4.1
    refine wp_eq ?_
    unfold G9_writeMoved
    rw [wp_ib, jp_E, kj_4, wp_ib, jG1, kj_1, e1, wp_ig, wp_ite]
    refine ⟨hc, rx_c (r := 3) (J := jux J B) hc (by omega), ⟨by omega, by omega⟩, ?_⟩
    by_cases k : cnT t4 m = 0
    · rw [if_pos k, if_pos k, jp_ret]
      exact ⟨rfl, rfl⟩
    · have hh := hd B 18 l18
      rw [if_neg k, if_neg k, wp_ib, wp_ret (c_head2 hC (i := 9) (by omega) (by omega)), e9, wp_ret (c_mv19 hC hJ hI hb4 hc hr hm h4 hRo hE m.toNat 0 0 (hdT B (txt 18)) LFU 0 (Nat.lt_of_le_of_lt (show m.toNat ≤ 400 by omega) (by decide)) (Int.le_refl _) (by omega) rfl (Or.inl ⟨rfl, rfl⟩) (by omega))]
      exact ⟨rfl, rfl⟩
  unfold G9_noteText
  rw [wp_ib, jp_X0, wp_ib, jp_R, jux_jr, hr, wp_ib, jp_E, kj_4, wp_ib, wp_ret w2, wp_ib, jp_R, jux_jr, hr, wp_ib, jp_E, kj_4, wp_ib, wp_ret w3, wp_ib, wp_ret w4, jp_Tos, jux_x]
  exact ⟨hc, hc, hc, hc, by omega, rfl, rfl⟩
end KEP
