section QUC
variable {W : IS} {J : JS}
theorem rx_w {c : Nat} (hc : c < jC J) {w : Int} (hw : 1 ≤ w ∧ w ≤ 5) : rxk J (200 + (w.toNat - 1) + 5 * c) := rx_c hc (by omega)
theorem p_state (hI : Inv W J) {a w : Int} (ha : R32 a) (hw : R32 w) : SQ (I12_state a w) (G11_state a w) W J := by
  unfold I12_state G11_state
  refine k_at hI ha (s_no hI) fun c e hc h16 hK => ?_
  subst e
  refine s_mg hw (s_cg hw ?_)
  obtain ⟨b0, hb0, e16, hq0⟩ := id hK
  by_cases w0 : w = 0
  · refine s_m1 w0 (s_c1 w0 (s_m ?_))
    rw [wA16]
    refine ⟨⟨by omega, by omega⟩, s_c ?_⟩
    rw [jG12, kj_4]
    exact ⟨hc, s_fine hI (hq0.2.1.trans e16.symm)⟩
  · refine s_m0 w0 (s_c0 w0 (s_c ?_))
    rw [jp_E, kj_4]
    refine ⟨hc, s_cr (c_rowOf hc hw) ?_⟩
    by_cases w1 : w = 1
    · refine s_m1 w1 (s_m ?_)
      rw [wA17]
      rw [if_pos (by omega)]
      refine ⟨⟨by omega, by omega⟩, ?_⟩
      show SQ _ (ib (jG 1 (200 + (w.toNat - 1) + 5 * c)) fun v9 => ib (G11_answer v9) fun v10 => jret v10) W J
      refine s_c ?_
      rw [jG1, kj_1, w1]
      exact ⟨rx_w hc (by omega), s_fine hI hq0.2.2.2.2.1⟩
    · refine s_m0 w1 (s_mr (m_isIn hw (by decide) (by decide)) (s_mg ifR ?_))
      by_cases w5 : 2 ≤ w ∧ w ≤ 5
      · refine s_m0 (by rw [if0]; exact fun q => q w5) ?_
        rw [if_pos (by omega)]
        obtain ⟨b, W', R, mx, hb, hb8, -, el, f, hI', hL, em, ec, hR, hmx, hq⟩ := b_look hI h16 hK
        have hBI := (hI.2.2.2.2.2.1 b hb).2.1
        obtain ⟨R', mx', hR', hmx', hrow⟩ := hq.row w5
        have hm := hq.2.2.2.1
        refine s_mr el (s_mr (m_countTold hL w5) ?_)
        show SQ _ (ib (jG 1 (200 + (w.toNat - 1) + 5 * c)) fun v9 => ib (G11_answer v9) fun v10 => jret v10) W' J
        refine s_c ?_
        rw [jG1, kj_1]
        refine ⟨rx_w hc (by omega), s_fine hI' ?_⟩
        rw [hrow.1, em, ec]
        exact (cnT_cg (tl_u hm hR hR' hmx hmx') (tlN_bd ⟨(LC_tot hBI.1).1, hBI.2.2.1⟩ hm).1).symm
      · refine s_m1 (by rw [if0]; exact w5) ?_
        rw [if_neg (by omega)]
        exact s_no hI
theorem c_numberOf {id : Nat} (hI : Inv W J) (hx : rxk J id) {k n : Int} (hk : R32 k) (hn : js J 1 id = n) (n0 : 0 ≤ n ∧ n ≤ 400) (hid : 12 ≤ id) {x : IM Int} {W1 : IS} (h1 : 0 ≤ k → k < n → SQ x (ib (G11_answer (ja J 1 id k)) fun v => jret v) W1 J) (h0 : (k < 0 ∨ n ≤ k) → SQ x (ib (G11_refuse 1) fun v => jret v) W1 J) : SQ x (G11_numberOf id k) W1 J := by
  unfold G11_numberOf
  refine s_cg hk ?_
  by_cases c0 : k < 0
  · exact s_c1 c0 (h0 (Or.inl c0))
  · refine s_c0 c0 (s_c ?_)
    rw [jG1, kj_1, hn]
    refine ⟨hx, s_cg ⟨by omega, by omega⟩ ?_⟩
    by_cases c1 : k < n
    · refine s_c1 c1 (s_c ?_)
      rw [jp_E, kj_1]
      have hg := c_get (J := J) hx hk (by rw [hn]; exact n0.1) (by rw [hn, rl4 hid]; omega)
      rw [hn, if_pos ⟨by omega, c1⟩] at hg
      exact ⟨hx, s_cr hg (h1 (by omega) c1)⟩
    · exact s_c0 c1 (h0 (Or.inr (by omega)))
theorem p_entry (hI : Inv W J) {a k : Int} (ha : R32 a) (hk : R32 k) : SQ (I12_entry a k) (G11_entry a k) W J := by
  unfold I12_entry G11_entry
  refine k_at hI ha (s_no hI) fun c e hc h16 hK => ?_
  subst e
  obtain ⟨b0, hb0, e16, hq0⟩ := id hK
  have hm := hq0.2.2.2.1
  refine s_m ?_
  rw [wA17]
  refine ⟨⟨by omega, by omega⟩, s_mr (m_isIn hk (by decide) ⟨by omega, by omega⟩) (s_mg ifR (s_c ?_))⟩
  rw [jp_E, kj_4]
  refine ⟨hc, ?_⟩
  have as2 : ∀ {x : IM Int} {y : JM Int} {W1 : IS}, SQ x y W1 J → SQ x (ib y fun v => jret v) W1 J := fun {x} {y} {W1} h => by
    refine ⟨trivial, ?_⟩
    have := h.2
    unfold Sm2 at this ⊢
    refine wp_mono this fun r W' q => ?_
    rw [wp_ib]
    exact wp_mono q fun r' J' q' => by rw [jp_ret]; exact q'
  refine as2 (c_numberOf (id := 200 + 5 * c) (n := W.2 17 c) hI (rx_c (r := 0) hc (by omega)) hk hq0.2.2.2.2.1 hm (by omega) (fun k0 k1 => ?_) fun h => ?_)
  · refine s_m0 (by rw [if0]; exact fun q => q (by omega)) (s_m ?_)
    rw [wA18]
    refine ⟨⟨by omega, by omega⟩, s_fine hI ?_⟩
    rw [(hq0.2.2.2.2.2.1 k k0 k1).1]
    unfold eC
    rw [if_pos ⟨k0, by omega⟩]
  · refine s_m1 (by rw [if0]; omega) ?_
    exact s_no hI
theorem s_as2 {x : IM Int} {y : JM Int} {W1 : IS} (h : SQ x y W1 J) : SQ x (ib y fun v => jret v) W1 J := by
  refine ⟨trivial, ?_⟩
  have := h.2
  unfold Sm2 at this ⊢
  refine wp_mono this fun r W' q => ?_
  rw [wp_ib]
  exact wp_mono q fun r' J' q' => by rw [jp_ret]; exact q'
theorem p_told (hI : Inv W J) {a w k : Int} (ha : R32 a) (hw : R32 w) (hk : R32 k) : SQ (T12_told a w k) (G11_told a w k) W J := by
  unfold T12_told G11_told
  refine k_at hI ha (s_no hI) fun c e hc h16 hK => ?_
  subst e
  refine s_mr (m_isIn hw (by decide) (by decide)) (s_mg ifR (s_cg hw ?_))
  by_cases w5 : 2 ≤ w ∧ w ≤ 5
  · refine s_m0 (by rw [if0]; exact fun q => q w5) (s_c1 w5.1 (s_c ?_))
    rw [jp_E, kj_4]
    refine ⟨hc, s_cr (c_rowOf hc hw) ?_⟩
    rw [if_pos (by omega)]
    show SQ _ (ib (G11_numberOf (200 + (w.toNat - 1) + 5 * c) k) fun v3 => jret v3) W J
    obtain ⟨b, W', R, mx, hb, hb8, -, el, f, hI', hL, em, ec, hR, hmx, hq⟩ := b_look hI h16 hK
    have hBI := (hI.2.2.2.2.2.1 b hb).2.1
    obtain ⟨R', mx', hR', hmx', hrow⟩ := hq.row w5
    have hm := hq.2.2.2.1
    have hN := tlN_bd (w := w) ⟨(LC_tot hBI.1).1, hBI.2.2.1⟩ hm
    have hu := tl_u (w := w) (n := LC (mB W b)) (cj := cjC W b) hm hR hR' hmx hmx'
    have hbt := b_tl (E := eC W c) (R := R) (m := W.2 17 c) (mx := mx) (w := w) (cj := cjC W b)
    have hbt' := b_tl (E := eC W c) (R := R') (m := W.2 17 c) (mx := mx') (w := w) (cj := cjC W b)
    have hcn := cnT_cg hu hN.1
    have hcb := cnT_bd hbt hN.1
    refine s_mr el (s_as2 (c_numberOf (n := cnT (tlF (eC W c) (cjC W b) R (W.2 17 c) mx w) (tlN (LC (mB W b)) (W.2 17 c) w)) hI' (rx_w hc (by omega)) hk (by rw [hrow.1, hcn]) ⟨hcb.1, by omega⟩ (by omega) (fun k0 k1 => ?_) fun h => ?_))
    · refine ⟨trivial, ?_⟩
      unfold Sm2
      obtain ⟨cc, hcc⟩ : ∃ cc : Int, cc = (c : Int) := ⟨_, rfl⟩
      have key := m_tl40 hL w5 hk (Q := fun r W'' => wp (ib (G11_answer (ja J 1 (200 + (w.toNat - 1) + 5 * c) k)) fun v => jret v) (fun r' J' => r' = r ∧ Inv W'' J') J) (fun j j0 j1 j2 j3 => ?_) (fun q => ?_) (tlN (LC (mB W' b)) (W.2 17 c) w).toNat LFU k 0 (Nat.lt_of_le_of_lt (show (tlN (LC (mB W' b)) (W.2 17 c) w).toNat ≤ 400 by rw [em]; omega) (by decide)) (Int.le_refl _) (by rw [em]; omega) (by rw [cnT_0]; omega) (by rw [cnT_0]; omega)
      · exact key
      · rw [wp_ib, wp_ret c_answer, jp_ret]
        rw [em] at j1
        rw [ec] at j2 j3
        refine ⟨?_, hI'.st⟩
        have j2' := j2
        rw [hu j j0 j1] at j2'
        have := hrow.2 j j0 j1 j2'
        have e3 : cnT (tlF (eC W c) (cjC W b) R' (W.2 17 c) mx' w) j = k := by
          rw [← j3]
          exact (cnT_cg (fun e e0 e1 => hu e e0 (by omega)) j0).symm
        rw [e3] at this
        exact this
      · rw [em, ec] at q
        omega
    · refine ⟨trivial, ?_⟩
      unfold Sm2
      have key := m_tl40 hL w5 hk (Q := fun r W'' => wp (ib (G11_refuse 1) fun v => jret v) (fun r' J' => r' = r ∧ Inv W'' J') J) (fun j j0 j1 j2 j3 => ?_) (fun q => ?_) (tlN (LC (mB W' b)) (W.2 17 c) w).toNat LFU k 0 (Nat.lt_of_le_of_lt (show (tlN (LC (mB W' b)) (W.2 17 c) w).toNat ≤ 400 by rw [em]; omega) (by decide)) (Int.le_refl _) (by rw [em]; omega) (by rw [cnT_0]; omega) (by rw [cnT_0]; omega)
      · exact key
      · exfalso
        rw [em] at j1
        rw [ec] at j2 j3
        have h1 := cnT_lt hbt j0 j1 j2
        have h2 := cnT_bd hbt j0
        omega
      · rw [wp_ib, wp_ret c_refuse, jp_ret]
        exact ⟨rfl, hI'.st⟩
  · refine s_m1 (by rw [if0]; exact w5) ?_
    by_cases w2 : 2 ≤ w
    · refine s_c1 w2 (s_c ?_)
      rw [jp_E, kj_4]
      refine ⟨hc, s_cr (c_rowOf hc hw) ?_⟩
      rw [if_neg (by omega)]
      exact s_no hI
    · refine s_c0 w2 ?_
      exact s_no hI
end QUC
