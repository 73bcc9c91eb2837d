/-! ===== sheets ===== -/
section SHQ
variable {W W' : IS} {J J' : JS}
theorem fmt_if {f : Int} : (f = 2 ∨ f = 4 ∨ f = 8) ↔ fmt f := Iff.rfl
theorem p_sheets (hI : Inv W J) {a f : Int} (ha : R32 a) (hf : R32 f) : SQ (I12_sheets a f) (G11_sheets a f) W J := by
  unfold I12_sheets G11_sheets
  refine b_at hI ha (s_no hI) fun b e hb h8 hB => ?_
  subst e
  have hJ := hB.2.2.1
  have hBO := hB.2.1.1
  have h71 := hBO.1
  have e6 : W.2 6 (b : Int) = bn (mB W b) := rfl
  refine s_mr (m_isFormat hf) (s_cr (c_isFormat hf) (s_mg ifR (s_cg ifR ?_)))
  by_cases c : f = 2 ∨ f = 4 ∨ f = 8
  · refine s_m0 (by rw [if0]; exact fun q => q c) (s_c0 (by rw [if0]; exact fun q => q c) (s_c ?_))
    rw [jp_E, kj_3]
    refine ⟨hb, s_c ?_⟩
    rw [jG6, kj_2, hJ.1.1]
    refine ⟨by omega, s_c ?_⟩
    rw [jp_E, kj_3]
    refine ⟨hb, s_cr (c_sheetsAhead hJ hB.2.1 c h71.1 (Int.le_refl _)) (s_tl hI (v := smz (fun g => shsI (bz (mB W b) g) f) (bn (mB W b)).toNat 0) ?_ rfl)⟩
    rw [m_sheets_32 c (by omega) (by omega) (by omega) (fun g g0 g1 => (hBO.2.1 g g0 g1).2) (bn (mB W b)).toNat LFU 0 0 (Nat.lt_of_le_of_lt (show (bn (mB W b)).toNat ≤ 71 by omega) (by decide)) (by omega) (by omega), Int.zero_add]
    rfl
  · refine s_m1 (by rw [if0]; exact c) (s_c1 (by rw [if0]; exact c) ?_)
    exact s_no hI
theorem m_sheet123 {b f x5 : Int} (hb0 : 0 ≤ b) (hb : b < 8) (hB : BOK (mB W b)) (hf : fmt f) (hx : 0 ≤ x5 ∧ x5 < 3200) (hg : 0 ≤ W.2 12 x5 ∧ W.2 12 x5 < bn (mB W b)) : ∀ (d m : Nat) (a g : Int), d < m → 0 ≤ g → g + d = W.2 12 x5 → I12_sheet_123 m b f x5 a g W = some (a + smz (fun g => shsI (bz (mB W b) g) f) d g, iu1 W 2 0) := by
  have h71 := hB.1
  intro d
  induction d with
  | zero =>
    intro m a g hm g0 g1
    cases m with
    | zero => omega
    | succ m =>
      refine wp_eq ?_
      unfold I12_sheet_123 I12_sheet_123_st I12_sheet_162
      rw [wp_ib, wA12, wp_ig, wp_ig, wp_ite, if_pos (show W.2 12 x5 ≤ g by omega), wp_ib, wp_ret m_fine, wp_ir]
      exact ⟨hx, ⟨by omega, by omega⟩, ⟨by omega, by omega⟩, by simp [smz], rfl⟩
  | succ d ih =>
    intro m a g hm g0 g1
    cases m with
    | zero => omega
    | succ m =>
      have hz := (hB.2.1 g g0 (by omega)).2
      have e8 : W.2 8 (b * 71 + g) = bz (mB W b) g := rfl
      refine wp_eq ?_
      unfold I12_sheet_123 I12_sheet_123_st
      rw [wp_ib, wA12, wp_ig, wp_ig, wp_ite, if_neg (show ¬ W.2 12 x5 ≤ g by omega), wp_ib, wA8, e8, wp_ib, wp_ret (m_sheetsOf hf hz.1 hz.2), wp_ret (ih m _ (g + 1) (by omega) (by omega) (by omega))]
      refine ⟨hx, ⟨by omega, by omega⟩, ⟨by omega, by omega⟩, ⟨by omega, by omega⟩, ?_, rfl⟩
      show _ = a + (shsI (bz (mB W b) g) f + _)
      omega
theorem p_sheet (hI : Inv W J) {a p f w : Int} (ha : R32 a) (hp : R32 p) (hf : R32 f) (hw : R32 w) : SQ (I12_sheet a p f w) (G11_sheet a p f w) W J := by
  unfold I12_sheet G11_sheet
  refine l_at hI ha hp (s_no hI) fun b e hb h8 hB p0 p1 p4 => ?_
  subst e
  have hJ := hB.2.2.1
  have hBO := hB.2.1.1
  have hF := leafF hB.2.1 p0 p1
  refine s_mr (m_isFormat hf) (s_cr (c_isFormat hf) (s_mg ifR (s_cg ifR ?_)))
  by_cases c : f = 2 ∨ f = 4 ∨ f = 8
  · refine s_m0 (by rw [if0]; exact fun q => q c) (s_c0 (by rw [if0]; exact fun q => q c) (s_cg hw (s_mr (m_isIn hw (by decide) (by decide)) (s_mg ifR ?_))))
    by_cases w0 : w < 0
    · refine s_m1 (by rw [if0]; omega) (s_c1 w0 ?_)
      exact s_no hI
    · refine s_c0 w0 ?_
      by_cases w1 : w ≤ 1
      · refine s_m0 (by rw [if0]; exact fun q => q (by omega)) (s_c1 w1 ?_)
        have e8 : ∀ g, W.2 8 ((b : Int) * 71 + g) = bz (mB W b) g := fun g => rfl
        refine s_m (m_isPlain (by omega) (by omega) hB.2.1 p0 p1 fun v hv => ?_)
        rcases hv with ⟨v1, v3⟩ | ⟨v1, v3⟩
        · refine s_mg (by rw [v1]; decide) (s_m0 (by omega) (s_m ?_))
          rw [wA12]
          refine ⟨⟨by omega, by omega⟩, s_m ?_⟩
          rw [wA8, e8]
          refine ⟨⟨by omega, by omega⟩, s_mg hw ?_⟩
          by_cases ww : w = 1
          · refine s_m1 ww (s_c0 (by omega) (s_m ?_))
            rw [wA13]
            refine ⟨⟨by omega, by omega⟩, s_mr (m_numberOn c hF.2.1.1 hF.2.1.2 hF.2.2.2.1.2) (s_c ?_)⟩
            rw [jp_E, kj_3]
            refine ⟨hb, s_c (c_numberOnSheet hJ hB.2.1 c p0 p1 (fun q => absurd v3 q) fun _ => ?_)⟩
            exact s_fine hI rfl
          · refine s_m0 ww (s_c1 (by omega) (s_m ?_))
            rw [wA13]
            refine ⟨⟨by omega, by omega⟩, s_mr (m_sheetOf c hF.2.1.1 hF.2.1.2 hF.2.2.2.1.2) (s_c ?_)⟩
            rw [jp_E, kj_3]
            refine ⟨hb, s_c (c_sheetOf hJ hB.2.1 c p0 p1 (fun q => absurd v3 q) fun _ => ?_)⟩
            refine s_tl hI (m_sheet123 (by omega) (by omega) hBO c ⟨by omega, by omega⟩ hF.1 (W.2 12 ((b : Int) * 400 + p)).toNat LFU _ 0 (Nat.lt_of_le_of_lt (show (W.2 12 ((b : Int) * 400 + p)).toNat ≤ 71 by omega) (by decide)) (by omega) (by omega)) (by omega)
        · refine s_mg (by rw [v1]; decide) (s_m1 v1 ?_)
          by_cases ww : w = 0
          · refine s_c1 ww (s_c ?_)
            rw [jp_E, kj_3]
            refine ⟨hb, s_c (c_sheetOf hJ hB.2.1 c p0 p1 (fun q => ?_) fun q => absurd v3 q)⟩
            exact s_fine hI rfl
          · refine s_c0 ww (s_c ?_)
            rw [jp_E, kj_3]
            refine ⟨hb, s_c (c_numberOnSheet hJ hB.2.1 c p0 p1 (fun q => ?_) fun q => absurd v3 q)⟩
            exact s_fine hI rfl
      · refine s_m1 (by rw [if0]; omega) (s_c0 w1 ?_)
        exact s_no hI
  · refine s_m1 (by rw [if0]; exact c) (s_c1 (by rw [if0]; exact c) ?_)
    exact s_no hI
theorem p_forme (hI : Inv W J) {a p w f : Int} (ha : R32 a) (hp : R32 p) (hw : R32 w) (hf : R32 f) : SQ (I12_forme a p w f) (G11_forme a p w f) W J := by
  unfold I12_forme G11_forme
  refine l_at hI ha hp (s_no hI) fun b e hb h8 hB p0 p1 p4 => ?_
  subst e
  have hJ := hB.2.2.1
  have hBO := hB.2.1.1
  have hF := leafF hB.2.1 p0 p1
  refine s_mr (m_isIn hw (by decide) (by decide)) (s_mg ifR (s_cr (c_isFormat hf) (s_cg ifR ?_)))
  by_cases c : f = 2 ∨ f = 4 ∨ f = 8
  · refine s_c0 (by rw [if0]; exact fun q => q c) (s_cg hw ?_)
    by_cases w0 : w < 0
    · refine s_m1 (by rw [if0]; omega) (s_c1 w0 ?_)
      exact s_no hI
    · refine s_c0 w0 ?_
      by_cases w1 : w ≤ 1
      · refine s_m0 (by rw [if0]; exact fun q => q (by omega)) (s_c1 w1 (s_mr (m_isFormat hf) (s_mg ifR (s_m0 (by rw [if0]; exact fun q => q c) ?_))))
        have e8 : ∀ g, W.2 8 ((b : Int) * 71 + g) = bz (mB W b) g := fun g => rfl
        refine s_m (m_isPlain (by omega) (by omega) hB.2.1 p0 p1 fun v hv => ?_)
        rcases hv with ⟨v1, v3⟩ | ⟨v1, v3⟩
        · refine s_mg (by rw [v1]; decide) (s_m0 (by omega) (s_m ?_))
          rw [wA12]
          refine ⟨⟨by omega, by omega⟩, s_m ?_⟩
          rw [wA8, e8]
          refine ⟨⟨by omega, by omega⟩, s_m ?_⟩
          rw [wA13]
          have hk := rkI_bd (n := bz (mB W b) (W.2 12 ((b : Int) * 400 + p))) (i := W.2 13 ((b : Int) * 400 + p)) (f := f) hF.2.1.1 (by omega)
          refine ⟨⟨by omega, by omega⟩, s_mr (m_numberOn c hF.2.1.1 hF.2.1.2 hF.2.2.2.1.2) (s_m ?_)⟩
          rw [wp_irI]
          refine ⟨⟨by decide, by omega, by omega, by decide⟩, s_c ?_⟩
          rw [jp_E, kj_3]
          refine ⟨hb, s_c (c_formeOf hJ hB.2.1 (by omega) c p0 p1 (fun q => absurd v3 q) fun _ => ?_)⟩
          exact s_fine hI (par2 (by omega)).symm
        · refine s_mg (by rw [v1]; decide) (s_m1 v1 (s_c ?_))
          rw [jp_E, kj_3]
          refine ⟨hb, s_c (c_formeOf hJ hB.2.1 (by omega) c p0 p1 (fun q => ?_) fun q => absurd v3 q)⟩
          exact s_fine hI rfl
      · refine s_m1 (by rw [if0]; omega) (s_c0 w1 ?_)
        exact s_no hI
  · refine s_c1 (by rw [if0]; exact c) ?_
    by_cases w0 : 0 ≤ w ∧ w ≤ 1
    · refine s_m0 (by rw [if0]; exact fun q => q w0) (s_mr (m_isFormat hf) (s_mg ifR (s_m1 (by rw [if0]; exact c) ?_)))
      exact s_no hI
    · refine s_m1 (by rw [if0]; exact w0) ?_
      exact s_no hI
end SHQ
