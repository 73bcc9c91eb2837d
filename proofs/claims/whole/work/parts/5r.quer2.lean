section QU2
variable {W W' : IS} {J J' : JS}
/-! ===== leaf ===== -/
def abL (W : IS) (b p w q : Int) : Int := if w = 0 then W.2 12 (b * 400 + p) else if w = 1 then W.2 13 (b * 400 + p) else if w = 2 then knd (mB W b) (W.2 12 (b * 400 + p)) (W.2 13 (b * 400 + p)) (W.2 14 (b * 400 + p)) else if w = 3 then W.2 14 (b * 400 + p) else q
theorem c_aboutL {b : Nat} (hJ : BoR J W b) (hI : BkI W (b : Int)) {p w : Int} (p0 : 0 ≤ p) (p1 : p < LC (mB W b)) (hw : R32 w) {Q : Int → JS → Prop} (hq : ∀ q, cjg (mB W b) (W.2 12 ((b : Int) * 400 + p)) (W.2 13 ((b : Int) * 400 + p)) (W.2 14 ((b : Int) * 400 + p)) q → Q (abL W b p w q) J) : wp (G0_aboutLeaf b p w) Q J := by
  have hb := hJ.2.1
  have hr := hJ.2.2.2.2 p p0 p1
  obtain ⟨qq, -, -, hq0⟩ := wp_ex (c_conjugateOf (Q := fun q _ => cjg (mB W b) (W.2 12 ((b : Int) * 400 + p)) (W.2 13 ((b : Int) * 400 + p)) (W.2 14 ((b : Int) * 400 + p)) q) hJ hI p0 p1 fun q h => h)
  unfold G0_aboutLeaf abL at *
  rw [wp_ig, wp_ite]
  refine ⟨hw, ?_⟩
  by_cases w0 : w = 0
  · have h := hq qq hq0
    rw [if_pos w0] at h ⊢
    rw [wp_ib, jp_E, kj_3, wp_ib, jp_E, kj_1, wp_ib, wp_ret (hJ.get hI 0 (by omega) p0 p1), jp_ret, hr.1]
    exact ⟨hb, Or.inr (Or.inl ⟨by omega, by omega⟩), h⟩
  · rw [if_neg w0, wp_ite]
    simp only [if_neg w0] at hq
    by_cases w1 : w = 1
    · have h := hq qq hq0
      rw [if_pos w1] at h ⊢
      rw [wp_ib, jp_E, kj_3, wp_ib, jp_E, kj_1, wp_ib, wp_ret (hJ.get hI 1 (by omega) p0 p1), jp_ret, hr.2.1]
      exact ⟨hb, Or.inr (Or.inl ⟨by omega, by omega⟩), h⟩
    · rw [if_neg w1, wp_ite]
      simp only [if_neg w1] at hq
      by_cases w2 : w = 2
      · have h := hq qq hq0
        rw [if_pos w2] at h ⊢
        rw [wp_ib, jp_E, kj_3, wp_ib, jp_E, kj_1, wp_ib, wp_ret (hJ.get hI 2 (by omega) p0 p1), jp_ret, hr.2.2.2]
        exact ⟨hb, Or.inr (Or.inl ⟨by omega, by omega⟩), h⟩
      · rw [if_neg w2, wp_ite]
        simp only [if_neg w2] at hq
        by_cases w3 : w = 3
        · have h := hq qq hq0
          rw [if_pos w3] at h ⊢
          rw [wp_ib, jp_E, kj_3, wp_ib, jp_E, kj_1, wp_ib, wp_ret (hJ.get hI 3 (by omega) p0 p1), jp_ret, hr.2.2.1]
          exact ⟨hb, Or.inr (Or.inl ⟨by omega, by omega⟩), h⟩
        · rw [if_neg w3, wp_ib, jp_E, kj_3, wp_ib]
          simp only [if_neg w3] at hq
          refine ⟨hb, c_conjugateOf hJ hI p0 p1 fun q h => ?_⟩
          rw [jp_ret]
          exact hq q h
theorem p_leaf (hI : Inv W J) {a p w : Int} (ha : R32 a) (hp : R32 p) (hw : R32 w) : SQ (I12_leaf a p w) (G11_leaf a p w) W J := by
  unfold I12_leaf G11_leaf
  refine l_at hI ha hp (s_no hI) fun b e hb h8 hB p0 p1 p4 => ?_
  subst e
  have hJ := hB.2.2.1
  have hF := leafF hB.2.1 p0 p1
  refine s_mg hw (s_cg hw ?_)
  by_cases w0 : w < 0
  · refine s_c1 w0 (s_m0 (by omega) (s_m0 (by omega) (s_m0 (by omega) (s_m0 (by omega) (s_m0 (by omega) ?_)))))
    exact s_no hI
  · refine s_c0 w0 ?_
    by_cases w4 : w ≤ 4
    · refine s_c1 w4 (s_c ?_)
      rw [jp_E, kj_3]
      refine ⟨hb, s_c (c_aboutL hJ hB.2.1 p0 p1 hw fun q hq => ?_)⟩
      unfold abL
      by_cases w0 : w = 0
      · refine s_m1 w0 (s_m ?_)
        rw [wA12, if_pos w0]
        exact ⟨⟨by omega, by omega⟩, s_fine hI rfl⟩
      · refine s_m0 w0 ?_
        rw [if_neg w0]
        by_cases w1 : w = 1
        · refine s_m1 w1 (s_m ?_)
          rw [wA13, if_pos w1]
          exact ⟨⟨by omega, by omega⟩, s_fine hI rfl⟩
        · refine s_m0 w1 ?_
          rw [if_neg w1]
          by_cases w2 : w = 2
          · refine s_m1 w2 (s_m ?_)
            rw [wA14, if_pos w2]
            refine ⟨⟨by omega, by omega⟩, s_mg ⟨by omega, by omega⟩ ?_⟩
            unfold knd
            by_cases k0 : W.2 14 ((b : Int) * 400 + p) ≤ 0
            · refine s_m1 k0 (s_m (m_isPlain (by omega) (by omega) hB.2.1 p0 p1 fun v hv => ?_))
              rw [if_neg (show ¬ 0 < W.2 14 ((b : Int) * 400 + p) by omega)]
              rcases hv with ⟨v1, -, v3⟩ | ⟨v1, v3⟩
              · refine s_mg (by rw [v1]; decide) (s_m0 (by omega) ?_)
                rw [if_pos v3]
                exact s_fine hI rfl
              · refine s_mg (by rw [v1]; decide) (s_m1 v1 ?_)
                rw [if_neg (fun q => v3 ⟨by omega, q⟩)]
                exact s_fine hI rfl
            · refine s_m0 k0 ?_
              rw [if_pos (show 0 < W.2 14 ((b : Int) * 400 + p) by omega)]
              exact s_fine hI rfl
          · refine s_m0 w2 ?_
            rw [if_neg w2]
            by_cases w3 : w = 3
            · refine s_m1 w3 (s_m ?_)
              rw [wA14, if_pos w3]
              exact ⟨⟨by omega, by omega⟩, s_fine hI rfl⟩
            · refine s_m0 w3 (s_m1 (by omega) (s_m (m_conjugate (by omega) (by omega) hB.2.1 p0 p1 fun q' hq' => ?_)))
              rw [if_neg w3]
              exact s_fine hI (cjg_u hq hq')
    · refine s_c0 w4 (s_m0 (by omega) (s_m0 (by omega) (s_m0 (by omega) (s_m0 (by omega) (s_m0 (by omega) ?_)))))
      exact s_no hI
/-! ===== texts are told ===== -/
theorem t_tell {W1 : IS} {T : List Nat} (hI : Inv (wrs T W1) J) (h37 : W1.1 37 = 0) (hT : T.length ≤ 16384) {s : Nat} (hs : s < jT J) (ht : jt J s = T) {k : Int} (hk : R32 k) : SQ (ib (I12_tell k) fun v => ir v) (ib (G11_byteOf s k) fun v => jret v) (wrs T W1) J := by
  have e37 : (wrs T W1).1 37 = T.length := by rw [wrs_37, h37, Int.zero_add]
  refine ⟨trivial, ?_⟩
  have key : SQ (I12_tell k) (G11_byteOf s k) (wrs T W1) J := by
    unfold I12_tell G11_byteOf
    refine s_m ?_
    rw [wp_igI, e37]
    refine s_mr (m_isIn hk (by decide) ⟨by omega, by omega⟩) (s_mg ifR (s_cg hk ?_))
    by_cases c0 : k < 0
    · refine s_m1 (by rw [if0]; omega) (s_c1 c0 ?_)
      exact s_no hI
    · refine s_c0 c0 (s_c ?_)
      rw [jp_Sl, ht]
      refine ⟨hs, s_cg ⟨by omega, by omega⟩ ?_⟩
      by_cases c1 : k < T.length
      · refine s_m0 (by rw [if0]; exact fun q => q (by omega)) (s_c1 c1 (s_m ?_))
        rw [wA36]
        refine ⟨⟨by omega, by omega⟩, s_c ?_⟩
        rw [jp_Sc, ht]
        refine ⟨⟨hs, by omega, c1, by omega⟩, s_fine hI ?_⟩
        have := wrs_36 T W1 k.toNat (by omega)
        rw [h37, show (0 : Int) + (k.toNat : Int) = k by omega] at this
        exact this.symm
      · refine s_m1 (by rw [if0]; omega) (s_c0 c1 ?_)
        exact s_no hI
  have k2 := key.2
  unfold Sm2 at k2 ⊢
  rw [wp_ib]
  refine wp_mono k2 fun r W' q => ?_
  rw [wp_ir, wp_ib]
  refine wp_mono q fun r' J' q' => ?_
  rw [jp_ret]
  exact q'
theorem Inv.wr (hI : Inv W J) {T : List Nat} {x : Int} : Inv (wrs T (iu1 W 37 x)) J := hI.w (fun k hk => by rw [wrs_1 (by omega), iu1_1, if_neg (by omega)]) fun k hk => by rw [wrs_2 (by omega), iu1_2]
theorem p_letter (hI : Inv W J) {a k : Int} (ha : R32 a) (hk : R32 k) : SQ (I12_letter a k) (G11_letter a k) W J := by
  unfold I12_letter G11_letter
  refine b_at hI ha (s_no hI) fun b e hb h8 hB => ?_
  subst e
  have hl := bkT_le hB.2.1.1
  refine s_mr (m_writeBook (by omega) (by omega) hB.2.1.1) (s_c ?_)
  rw [jp_W]
  exact ⟨hb, t_tell hI.wr (by rw [iu1_1, if_pos rfl]) (by omega) hB.2.2.2.1 hB.2.2.2.2 hk⟩
theorem Inv.txt (hI : Inv W J) {T : List Nat} : Inv W (juT (jux J T)) ∧ jT J < jT (juT (jux J T)) ∧ jt (juT (jux J T)) (jT J) = T := by
  refine ⟨hI.j ⟨⟨Nat.le_refl _, Nat.le_refl _, Nat.le_succ _⟩, fun i hi => ?_, fun b hb => ⟨rfl, rfl, rfl, fun _ _ _ => rfl, rfl, fun _ _ _ => ⟨rfl, rfl⟩⟩, fun c hc => ⟨rfl, rfl, rfl, rfl, fun _ _ _ => ⟨rfl, rfl⟩⟩⟩ ⟨rfl, rfl⟩ (fun _ _ => rfl) rfl, Nat.lt_succ_self _, ?_⟩
  · show (if i = jT J then T else jt J i) = jt J i
    rw [if_neg (by omega)]
  · show (if jT J = jT J then T else jt J (jT J)) = T
    rw [if_pos rfl]
theorem p_name (hI : Inv W J) {a p k : Int} (ha : R32 a) (hp : R32 p) (hk : R32 k) : SQ (I12_name a p k) (G11_name a p k) W J := by
  unfold I12_name G11_name
  refine l_at hI ha hp (s_no hI) fun b e hb h8 hB p0 p1 p4 => ?_
  subst e
  have hl := nmT_le hB.2.1 p0 p1
  obtain ⟨i1, i2, i3⟩ := hI.txt (T := nmT W b p)
  refine s_m ?_
  rw [wp_ipI]
  refine s_m ?_
  have hBI : BkI (iu1 W 37 0) (b : Int) := hB.2.1
  have hR : RmW (iu1 W 37 0) 100 := by
    unfold RmW
    rw [iu1_1, if_pos rfl]
    omega
  refine m_writeName (acc := []) (by omega) (by omega) hBI p0 p1 hR (show ([] : List Nat).length + (nmT W b p).length ≤ 100 by simp only [List.length_nil]; omega) ?_
  have e : G9_nameText b p J = some (jT J, juT (jux J (nmT W b p))) := by
    refine wp_eq ?_
    unfold G9_nameText
    rw [wp_ib, jp_X0, wp_ib, wp_ret (c_writeName hI.1 hB.2.2.1 hB.2.1 p0 p1 (l := []) (by simp only [List.length_nil]; omega)), jp_Tos]
    exact ⟨(show (([] : List Nat) ++ nmT W b p).length ≤ 100 by rw [List.nil_append]; omega), rfl, rfl⟩
  refine s_cr e ?_
  have hW : Inv (wrs (nmT W b p) (iu1 W 37 0)) (juT (jux J (nmT W b p))) := i1.wr
  exact t_tell hW (by rw [iu1_1, if_pos rfl]) (by omega) i2 i3 hk
end QU2
