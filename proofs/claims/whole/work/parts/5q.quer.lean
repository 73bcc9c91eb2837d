/-! ===== what is asked of books ===== -/
section QUE
variable {W W' : IS} {J J' : JS}
theorem s_tl (hI : Inv W J) {x : IM Int} {v v' : Int} (hx : x W = some (v, iu1 W 2 0)) (e : v' = v) : SQ x (ib (G11_answer v') fun v => jret v) W J := by
  refine ⟨trivial, ?_⟩
  unfold Sm2
  rw [wp_ret hx, wp_ib, wp_ret c_answer, jp_ret]
  exact ⟨e, hI.st⟩
/-- the leaves of a gathering -/
theorem gl_cnt {W : IS} {b : Nat} (hI : BkI W (b : Int)) {g : Int} (hg : 0 ≤ g ∧ g < bn (mB W b)) : smz (fun p => if W.2 12 ((b : Int) * 400 + p) = g then 1 else 0) (LC (mB W b)).toNat 0 = gl (mB W b) g := by
  have hB := hI.1
  have h0 := gsu_nn hB hg.1 (by omega)
  have h1 := gsu_mono hB hg.1 (show g ≤ g + 1 by omega) (by omega)
  have h2 := gsu_mono hB (show 0 ≤ g + 1 by omega) (show g + 1 ≤ bn (mB W b) by omega) (Int.le_refl _)
  have h3 := gsu_sn (B := mB W b) hg.1
  have h4 := LC_tot hB
  have hL : LC (mB W b) = gsu (mB W b) (bn (mB W b)) := rfl
  have inn : ∀ p, 0 ≤ p → p < LC (mB W b) → (W.2 12 ((b : Int) * 400 + p) = g ↔ gsu (mB W b) g ≤ p ∧ p < gsu (mB W b) (g + 1)) := fun p p0 p1 => by
    have hA := hI.at p0 p1
    revert hA
    generalize W.2 12 ((b : Int) * 400 + p) = g'
    generalize W.2 13 ((b : Int) * 400 + p) = i
    generalize W.2 14 ((b : Int) * 400 + p) = k
    intro hA
    obtain ⟨a1, a2, a3⟩ := hA
    have a4 := ah_bd hB a1
    have a5 : cnt (mB W b) g' i = bm (mB W b) g' i + 1 - cut (mB W b) g' i := rfl
    have a6 : gsu (mB W b) g' ≤ p ∧ p < gsu (mB W b) (g' + 1) := by omega
    constructor
    · intro e
      subst e
      exact a6
    · intro q
      by_cases c : g' < g
      · have := gsu_mono hB (show 0 ≤ g' + 1 by have := a1.1; omega) (show g' + 1 ≤ g by omega) (by omega)
        omega
      · by_cases c2 : g < g'
        · have := gsu_mono hB (show 0 ≤ g + 1 by omega) (show g + 1 ≤ g' by omega) (by have := a1.1; omega)
          omega
        · omega
  have e1 : (LC (mB W b)).toNat = (gsu (mB W b) g).toNat + ((gl (mB W b) g).toNat + (LC (mB W b) - gsu (mB W b) (g + 1)).toNat) := by omega
  rw [e1, smz_cat, smz_cat, smz_0 _ _ (fun i i0 i1 => if_neg (fun q => by have := (inn i i0 (by omega)).mp q; omega)), smz_0 (LC (mB W b) - gsu (mB W b) (g + 1)).toNat _ (fun i i0 i1 => if_neg (fun q => by have := (inn i (by omega) (by omega)).mp q; omega)), smz_cg (g := fun _ => 1) (gl (mB W b) g).toNat _ (fun i i0 i1 => if_pos ((inn i (by omega) (by omega)).mpr (by omega))), smz_1]
  omega
theorem m_g99 {b : Int} (hb0 : 0 ≤ b) (hb : b < 8) (hI : BkI W b) {g : Int} (hg : R32 g) : ∀ (d m : Nat) (a p : Int), d < m → 0 ≤ p → p + d = LC (mB W b) → I12_gathering_99 m b g a p W = some (a + smz (fun p => if W.2 12 (b * 400 + p) = g then 1 else 0) d p, iu1 W 2 0) := by
  have hl := hI.2.1
  have h4 := hI.2.2.1
  have h71 := hI.1.1
  intro d
  induction d with
  | zero =>
    intro m a p hm p0 p1
    cases m with
    | zero => omega
    | succ m =>
      refine wp_eq ?_
      unfold I12_gathering_99 I12_gathering_99_st I12_gathering_143
      rw [wp_ib, wA11, hl, wp_ig, wp_ig, wp_ite, if_pos (show LC (mB W b) ≤ p by omega), wp_ib, wp_ret m_fine, wp_ir]
      exact ⟨⟨hb0, hb⟩, ⟨by omega, by omega⟩, ⟨by omega, by omega⟩, by simp [smz], rfl⟩
  | succ d ih =>
    intro m a p hm p0 p1
    cases m with
    | zero => omega
    | succ m =>
      have hA := (hI.at p0 (by omega)).1.1
      refine wp_eq ?_
      unfold I12_gathering_99 I12_gathering_99_st I12_gathering_134
      rw [wp_ib, wA11, hl, wp_ig, wp_ig, wp_ite, if_neg (show ¬ LC (mB W b) ≤ p by omega), wp_ib, wA12, wp_ig, wp_ig, wp_ite]
      refine ⟨⟨hb0, hb⟩, ⟨by omega, by omega⟩, ⟨by omega, by omega⟩, ⟨by omega, by omega⟩, ⟨by omega, by omega⟩, hg, ?_⟩
      by_cases c : W.2 12 (b * 400 + p) = g
      · rw [if_pos c, wp_ret (ih m (a + 1) (p + 1) (by omega) (by omega) (by omega))]
        refine ⟨?_, rfl⟩
        show _ = a + ((if W.2 12 (b * 400 + p) = g then 1 else 0) + smz _ d (p + 1))
        rw [if_pos c]; omega
      · rw [if_neg c, wp_ret (ih m (a + 0) (p + 1) (by omega) (by omega) (by omega))]
        refine ⟨?_, rfl⟩
        show _ = a + ((if W.2 12 (b * 400 + p) = g then 1 else 0) + smz _ d (p + 1))
        rw [if_neg c]; omega
theorem m_g153 {b : Int} (hb0 : 0 ≤ b) (hb : b < 8) (hB : BOK (mB W b)) {g : Int} (hg : 0 ≤ g ∧ g < bn (mB W b)) : ∀ (d m : Nat) (a i : Int), d < m → 1 ≤ i → i + d = bz (mB W b) g + 1 → I12_gathering_153 m b g a i W = some (a + smz (cut (mB W b) g) d i, iu1 W 2 0) := by
  have h71 := hB.1
  have hz := (hB.2.1 g hg.1 hg.2).2
  have e8 : W.2 8 (b * 71 + g) = bz (mB W b) g := rfl
  intro d
  induction d with
  | zero =>
    intro m a i hm i0 i1
    cases m with
    | zero => omega
    | succ m =>
      refine wp_eq ?_
      unfold I12_gathering_153 I12_gathering_153_st I12_gathering_201
      rw [wp_ib, wA8, e8, wp_ig, wp_ig, wp_ite, if_pos (show bz (mB W b) g < i by omega), wp_ib, wp_ret m_fine, wp_ir]
      exact ⟨⟨by omega, by omega⟩, ⟨by omega, by omega⟩, ⟨by omega, by omega⟩, by simp [smz], rfl⟩
  | succ d ih =>
    intro m a i hm i0 i1
    cases m with
    | zero => omega
    | succ m =>
      have hf := (hB.2.2.1 g i hg.1 hg.2 i0 (by omega)).1
      have e9 : W.2 9 ((b * 71 + g) * 13 + i) = bf (mB W b) g i := rfl
      refine wp_eq ?_
      unfold I12_gathering_153 I12_gathering_153_st I12_gathering_192
      rw [wp_ib, wA8, e8, wp_ig, wp_ig, wp_ite, if_neg (show ¬ bz (mB W b) g < i by omega), wp_ib, wp_ret m_spot, wp_ib, wA9, e9, wp_ig, wp_ite]
      refine ⟨⟨by omega, by omega⟩, ⟨by omega, by omega⟩, ⟨by omega, by omega⟩, ⟨by omega, by omega⟩, ⟨by omega, by omega⟩, ?_⟩
      by_cases c : bf (mB W b) g i = 1
      · rw [if_pos c, wp_ret (ih m (a + 1) (i + 1) (by omega) (by omega) (by omega))]
        refine ⟨?_, rfl⟩
        show _ = a + (cut (mB W b) g i + smz _ d (i + 1))
        unfold cut
        rw [if_pos c]; omega
      · rw [if_neg c, wp_ret (ih m (a + 0) (i + 1) (by omega) (by omega) (by omega))]
        refine ⟨?_, rfl⟩
        show _ = a + (cut (mB W b) g i + smz _ d (i + 1))
        unfold cut
        rw [if_neg c]; omega
theorem BkJ.bd {b : Nat} (h : BkJ W J b) : b < jB J := h.2.2.1.2.1
def abG (B : BK) (g w : Int) : Int := if w = 0 then bs B g else if w = 1 then bz B g else if w = 2 then gl B g else smz (cut B g) (bz B g).toNat 1
theorem c_aboutG {b : Nat} (hJ : BoR J W b) (hI : BkI W (b : Int)) {g w : Int} (hg : 0 ≤ g ∧ g < bn (mB W b)) (hw : R32 w) : G0_aboutGathering b g w J = some (abG (mB W b) g w, J) := by
  have hb := hJ.2.1
  have h71 := hI.1.1
  have es : G6_signOf (b + 1) g J = some (bs (mB W b) g, J) := by
    rw [c_signOf (by omega) hJ.1 hI.1 ⟨by omega, by omega⟩, if_pos hg]
  refine wp_eq ?_
  unfold G0_aboutGathering abG
  rw [wp_ib, jp_E, kj_3, wp_ib, jp_E, kj_2, wp_ib, wp_ret es, wp_ig, wp_ite]
  refine ⟨hb, by omega, hw, ?_⟩
  by_cases w0 : w = 0
  · rw [if_pos w0, if_pos w0, jp_ret]
    exact ⟨rfl, rfl⟩
  · rw [if_neg w0, if_neg w0, wp_ite]
    by_cases w1 : w = 1
    · rw [if_pos w1, if_pos w1, wp_ib, jp_E, kj_3, wp_ib, jp_E, kj_2, wp_ib, wp_ret (c_size (by omega) hJ.1 hI.1 hg), jp_ret]
      exact ⟨hb, by omega, rfl, rfl⟩
    · rw [if_neg w1, if_neg w1, wp_ite]
      by_cases w2 : w = 2
      · rw [if_pos w2, if_pos w2, wp_ib, jp_E, kj_3, wp_ib, wp_ret (c_leavesOf hJ hI hg), jp_ret]
        exact ⟨hb, rfl, rfl⟩
      · rw [if_neg w2, if_neg w2, wp_ib, jp_E, kj_3, wp_ib, wp_ret (c_cutOf hJ hI hg), jp_ret]
        exact ⟨hb, rfl, rfl⟩
theorem p_gathering (hI : Inv W J) {a g w : Int} (ha : R32 a) (hg : R32 g) (hw : R32 w) : SQ (I12_gathering a g w) (G11_gathering a g w) W J := by
  unfold I12_gathering G11_gathering
  refine b_at hI ha (s_no hI) fun b e hb h8 hB => ?_
  subst e
  have h71 := hB.2.1.1.1
  have hJ := hB.2.2.1
  have e6 : W.2 6 (b : Int) = bn (mB W b) := rfl
  refine s_m ?_
  rw [wA6, e6]
  refine ⟨⟨by omega, by omega⟩, s_mr (m_isIn hg (by decide) ⟨by omega, by omega⟩) (s_mg ifR (s_cg hg ?_))⟩
  by_cases c0 : g < 0
  · refine s_m1 (by rw [if0]; omega) (s_c1 c0 ?_)
    exact s_no hI
  · refine s_c0 c0 (s_c ?_)
    rw [jp_E, kj_3]
    refine ⟨hb, s_c ?_⟩
    rw [jG6, kj_2, hJ.1.1]
    refine ⟨by omega, s_cg ⟨by omega, by omega⟩ ?_⟩
    by_cases c1 : g < bn (mB W b)
    · refine s_m0 (by rw [if0]; exact fun q => q (by omega)) (s_c1 c1 (s_mg hw (s_cg hw ?_)))
      have hgg : 0 ≤ g ∧ g < bn (mB W b) := ⟨by omega, c1⟩
      have hz := (hB.2.1.1.2.1 g hgg.1 hgg.2).2
      by_cases w0 : w < 0
      · refine s_c1 w0 (s_m0 (by omega) (s_m0 (by omega) (s_m0 (by omega) (s_m0 (by omega) ?_))))
        exact s_no hI
      · refine s_c0 w0 ?_
        by_cases w3 : w ≤ 3
        · refine s_c1 w3 (s_c ?_)
          rw [jp_E, kj_3]
          refine ⟨hb, s_cr (c_aboutG hJ hB.2.1 hgg hw) ?_⟩
          unfold abG
          by_cases w0 : w = 0
          · refine s_m1 w0 (s_m ?_)
            rw [wA7, if_pos w0]
            exact ⟨⟨by omega, by omega⟩, s_fine hI rfl⟩
          · refine s_m0 w0 ?_
            rw [if_neg w0]
            by_cases w1 : w = 1
            · refine s_m1 w1 (s_m ?_)
              rw [wA8, if_pos w1]
              exact ⟨⟨by omega, by omega⟩, s_fine hI rfl⟩
            · refine s_m0 w1 ?_
              rw [if_neg w1]
              by_cases w2 : w = 2
              · refine s_m1 w2 ?_
                have lb := hB.lc
                rw [if_pos w2]
                refine s_tl hI (v := gl (mB W b) g) ?_ rfl
                rw [m_g99 (by omega) (by omega) hB.2.1 hg (LC (mB W b)).toNat LFU 0 0 (Nat.lt_of_le_of_lt (show (LC (mB W b)).toNat ≤ 400 by omega) (by decide)) (by omega) (by omega), gl_cnt hB.2.1 hgg, Int.zero_add]
              · refine s_m0 w2 (s_m1 (by omega) ?_)
                rw [if_neg w2]
                refine s_tl hI (v := smz (cut (mB W b) g) (bz (mB W b) g).toNat 1) ?_ rfl
                rw [m_g153 (by omega) (by omega) hB.2.1.1 hgg (bz (mB W b) g).toNat LFU 0 1 (Nat.lt_of_le_of_lt (show (bz (mB W b) g).toNat ≤ 12 by omega) (by decide)) (by omega) (by omega), Int.zero_add]
        · refine s_c0 w3 (s_m0 (by omega) (s_m0 (by omega) (s_m0 (by omega) (s_m0 (by omega) ?_))))
          exact s_no hI
    · refine s_m1 (by rw [if0]; omega) (s_c0 c1 ?_)
      exact s_no hI
end QUE
