/-! ===== the class's sheets, names ===== -/
section CSH
variable {J : JS} {W : IS} {b : Nat}
theorem c_isFormat {f : Int} (h : R32 f) : G11_isFormat f J = some (if f = 2 ∨ f = 4 ∨ f = 8 then 1 else 0, J) := by
  refine wp_eq ?_
  unfold G11_isFormat
  simp only [wp_ib, wp_ig, wp_ite, jp_ret, jp_nz, jp_dI, jp_rI, jp_g9, jp_E, jpN1, jp_Bk, jp_Ck, jp_W, jp_R, jp_Tx, jp_Sl, jp_Sc, jp_Si, jp_Sq, jp_Xl, jp_X0, jp_Xc, jp_Xs, jp_Xi, jp_Tos, jp_NB, jp_NC, kj_1, kj_2, kj_3, kj_4, jpA1, jpS1, jp_con, ju1_s, ju1_a, ju2_s, ju2_a, juA_s, juA_a, jux_s, jux_a, jux_x, jux_t, ju1_jB, ju2_jB, juA_jB, ju1_jC, ju2_jC, juA_jC, ju1_jT, ju2_jT, juA_jT, ju1_jb, ju2_jb, juA_jb, ju1_jd, ju2_jd, juA_jd, ju1_jt, ju2_jt, juA_jt, ju1_jx, ju2_jx, juA_jx, ju1_jw, ju2_jw, juA_jw, ju1_jr, ju2_jr, juA_jr, ju1_jn, ju2_jn, juA_jn, jux_jB, jux_jC, jux_jT, jux_jb, jux_jd, jux_jw, jux_jr, jux_jn, jG2, jP2, jG3, jP3, jG4, jP4, jG5, jP5, jG8, jP8, jG9, jP9, jG10, jP10, jG11, jP11, jG1, jP1, jG6, jP6, jG7, jP7, jG12, jP12, wj2, wk2, wn2, wj3, wk3, wn3, wj4, wk4, wn4, wj5, wk5, wn5, wj6, wk6, wn6, wj7, wk7, wn7, wj8, wk8, wn8, wj9, wk9, wn9, wj10, wk10, wn10, Nat.reduceEqDiff, reduceIte, false_and, true_and, and_true, and_self, if_false, if_true, and_false]
  refine ⟨h, ?_⟩
  by_cases h2 : f = 2
  · rw [if_pos h2, if_pos (Or.inl h2)]; (first | done | exact ⟨rfl, rfl⟩ | exact ⟨trivial, rfl⟩ | exact ⟨rfl, trivial⟩ | rfl | trivial)
  · rw [if_neg h2]
    by_cases h4 : f = 4
    · rw [if_pos h4, if_pos (Or.inr (Or.inl h4))]; (first | done | exact ⟨rfl, rfl⟩ | exact ⟨trivial, rfl⟩ | exact ⟨rfl, trivial⟩ | rfl | trivial)
    · rw [if_neg h4]
      by_cases h8 : f = 8
      · rw [if_pos h8, if_pos (Or.inr (Or.inr h8))]; (first | done | exact ⟨rfl, rfl⟩ | exact ⟨trivial, rfl⟩ | exact ⟨rfl, trivial⟩ | rfl | trivial)
      · have h9 : ¬ (f = 2 ∨ f = 4 ∨ f = 8) := by omega
        rw [if_neg h8, if_neg h9]; (first | done | exact ⟨rfl, rfl⟩ | exact ⟨trivial, rfl⟩ | exact ⟨rfl, trivial⟩ | rfl | trivial)
theorem c_sheetIn {n i f : Int} (hf : fmt f) (h1 : 1 ≤ i) (h2 : i ≤ n) (h3 : n ≤ 12) : G0_sheetInGathering i n f J = some (shI n i f, J) := by
  have h := fmt_2 hf
  refine wp_eq ?_
  unfold G0_sheetInGathering
  simp only [wp_ib, wp_ig, wp_ite, jp_ret, jp_nz, jp_dI, jp_rI, jp_g9, jp_E, jpN1, jp_Bk, jp_Ck, jp_W, jp_R, jp_Tx, jp_Sl, jp_Sc, jp_Si, jp_Sq, jp_Xl, jp_X0, jp_Xc, jp_Xs, jp_Xi, jp_Tos, jp_NB, jp_NC, kj_1, kj_2, kj_3, kj_4, jpA1, jpS1, jp_con, ju1_s, ju1_a, ju2_s, ju2_a, juA_s, juA_a, jux_s, jux_a, jux_x, jux_t, ju1_jB, ju2_jB, juA_jB, ju1_jC, ju2_jC, juA_jC, ju1_jT, ju2_jT, juA_jT, ju1_jb, ju2_jb, juA_jb, ju1_jd, ju2_jd, juA_jd, ju1_jt, ju2_jt, juA_jt, ju1_jx, ju2_jx, juA_jx, ju1_jw, ju2_jw, juA_jw, ju1_jr, ju2_jr, juA_jr, ju1_jn, ju2_jn, juA_jn, jux_jB, jux_jC, jux_jT, jux_jb, jux_jd, jux_jw, jux_jr, jux_jn, jG2, jP2, jG3, jP3, jG4, jP4, jG5, jP5, jG8, jP8, jG9, jP9, jG10, jP10, jG11, jP11, jG1, jP1, jG6, jP6, jG7, jP7, jG12, jP12, wj2, wk2, wn2, wj3, wk3, wn3, wj4, wk4, wn4, wj5, wk5, wn5, wj6, wk6, wn6, wj7, wk7, wn7, wj8, wk8, wn8, wj9, wk9, wn9, wj10, wk10, wn10, Nat.reduceEqDiff, reduceIte, false_and, true_and, and_true, and_self, if_false, if_true, and_false]
  have hm : 0 ≤ (if n - i < i - 1 then n - i else i - 1) ∧ (if n - i < i - 1 then n - i else i - 1) ≤ 12 := by split <;> omega
  rw [if_pos (by omega)]
  unfold shI
  ((repeat' apply And.intro) <;> first | omega | rfl | trivial | assumption | (simp [smz]; done) | skip)
theorem c_sheetsAhead_5 (hJ : BoR J W b) (hI : BkI W (b : Int)) {x f : Int} (hf : fmt f) (hx : x ≤ bn (mB W b)) : ∀ (d m : Nat) (a g : Int), d < m → 0 ≤ g → g + d = x → G0_sheetsAhead_5 m b x f a g J = some (a + smz (fun g => shsI (bz (mB W b) g) f) d g, J) := by
  have h71 := hI.1.1
  have hb := hJ.2.1
  intro d
  induction d with
  | zero =>
    intro m a g hm hi hd
    cases m with
    | zero => omega
    | succ m =>
      refine wp_eq ?_
      unfold G0_sheetsAhead_5 G0_sheetsAhead_5_st
      simp only [wp_ib, wp_ig, wp_ite, jp_ret, jp_nz, jp_dI, jp_rI, jp_g9, jp_E, jpN1, jp_Bk, jp_Ck, jp_W, jp_R, jp_Tx, jp_Sl, jp_Sc, jp_Si, jp_Sq, jp_Xl, jp_X0, jp_Xc, jp_Xs, jp_Xi, jp_Tos, jp_NB, jp_NC, kj_1, kj_2, kj_3, kj_4, jpA1, jpS1, jp_con, ju1_s, ju1_a, ju2_s, ju2_a, juA_s, juA_a, jux_s, jux_a, jux_x, jux_t, ju1_jB, ju2_jB, juA_jB, ju1_jC, ju2_jC, juA_jC, ju1_jT, ju2_jT, juA_jT, ju1_jb, ju2_jb, juA_jb, ju1_jd, ju2_jd, juA_jd, ju1_jt, ju2_jt, juA_jt, ju1_jx, ju2_jx, juA_jx, ju1_jw, ju2_jw, juA_jw, ju1_jr, ju2_jr, juA_jr, ju1_jn, ju2_jn, juA_jn, jux_jB, jux_jC, jux_jT, jux_jb, jux_jd, jux_jw, jux_jr, jux_jn, jG2, jP2, jG3, jP3, jG4, jP4, jG5, jP5, jG8, jP8, jG9, jP9, jG10, jP10, jG11, jP11, jG1, jP1, jG6, jP6, jG7, jP7, jG12, jP12, wj2, wk2, wn2, wj3, wk3, wn3, wj4, wk4, wn4, wj5, wk5, wn5, wj6, wk6, wn6, wj7, wk7, wn7, wj8, wk8, wn8, wj9, wk9, wn9, wj10, wk10, wn10, Nat.reduceEqDiff, reduceIte, false_and, true_and, and_true, and_self, if_false, if_true, and_false]
      rw [if_pos (by omega)]
      exact ⟨by omega, by omega, by simp [smz]⟩
  | succ d ih =>
    intro m a g hm hi hd
    cases m with
    | zero => omega
    | succ m =>
      have hg : 0 ≤ g ∧ g < bn (mB W b) := by omega
      have hz := hI.1.2.1 _ hg.1 hg.2
      have hh := hlf hz.2.1 hz.2.2
      refine wp_eq ?_
      unfold G0_sheetsAhead_5 G0_sheetsAhead_5_st
      simp only [wp_ib, wp_ig, wp_ite, jp_ret, jp_nz, jp_dI, jp_rI, jp_g9, jp_E, jpN1, jp_Bk, jp_Ck, jp_W, jp_R, jp_Tx, jp_Sl, jp_Sc, jp_Si, jp_Sq, jp_Xl, jp_X0, jp_Xc, jp_Xs, jp_Xi, jp_Tos, jp_NB, jp_NC, kj_1, kj_2, kj_3, kj_4, jpA1, jpS1, jp_con, ju1_s, ju1_a, ju2_s, ju2_a, juA_s, juA_a, jux_s, jux_a, jux_x, jux_t, ju1_jB, ju2_jB, juA_jB, ju1_jC, ju2_jC, juA_jC, ju1_jT, ju2_jT, juA_jT, ju1_jb, ju2_jb, juA_jb, ju1_jd, ju2_jd, juA_jd, ju1_jt, ju2_jt, juA_jt, ju1_jx, ju2_jx, juA_jx, ju1_jw, ju2_jw, juA_jw, ju1_jr, ju2_jr, juA_jr, ju1_jn, ju2_jn, juA_jn, jux_jB, jux_jC, jux_jT, jux_jb, jux_jd, jux_jw, jux_jr, jux_jn, jG2, jP2, jG3, jP3, jG4, jP4, jG5, jP5, jG8, jP8, jG9, jP9, jG10, jP10, jG11, jP11, jG1, jP1, jG6, jP6, jG7, jP7, jG12, jP12, wj2, wk2, wn2, wj3, wk3, wn3, wj4, wk4, wn4, wj5, wk5, wn5, wj6, wk6, wn6, wj7, wk7, wn7, wj8, wk8, wn8, wj9, wk9, wn9, wj10, wk10, wn10, Nat.reduceEqDiff, reduceIte, false_and, true_and, and_true, and_self, if_false, if_true, and_false]
      rw [if_neg (by omega), wp_ret (c_signOf (by omega) hJ.1 hI.1 (by omega)), if_pos hg, wp_ret (c_size (by omega) hJ.1 hI.1 hg), wp_ret (c_sheetIn hf hh.1 hh.2 hz.2.2), wp_ret (ih m _ (g + 1) (by omega) (by omega) (by omega))]
      refine ⟨by omega, by omega, by omega, hb, by omega, by omega, by omega, ?_, rfl⟩
      show _ = a + (shsI (bz (mB W b) g) f + _)
      unfold shsI
      omega
theorem c_sheetsAhead (hJ : BoR J W b) (hI : BkI W (b : Int)) {x f : Int} (hf : fmt f) (h0 : 0 ≤ x) (hx : x ≤ bn (mB W b)) : G0_sheetsAhead b x f J = some (smz (fun g => shsI (bz (mB W b) g) f) x.toNat 0, J) := by
  have h71 := hI.1.1
  unfold G0_sheetsAhead
  rw [c_sheetsAhead_5 hJ hI hf hx x.toNat LFU 0 0 (by unfold LFU; omega) (by omega) (by omega), Int.zero_add]
/-- the leaf lies on no sheet -/
def npl (W : IS) (b p : Int) : Prop := ¬ (W.2 14 (b * 400 + p) = 0 ∧ bf (mB W b) (W.2 12 (b * 400 + p)) (W.2 13 (b * 400 + p)) = 0)
theorem knd0 {B : BK} {g i k : Int} (hk : 0 ≤ k) : knd B g i k = 0 ↔ k = 0 ∧ bf B g i = 0 := by
  unfold knd
  split
  · omega
  · split <;> omega
theorem kndR {B : BK} {g i k : Int} : R32 (knd B g i k) := by
  unfold knd
  split
  · decide
  · split <;> decide
theorem leafF (hI : BkI W (b : Int)) {p : Int} (h0 : 0 ≤ p) (h1 : p < LC (mB W b)) : (0 ≤ W.2 12 ((b : Int) * 400 + p) ∧ W.2 12 ((b : Int) * 400 + p) < bn (mB W b)) ∧ (1 ≤ W.2 13 ((b : Int) * 400 + p) ∧ W.2 13 ((b : Int) * 400 + p) ≤ bz (mB W b) (W.2 12 ((b : Int) * 400 + p))) ∧ (0 ≤ W.2 14 ((b : Int) * 400 + p) ∧ W.2 14 ((b : Int) * 400 + p) ≤ 4) ∧ (1 ≤ bz (mB W b) (W.2 12 ((b : Int) * 400 + p)) ∧ bz (mB W b) (W.2 12 ((b : Int) * 400 + p)) ≤ 12) ∧ (0 ≤ bs (mB W b) (W.2 12 ((b : Int) * 400 + p)) ∧ bs (mB W b) (W.2 12 ((b : Int) * 400 + p)) ≤ 70) ∧ bn (mB W b) ≤ 71 := by
  have hA := hI.at h0 h1
  have h71 := hI.1.1
  have hA1 := hA.1
  unfold isV at hA1
  have hz := hI.1.2.1 _ hA1.1.1 hA1.1.2
  have hmm := hI.1.2.2.1 _ _ hA1.1.1 hA1.1.2 hA1.2.1 hA1.2.2
  have hA2 := hA.2
  have hcc := cut01 (B := mB W b) (W.2 12 ((b : Int) * 400 + p)) (W.2 13 ((b : Int) * 400 + p))
  omega
theorem c_sheetOf (hJ : BoR J W b) (hI : BkI W (b : Int)) {p f : Int} (hf : fmt f) (h0 : 0 ≤ p) (h1 : p < LC (mB W b)) {Q : Int → JS → Prop} (hn : npl W b p → Q (-1) J) (hq : ¬ npl W b p → Q (smz (fun g => shsI (bz (mB W b) g) f) (W.2 12 ((b : Int) * 400 + p)).toNat 0 + shI (bz (mB W b) (W.2 12 ((b : Int) * 400 + p))) (W.2 13 ((b : Int) * 400 + p)) f) J) : wp (G0_sheetOf b p f) Q J := by
  have hL := leafF hI h0 h1
  have hb := hJ.2.1
  have hr := hJ.2.2.2.2 p h0 h1
  have r0 := rx_b hJ (r := 0) (by omega)
  have r1 := rx_b hJ (r := 1) (by omega)
  have r2 := rx_b hJ (r := 2) (by omega)
  unfold G0_sheetOf
  simp only [wp_ib, wp_ig, wp_ite, jp_ret, jp_nz, jp_dI, jp_rI, jp_g9, jp_E, jpN1, jp_Bk, jp_Ck, jp_W, jp_R, jp_Tx, jp_Sl, jp_Sc, jp_Si, jp_Sq, jp_Xl, jp_X0, jp_Xc, jp_Xs, jp_Xi, jp_Tos, jp_NB, jp_NC, kj_1, kj_2, kj_3, kj_4, jpA1, jpS1, jp_con, ju1_s, ju1_a, ju2_s, ju2_a, juA_s, juA_a, jux_s, jux_a, jux_x, jux_t, ju1_jB, ju2_jB, juA_jB, ju1_jC, ju2_jC, juA_jC, ju1_jT, ju2_jT, juA_jT, ju1_jb, ju2_jb, juA_jb, ju1_jd, ju2_jd, juA_jd, ju1_jt, ju2_jt, juA_jt, ju1_jx, ju2_jx, juA_jx, ju1_jw, ju2_jw, juA_jw, ju1_jr, ju2_jr, juA_jr, ju1_jn, ju2_jn, juA_jn, jux_jB, jux_jC, jux_jT, jux_jb, jux_jd, jux_jw, jux_jr, jux_jn, jG2, jP2, jG3, jP3, jG4, jP4, jG5, jP5, jG8, jP8, jG9, jP9, jG10, jP10, jG11, jP11, jG1, jP1, jG6, jP6, jG7, jP7, jG12, jP12, wj2, wk2, wn2, wj3, wk3, wn3, wj4, wk4, wn4, wj5, wk5, wn5, wj6, wk6, wn6, wj7, wk7, wn7, wj8, wk8, wn8, wj9, wk9, wn9, wj10, wk10, wn10, Nat.reduceEqDiff, reduceIte, false_and, true_and, and_true, and_self, if_false, if_true, and_false]
  rw [wp_ret (hJ.get hI 2 (by omega) h0 h1), hr.2.2.2]
  refine ⟨hb, by omega, kndR, ?_⟩
  by_cases c : knd (mB W b) (W.2 12 ((b : Int) * 400 + p)) (W.2 13 ((b : Int) * 400 + p)) (W.2 14 ((b : Int) * 400 + p)) = 0
  · rw [if_pos c, wp_ret (c_signAt hJ hI h0 h1), wp_ret (c_size (by omega) hJ.1 hI.1 hL.1), wp_ret (hJ.get hI 0 (by omega) h0 h1), hr.1, wp_ret (c_sheetsAhead hJ hI hf (by omega) (by omega)), wp_ret (hJ.get hI 1 (by omega) h0 h1), hr.2.1, wp_ret (c_sheetIn hf (by omega) (by omega) (by omega))]
    exact ⟨hb, hb, by omega, hb, by omega, hb, hb, by omega, hq fun q => q ((knd0 (by omega)).mp c)⟩
  · rw [if_neg c]
    exact hn fun q => c ((knd0 (by omega)).mpr q)
theorem c_numberOn_51 {n i f o : Int} (hf : fmt f) (h2 : i ≤ n) (h3 : n ≤ 12) (ho : o = shI n i f) (h1 : 1 ≤ i) : ∀ (d k : Nat) (a j : Int), d < k → 1 ≤ j → j + d = i + 1 → G0_numberOnSheet_51 k f n i o a j J = some (a + smz (fun j => if shI n j f = shI n i f then 1 else 0) d j, J) := by
  have hb2 := shI_bd hf h1 h2 h3
  subst ho
  intro d
  induction d with
  | zero =>
    intro k a j hk hj hd
    cases k with
    | zero => omega
    | succ k =>
      refine wp_eq ?_
      unfold G0_numberOnSheet_51 G0_numberOnSheet_51_st
      simp only [wp_ib, wp_ig, wp_ite, jp_ret, jp_nz, jp_dI, jp_rI, jp_g9, jp_E, jpN1, jp_Bk, jp_Ck, jp_W, jp_R, jp_Tx, jp_Sl, jp_Sc, jp_Si, jp_Sq, jp_Xl, jp_X0, jp_Xc, jp_Xs, jp_Xi, jp_Tos, jp_NB, jp_NC, kj_1, kj_2, kj_3, kj_4, jpA1, jpS1, jp_con, ju1_s, ju1_a, ju2_s, ju2_a, juA_s, juA_a, jux_s, jux_a, jux_x, jux_t, ju1_jB, ju2_jB, juA_jB, ju1_jC, ju2_jC, juA_jC, ju1_jT, ju2_jT, juA_jT, ju1_jb, ju2_jb, juA_jb, ju1_jd, ju2_jd, juA_jd, ju1_jt, ju2_jt, juA_jt, ju1_jx, ju2_jx, juA_jx, ju1_jw, ju2_jw, juA_jw, ju1_jr, ju2_jr, juA_jr, ju1_jn, ju2_jn, juA_jn, jux_jB, jux_jC, jux_jT, jux_jb, jux_jd, jux_jw, jux_jr, jux_jn, jG2, jP2, jG3, jP3, jG4, jP4, jG5, jP5, jG8, jP8, jG9, jP9, jG10, jP10, jG11, jP11, jG1, jP1, jG6, jP6, jG7, jP7, jG12, jP12, wj2, wk2, wn2, wj3, wk3, wn3, wj4, wk4, wn4, wj5, wk5, wn5, wj6, wk6, wn6, wj7, wk7, wn7, wj8, wk8, wn8, wj9, wk9, wn9, wj10, wk10, wn10, Nat.reduceEqDiff, reduceIte, false_and, true_and, and_true, and_self, if_false, if_true, and_false]
      rw [if_pos (by omega)]
      ((repeat' apply And.intro) <;> first | omega | rfl | trivial | assumption | (simp [smz]; done) | skip)
  | succ d ih =>
    intro k a j hk hj hd
    cases k with
    | zero => omega
    | succ k =>
      have hb1 := shI_bd hf hj (by omega : j ≤ n) h3
      refine wp_eq ?_
      unfold G0_numberOnSheet_51 G0_numberOnSheet_51_st G0_numberOnSheet_73
      simp only [wp_ib, wp_ig, wp_ite, jp_ret, jp_nz, jp_dI, jp_rI, jp_g9, jp_E, jpN1, jp_Bk, jp_Ck, jp_W, jp_R, jp_Tx, jp_Sl, jp_Sc, jp_Si, jp_Sq, jp_Xl, jp_X0, jp_Xc, jp_Xs, jp_Xi, jp_Tos, jp_NB, jp_NC, kj_1, kj_2, kj_3, kj_4, jpA1, jpS1, jp_con, ju1_s, ju1_a, ju2_s, ju2_a, juA_s, juA_a, jux_s, jux_a, jux_x, jux_t, ju1_jB, ju2_jB, juA_jB, ju1_jC, ju2_jC, juA_jC, ju1_jT, ju2_jT, juA_jT, ju1_jb, ju2_jb, juA_jb, ju1_jd, ju2_jd, juA_jd, ju1_jt, ju2_jt, juA_jt, ju1_jx, ju2_jx, juA_jx, ju1_jw, ju2_jw, juA_jw, ju1_jr, ju2_jr, juA_jr, ju1_jn, ju2_jn, juA_jn, jux_jB, jux_jC, jux_jT, jux_jb, jux_jd, jux_jw, jux_jr, jux_jn, jG2, jP2, jG3, jP3, jG4, jP4, jG5, jP5, jG8, jP8, jG9, jP9, jG10, jP10, jG11, jP11, jG1, jP1, jG6, jP6, jG7, jP7, jG12, jP12, wj2, wk2, wn2, wj3, wk3, wn3, wj4, wk4, wn4, wj5, wk5, wn5, wj6, wk6, wn6, wj7, wk7, wn7, wj8, wk8, wn8, wj9, wk9, wn9, wj10, wk10, wn10, Nat.reduceEqDiff, reduceIte, false_and, true_and, and_true, and_self, if_false, if_true, and_false]
      rw [if_neg (by omega), wp_ret (c_sheetIn hf hj (by omega) h3)]
      refine ⟨by omega, by omega, by omega, by omega, ?_⟩
      rw [wp_ret (ih k (a + 1) (j + 1) (by omega) (by omega) (by omega)), wp_ret (ih k a (j + 1) (by omega) (by omega) (by omega))]
      have e : smz (fun j => if shI n j f = shI n i f then (1 : Int) else 0) (d + 1) j = (if shI n j f = shI n i f then 1 else 0) + smz (fun j => if shI n j f = shI n i f then 1 else 0) d (j + 1) := rfl
      rw [e]
      split
      · exact ⟨by omega, rfl⟩
      · exact ⟨by omega, rfl⟩
theorem c_numberOnSheet (hJ : BoR J W b) (hI : BkI W (b : Int)) {p f : Int} (hf : fmt f) (h0 : 0 ≤ p) (h1 : p < LC (mB W b)) {Q : Int → JS → Prop} (hn : npl W b p → Q (-1) J) (hq : ¬ npl W b p → Q (rkI (bz (mB W b) (W.2 12 ((b : Int) * 400 + p))) (W.2 13 ((b : Int) * 400 + p)) f) J) : wp (G0_numberOnSheet b p f) Q J := by
  have hL := leafF hI h0 h1
  have hb := hJ.2.1
  have hr := hJ.2.2.2.2 p h0 h1
  have r1 := rx_b hJ (r := 1) (by omega)
  have r2 := rx_b hJ (r := 2) (by omega)
  unfold G0_numberOnSheet
  simp only [wp_ib, wp_ig, wp_ite, jp_ret, jp_nz, jp_dI, jp_rI, jp_g9, jp_E, jpN1, jp_Bk, jp_Ck, jp_W, jp_R, jp_Tx, jp_Sl, jp_Sc, jp_Si, jp_Sq, jp_Xl, jp_X0, jp_Xc, jp_Xs, jp_Xi, jp_Tos, jp_NB, jp_NC, kj_1, kj_2, kj_3, kj_4, jpA1, jpS1, jp_con, ju1_s, ju1_a, ju2_s, ju2_a, juA_s, juA_a, jux_s, jux_a, jux_x, jux_t, ju1_jB, ju2_jB, juA_jB, ju1_jC, ju2_jC, juA_jC, ju1_jT, ju2_jT, juA_jT, ju1_jb, ju2_jb, juA_jb, ju1_jd, ju2_jd, juA_jd, ju1_jt, ju2_jt, juA_jt, ju1_jx, ju2_jx, juA_jx, ju1_jw, ju2_jw, juA_jw, ju1_jr, ju2_jr, juA_jr, ju1_jn, ju2_jn, juA_jn, jux_jB, jux_jC, jux_jT, jux_jb, jux_jd, jux_jw, jux_jr, jux_jn, jG2, jP2, jG3, jP3, jG4, jP4, jG5, jP5, jG8, jP8, jG9, jP9, jG10, jP10, jG11, jP11, jG1, jP1, jG6, jP6, jG7, jP7, jG12, jP12, wj2, wk2, wn2, wj3, wk3, wn3, wj4, wk4, wn4, wj5, wk5, wn5, wj6, wk6, wn6, wj7, wk7, wn7, wj8, wk8, wn8, wj9, wk9, wn9, wj10, wk10, wn10, Nat.reduceEqDiff, reduceIte, false_and, true_and, and_true, and_self, if_false, if_true, and_false]
  rw [wp_ret (hJ.get hI 2 (by omega) h0 h1), hr.2.2.2]
  refine ⟨hb, by omega, kndR, ?_⟩
  by_cases c : knd (mB W b) (W.2 12 ((b : Int) * 400 + p)) (W.2 13 ((b : Int) * 400 + p)) (W.2 14 ((b : Int) * 400 + p)) = 0
  · rw [if_pos c, wp_ret (c_signAt hJ hI h0 h1), wp_ret (c_size (by omega) hJ.1 hI.1 hL.1), wp_ret (hJ.get hI 1 (by omega) h0 h1), hr.2.1, wp_ret (c_sheetIn hf (by omega) (by omega) (by omega)), wp_ret (c_numberOn_51 hf (by omega) (by omega) rfl (by omega) (W.2 13 ((b : Int) * 400 + p)).toNat LFU 0 1 (by unfold LFU; omega) (by omega) (by omega)), Int.zero_add]
    exact ⟨hb, hb, by omega, hb, by omega, hq fun q => q ((knd0 (by omega)).mp c)⟩
  · rw [if_neg c]
    exact hn fun q => c ((knd0 (by omega)).mpr q)
theorem c_formeOf (hJ : BoR J W b) (hI : BkI W (b : Int)) {p s f : Int} (hs : s = 0 ∨ s = 1) (hf : fmt f) (h0 : 0 ≤ p) (h1 : p < LC (mB W b)) {Q : Int → JS → Prop} (hn : npl W b p → Q (-1) J) (hq : ¬ npl W b p → Q ((rkI (bz (mB W b) (W.2 12 ((b : Int) * 400 + p))) (W.2 13 ((b : Int) * 400 + p)) f + 1 + s) % 2) J) : wp (G0_formeOf b p s f) Q J := by
  have hL := leafF hI h0 h1
  have hb := hJ.2.1
  unfold G0_formeOf G0_formeOf_29 G0_formeOf_40
  simp only [wp_ib, wp_ig, wp_ite, jp_ret, jp_nz, jp_dI, jp_rI, jp_g9, jp_E, jpN1, jp_Bk, jp_Ck, jp_W, jp_R, jp_Tx, jp_Sl, jp_Sc, jp_Si, jp_Sq, jp_Xl, jp_X0, jp_Xc, jp_Xs, jp_Xi, jp_Tos, jp_NB, jp_NC, kj_1, kj_2, kj_3, kj_4, jpA1, jpS1, jp_con, ju1_s, ju1_a, ju2_s, ju2_a, juA_s, juA_a, jux_s, jux_a, jux_x, jux_t, ju1_jB, ju2_jB, juA_jB, ju1_jC, ju2_jC, juA_jC, ju1_jT, ju2_jT, juA_jT, ju1_jb, ju2_jb, juA_jb, ju1_jd, ju2_jd, juA_jd, ju1_jt, ju2_jt, juA_jt, ju1_jx, ju2_jx, juA_jx, ju1_jw, ju2_jw, juA_jw, ju1_jr, ju2_jr, juA_jr, ju1_jn, ju2_jn, juA_jn, jux_jB, jux_jC, jux_jT, jux_jb, jux_jd, jux_jw, jux_jr, jux_jn, jG2, jP2, jG3, jP3, jG4, jP4, jG5, jP5, jG8, jP8, jG9, jP9, jG10, jP10, jG11, jP11, jG1, jP1, jG6, jP6, jG7, jP7, jG12, jP12, wj2, wk2, wn2, wj3, wk3, wn3, wj4, wk4, wn4, wj5, wk5, wn5, wj6, wk6, wn6, wj7, wk7, wn7, wj8, wk8, wn8, wj9, wk9, wn9, wj10, wk10, wn10, Nat.reduceEqDiff, reduceIte, false_and, true_and, and_true, and_self, if_false, if_true, and_false]
  refine ⟨hb, c_numberOnSheet hJ hI hf h0 h1 (fun q => ?_) (fun q => ?_)⟩
  · rw [if_pos rfl]
    exact ⟨by decide, hn q⟩
  · have hk := rkI_bd (n := bz (mB W b) (W.2 12 ((b : Int) * 400 + p))) (i := W.2 13 ((b : Int) * 400 + p)) (f := f) (by omega) (by omega)
    have := hq q
    revert this hk
    generalize rkI (bz (mB W b) (W.2 12 ((b : Int) * 400 + p))) (W.2 13 ((b : Int) * 400 + p)) f = v
    intro hk this
    rw [if_neg (by omega), Int.tdiv_eq_ediv_of_nonneg (by omega)]
    refine ⟨by omega, by omega, by omega, ?_⟩
    by_cases c : v - v / 2 * 2 = 1
    · rw [if_pos c]
      rcases hs with e | e <;> subst e
      · rw [if_pos rfl]
        have e9 : (v + 1 + 0) % 2 = 0 := by omega
        rw [e9] at this
        exact ⟨by decide, by decide, by decide, this⟩
      · rw [if_neg (by decide), if_neg (by decide)]
        have e9 : (v + 1 + 1) % 2 = 1 := by omega
        rw [e9] at this
        exact ⟨by decide, by decide, by decide, this⟩
    · rw [if_neg c]
      rcases hs with e | e <;> subst e
      · rw [if_pos rfl, if_neg (by decide)]
        have e9 : (v + 1 + 0) % 2 = 1 := by omega
        rw [e9] at this
        exact ⟨by decide, by decide, by decide, this⟩
      · rw [if_neg (by decide)]
        have e9 : (v + 1 + 1) % 2 = 0 := by omega
        rw [e9] at this
        exact ⟨by decide, by decide, by decide, this⟩
/-- a leaf's name -/
def nmT (W : IS) (b p : Int) : List Nat := namT (bs (mB W b) (W.2 12 (b * 400 + p))) (W.2 13 (b * 400 + p)) (W.2 14 (b * 400 + p))
theorem BoR.ux {l : List Nat} (h : BoR J W b) : BoR (jux J l) W b := h
theorem nmT_le (hI : BkI W (b : Int)) {p : Int} (h0 : 0 ≤ p) (h1 : p < LC (mB W b)) : (nmT W b p).length ≤ 8 := namT_le (leafF hI h0 h1).2.2.2.2.1.2
theorem c_writeName (hC : CT J) (hJ : BoR J W b) (hI : BkI W (b : Int)) {p : Int} (h0 : 0 ≤ p) (h1 : p < LC (mB W b)) {l : List Nat} (hl : l.length + 8 ≤ 16384) : G9_writeName b p (jux J l) = some ((), jux J (l ++ nmT W b p)) := by
  have hL := leafF hI h0 h1
  have hb := hJ.2.1
  have hr := hJ.2.2.2.2 p h0 h1
  have r1 := rx_b hJ (r := 1) (by omega)
  have r3 := rx_b hJ (r := 3) (by omega)
  have hs3 := sgnT_le hL.2.2.2.2.1.2
  have hd1 := dgs_le (W.2 13 ((b : Int) * 400 + p)).toNat
  have hd2 := dgs_le (W.2 14 ((b : Int) * 400 + p)).toNat
  have hg3 : ∀ m, G8_get (103 + 4 * b) p (jux J m) = some (W.2 14 ((b : Int) * 400 + p), jux J m) := fun m => by
    have := (hJ.ux (l := m)).get hI 3 (by omega) h0 h1
    rw [show ja (jux J m) 1 (100 + 3 + 4 * b) p = W.2 14 ((b : Int) * 400 + p) from hr.2.2.1] at this
    exact this
  refine wp_eq ?_
  unfold G9_writeName
  simp only [wp_ib, wp_ig, wp_ite, jp_ret, jp_nz, jp_dI, jp_rI, jp_g9, jp_E, jpN1, jp_Bk, jp_Ck, jp_W, jp_R, jp_Tx, jp_Sl, jp_Sc, jp_Si, jp_Sq, jp_Xl, jp_X0, jp_Xc, jp_Xs, jp_Xi, jp_Tos, jp_NB, jp_NC, kj_1, kj_2, kj_3, kj_4, jpA1, jpS1, jp_con, ju1_s, ju1_a, ju2_s, ju2_a, juA_s, juA_a, jux_s, jux_a, jux_x, jux_t, ju1_jB, ju2_jB, juA_jB, ju1_jC, ju2_jC, juA_jC, ju1_jT, ju2_jT, juA_jT, ju1_jb, ju2_jb, juA_jb, ju1_jd, ju2_jd, juA_jd, ju1_jt, ju2_jt, juA_jt, ju1_jx, ju2_jx, juA_jx, ju1_jw, ju2_jw, juA_jw, ju1_jr, ju2_jr, juA_jr, ju1_jn, ju2_jn, juA_jn, jux_jB, jux_jC, jux_jT, jux_jb, jux_jd, jux_jw, jux_jr, jux_jn, jG2, jP2, jG3, jP3, jG4, jP4, jG5, jP5, jG8, jP8, jG9, jP9, jG10, jP10, jG11, jP11, jG1, jP1, jG6, jP6, jG7, jP7, jG12, jP12, wj2, wk2, wn2, wj3, wk3, wn3, wj4, wk4, wn4, wj5, wk5, wn5, wj6, wk6, wn6, wj7, wk7, wn7, wj8, wk8, wn8, wj9, wk9, wn9, wj10, wk10, wn10, Nat.reduceEqDiff, reduceIte, false_and, true_and, and_true, and_self, if_false, if_true, and_false]
  rw [wp_ret (c_signAt hJ.ux hI h0 h1), wp_ret (c_writeSign hC (by omega) (by omega) (by omega)), wp_ret (hJ.ux.get hI 1 (by omega) h0 h1)]
  rw [show ja (jux J (l ++ sgnT (bs (mB W b) (W.2 12 ((b : Int) * 400 + p))))) 1 (100 + 1 + 4 * b) p = W.2 13 ((b : Int) * 400 + p) from hr.2.1]
  simp only [wp_ib, wp_ig, wp_ite, jp_ret, jp_nz, jp_dI, jp_rI, jp_g9, jp_E, jpN1, jp_Bk, jp_Ck, jp_W, jp_R, jp_Tx, jp_Sl, jp_Sc, jp_Si, jp_Sq, jp_Xl, jp_X0, jp_Xc, jp_Xs, jp_Xi, jp_Tos, jp_NB, jp_NC, kj_1, kj_2, kj_3, kj_4, jpA1, jpS1, jp_con, ju1_s, ju1_a, ju2_s, ju2_a, juA_s, juA_a, jux_s, jux_a, jux_x, jux_t, ju1_jB, ju2_jB, juA_jB, ju1_jC, ju2_jC, juA_jC, ju1_jT, ju2_jT, juA_jT, ju1_jb, ju2_jb, juA_jb, ju1_jd, ju2_jd, juA_jd, ju1_jt, ju2_jt, juA_jt, ju1_jx, ju2_jx, juA_jx, ju1_jw, ju2_jw, juA_jw, ju1_jr, ju2_jr, juA_jr, ju1_jn, ju2_jn, juA_jn, jux_jB, jux_jC, jux_jT, jux_jb, jux_jd, jux_jw, jux_jr, jux_jn, jG2, jP2, jG3, jP3, jG4, jP4, jG5, jP5, jG8, jP8, jG9, jP9, jG10, jP10, jG11, jP11, jG1, jP1, jG6, jP6, jG7, jP7, jG12, jP12, wj2, wk2, wn2, wj3, wk3, wn3, wj4, wk4, wn4, wj5, wk5, wn5, wj6, wk6, wn6, wj7, wk7, wn7, wj8, wk8, wn8, wj9, wk9, wn9, wj10, wk10, wn10, Nat.reduceEqDiff, reduceIte, false_and, true_and, and_true, and_self, if_false, if_true, and_false, jux_jux]
  rw [wp_ret (hg3 _)]
  simp only [List.length_append]
  refine ⟨hb, hb, by omega, by omega, hb, by omega, by omega, ?_⟩
  unfold nmT namT
  by_cases c : W.2 14 ((b : Int) * 400 + p) ≤ 0
  · rw [if_pos c, if_pos c, List.append_nil]
    simp only [jux_jux, List.append_assoc]
  · rw [if_neg c, if_neg c]
    simp only [jux_jux, jux_x, List.append_assoc, List.length_append]
    refine ⟨by omega, ⟨by omega, ?_⟩, rfl⟩
    simp only [List.length_cons, List.length_nil]
    omega
end CSH
