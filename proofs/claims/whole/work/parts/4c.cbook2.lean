/-! ===== the class's books: leaves, conjugates, places ===== -/
section CB2
variable {J : JS} {W : IS} {b : Nat}
theorem cjg_u {B : BK} {g i k q q' : Int} (h : cjg B g i k q) (h' : cjg B g i k q') : q = q' := by
  rcases h with ⟨h1, h2, h3, h4⟩ | ⟨h1, h2⟩
  · rcases h' with ⟨h1', h2', h3', h4'⟩ | ⟨h1', h2'⟩
    · rw [h3.2.2, h3'.2.2]
    · exact absurd ⟨h1, h2, h4⟩ h2'
  · rcases h' with ⟨h1', h2', h3', h4'⟩ | ⟨h1', h2'⟩
    · exact absurd ⟨h1', h2', h4'⟩ h2
    · rw [h1, h1']
theorem BoR.get (hJ : BoR J W b) (hI : BkI W (b : Int)) (r : Nat) (hr : r < 4) {p : Int} (h0 : 0 ≤ p) (h1 : p < LC (mB W b)) : G8_get (100 + r + 4 * b) p J = some (ja J 1 (100 + r + 4 * b) p, J) := by
  have hl : js J 1 (100 + r + 4 * b) = LC (mB W b) := by
    obtain ⟨q0, q1, q2, q3⟩ := hJ.2.2.2.1
    have : r = 0 ∨ r = 1 ∨ r = 2 ∨ r = 3 := by omega
    rcases this with e | e | e | e <;> subst e <;> assumption
  have hb := hJ.2.1
  have h4 := hI.2.2.1
  have h5 := LC_tot hI.1
  have hrl : rl (100 + r + 4 * b) = 400 := by unfold rl; rw [if_neg (by omega)]
  rw [c_get (by unfold rxk; omega) (by omega) (by omega) (by omega), if_pos (by omega)]
theorem rx_b (hJ : BoR J W b) {r : Nat} (hr : r < 4) : 100 + r + 4 * b ≤ 12 ∨ (100 ≤ 100 + r + 4 * b ∧ 100 + r + 4 * b < 100 + 4 * jB J) ∨ (200 ≤ 100 + r + 4 * b ∧ 100 + r + 4 * b < 200 + 5 * jC J) := by
  have := hJ.2.1
  omega
theorem c_signAt (hJ : BoR J W b) (hI : BkI W (b : Int)) {p : Int} (h0 : 0 ≤ p) (h1 : p < LC (mB W b)) : G0_signAt b p J = some (bs (mB W b) (W.2 12 ((b : Int) * 400 + p)), J) := by
  have hA := hI.at h0 h1
  have h71 := hI.1.1
  have hb := hJ.2.1
  have hA1 := hA.1.1
  refine wp_eq ?_
  unfold G0_signAt
  simp only [wp_ib, wp_ig, wp_ite, jp_ret, jp_nz, jp_dI, jp_rI, jp_g9, jp_E, jpN1, jp_Bk, jp_Ck, jp_W, jp_R, jp_Tx, jp_Sl, jp_Sc, jp_Si, jp_Sq, jp_Xl, jp_X0, jp_Xc, jp_Xs, jp_Xi, jp_Tos, jp_NB, jp_NC, kj_1, kj_2, kj_3, kj_4, jpA1, jpS1, jp_con, ju1_s, ju1_a, ju2_s, ju2_a, juA_s, juA_a, jux_s, jux_a, jux_x, jux_t, ju1_jB, ju2_jB, juA_jB, ju1_jC, ju2_jC, juA_jC, ju1_jT, ju2_jT, juA_jT, ju1_jb, ju2_jb, juA_jb, ju1_jd, ju2_jd, juA_jd, ju1_jt, ju2_jt, juA_jt, ju1_jx, ju2_jx, juA_jx, ju1_jw, ju2_jw, juA_jw, ju1_jr, ju2_jr, juA_jr, ju1_jn, ju2_jn, juA_jn, jux_jB, jux_jC, jux_jT, jux_jb, jux_jd, jux_jw, jux_jr, jux_jn, jG2, jP2, jG3, jP3, jG4, jP4, jG5, jP5, jG8, jP8, jG9, jP9, jG10, jP10, jG11, jP11, jG1, jP1, jG6, jP6, jG7, jP7, jG12, jP12, wj2, wk2, wn2, wj3, wk3, wn3, wj4, wk4, wn4, wj5, wk5, wn5, wj6, wk6, wn6, wj7, wk7, wn7, wj8, wk8, wn8, wj9, wk9, wn9, wj10, wk10, wn10, Nat.reduceEqDiff, reduceIte, false_and, true_and, and_true, and_self, if_false, if_true, and_false]
  rw [wp_ret (hJ.get hI 0 (by omega) h0 h1), (hJ.2.2.2.2 p h0 h1).1, wp_ret (c_signOf (by omega) hJ.1 hI.1 (by omega)), if_pos hA1]
  exact ⟨by omega, by omega, by omega, by omega, by (first | done | exact ⟨rfl, rfl⟩ | exact ⟨trivial, rfl⟩ | exact ⟨rfl, trivial⟩ | rfl | trivial)⟩
/-- a place out of a slot: k-th put in, with -1 the leaf itself -/
theorem c_placeOfSlot (hJ : BoR J W b) (hI : BkI W (b : Int)) {g i k : Int} (hV : isV (mB W b) g i) (hk : R32 k) : G0_placeOfSlot b (slt (mB W b) g i) k J = some (if k = -1 then (if cut (mB W b) g i = 0 then ah (mB W b) g i else -1) else if k < 1 ∨ bm (mB W b) g i < k then -1 else ah (mB W b) g i + k - cut (mB W b) g i, J) := by
  have hb := hJ.2.1
  have hs := slt_bd hI.1 hV
  have hc := cut01 (B := mB W b) g i
  have hm := hI.1.2.2.1 g i hV.1.1 hV.1.2 hV.2.1 hV.2.2
  refine wp_eq ?_
  unfold G0_placeOfSlot
  simp only [wp_ib, wp_ig, wp_ite, jp_ret, jp_nz, jp_dI, jp_rI, jp_g9, jp_E, jpN1, jp_Bk, jp_Ck, jp_W, jp_R, jp_Tx, jp_Sl, jp_Sc, jp_Si, jp_Sq, jp_Xl, jp_X0, jp_Xc, jp_Xs, jp_Xi, jp_Tos, jp_NB, jp_NC, kj_1, kj_2, kj_3, kj_4, jpA1, jpS1, jp_con, ju1_s, ju1_a, ju2_s, ju2_a, juA_s, juA_a, jux_s, jux_a, jux_x, jux_t, ju1_jB, ju2_jB, juA_jB, ju1_jC, ju2_jC, juA_jC, ju1_jT, ju2_jT, juA_jT, ju1_jb, ju2_jb, juA_jb, ju1_jd, ju2_jd, juA_jd, ju1_jt, ju2_jt, juA_jt, ju1_jx, ju2_jx, juA_jx, ju1_jw, ju2_jw, juA_jw, ju1_jr, ju2_jr, juA_jr, ju1_jn, ju2_jn, juA_jn, jux_jB, jux_jC, jux_jT, jux_jb, jux_jd, jux_jw, jux_jr, jux_jn, jG2, jP2, jG3, jP3, jG4, jP4, jG5, jP5, jG8, jP8, jG9, jP9, jG10, jP10, jG11, jP11, jG1, jP1, jG6, jP6, jG7, jP7, jG12, jP12, wj2, wk2, wn2, wj3, wk3, wn3, wj4, wk4, wn4, wj5, wk5, wn5, wj6, wk6, wn6, wj7, wk7, wn7, wj8, wk8, wn8, wj9, wk9, wn9, wj10, wk10, wn10, Nat.reduceEqDiff, reduceIte, false_and, true_and, and_true, and_self, if_false, if_true, and_false]
  rw [if_neg (by omega), if_pos (by omega), hJ.2.2.1 g i hV, wp_ret (c_isCut (by omega) hJ.1 hI.1 hV)]
  refine ⟨by omega, by omega, by omega, by omega, by omega, by omega, by omega, by omega, hk, ?_⟩
  by_cases c1 : k = -1
  · rw [if_pos c1, if_pos c1]
    refine ⟨by omega, ?_⟩
    by_cases c2 : cut (mB W b) g i = 0
    · rw [if_pos c2, if_pos c2]; (first | done | exact ⟨rfl, rfl⟩ | exact ⟨trivial, rfl⟩ | exact ⟨rfl, trivial⟩ | rfl | trivial)
    · rw [if_neg c2, if_neg c2]; (first | done | exact ⟨rfl, rfl⟩ | exact ⟨trivial, rfl⟩ | exact ⟨rfl, trivial⟩ | rfl | trivial)
  · rw [if_neg c1, if_neg c1]
    by_cases c2 : k < 1
    · rw [if_pos c2, if_pos (Or.inl c2)]; (first | done | exact ⟨rfl, rfl⟩ | exact ⟨trivial, rfl⟩ | exact ⟨rfl, trivial⟩ | rfl | trivial)
    · rw [if_neg c2, wp_ret (c_ins (by omega) hJ.1 hI.1 hV)]
      refine ⟨by omega, by omega, by omega, ?_⟩
      by_cases c3 : k ≤ bm (mB W b) g i
      · have e9 : ¬ (k < 1 ∨ bm (mB W b) g i < k) := by omega
        rw [if_pos c3, if_neg e9]
        refine ⟨by omega, ?_⟩
        by_cases c4 : cut (mB W b) g i = 0
        · rw [if_pos c4]; exact ⟨by omega, rfl⟩
        · rw [if_neg c4]; exact ⟨by omega, rfl⟩
      · rw [if_neg c3, if_pos (by omega)]; (first | done | exact ⟨rfl, rfl⟩ | exact ⟨trivial, rfl⟩ | exact ⟨rfl, trivial⟩ | rfl | trivial)
theorem c_placeOfNo (hb : b < jB J) {l k : Int} (hl : l = -1) : G0_placeOfSlot b l k J = some (-1, J) := by
  subst hl
  refine wp_eq ?_
  unfold G0_placeOfSlot
  simp only [wp_ib, wp_ig, wp_ite, jp_ret, jp_nz, jp_dI, jp_rI, jp_g9, jp_E, jpN1, jp_Bk, jp_Ck, jp_W, jp_R, jp_Tx, jp_Sl, jp_Sc, jp_Si, jp_Sq, jp_Xl, jp_X0, jp_Xc, jp_Xs, jp_Xi, jp_Tos, jp_NB, jp_NC, kj_1, kj_2, kj_3, kj_4, jpA1, jpS1, jp_con, ju1_s, ju1_a, ju2_s, ju2_a, juA_s, juA_a, jux_s, jux_a, jux_x, jux_t, ju1_jB, ju2_jB, juA_jB, ju1_jC, ju2_jC, juA_jC, ju1_jT, ju2_jT, juA_jT, ju1_jb, ju2_jb, juA_jb, ju1_jd, ju2_jd, juA_jd, ju1_jt, ju2_jt, juA_jt, ju1_jx, ju2_jx, juA_jx, ju1_jw, ju2_jw, juA_jw, ju1_jr, ju2_jr, juA_jr, ju1_jn, ju2_jn, juA_jn, jux_jB, jux_jC, jux_jT, jux_jb, jux_jd, jux_jw, jux_jr, jux_jn, jG2, jP2, jG3, jP3, jG4, jP4, jG5, jP5, jG8, jP8, jG9, jP9, jG10, jP10, jG11, jP11, jG1, jP1, jG6, jP6, jG7, jP7, jG12, jP12, wj2, wk2, wn2, wj3, wk3, wn3, wj4, wk4, wn4, wj5, wk5, wn5, wj6, wk6, wn6, wj7, wk7, wn7, wj8, wk8, wn8, wj9, wk9, wn9, wj10, wk10, wn10, Nat.reduceEqDiff, reduceIte, false_and, true_and, and_true, and_self, if_false, if_true, and_false]
  rw [if_pos (by omega)]
  exact ⟨by omega, by (first | done | exact ⟨rfl, rfl⟩ | exact ⟨trivial, rfl⟩ | exact ⟨rfl, trivial⟩ | rfl | trivial)⟩
theorem c_conjugateOf (hJ : BoR J W b) (hI : BkI W (b : Int)) {p : Int} (h0 : 0 ≤ p) (h1 : p < LC (mB W b)) {Q : Int → JS → Prop} (hq : ∀ q, cjg (mB W b) (W.2 12 ((b : Int) * 400 + p)) (W.2 13 ((b : Int) * 400 + p)) (W.2 14 ((b : Int) * 400 + p)) q → Q q J) : wp (G0_conjugateOf b p) Q J := by
  have hA := hI.at h0 h1
  have h71 := hI.1.1
  have hb := hJ.2.1
  have hA1 := hA.1
  unfold isV at hA1
  have hz := hI.1.2.1 _ hA1.1.1 hA1.1.2
  have hmm := hI.1.2.2.1 _ _ hA1.1.1 hA1.1.2 hA1.2.1 hA1.2.2
  have hA2 := hA.2
  have hcc := cut01 (B := mB W b) (W.2 12 ((b : Int) * 400 + p)) (W.2 13 ((b : Int) * 400 + p))
  have hr := hJ.2.2.2.2 p h0 h1
  have r1 := rx_b hJ (r := 1) (by omega)
  have r2 := rx_b hJ (r := 2) (by omega)
  unfold G0_conjugateOf
  simp only [wp_ib, wp_ig, wp_ite, jp_ret, jp_nz, jp_dI, jp_rI, jp_g9, jp_E, jpN1, jp_Bk, jp_Ck, jp_W, jp_R, jp_Tx, jp_Sl, jp_Sc, jp_Si, jp_Sq, jp_Xl, jp_X0, jp_Xc, jp_Xs, jp_Xi, jp_Tos, jp_NB, jp_NC, kj_1, kj_2, kj_3, kj_4, jpA1, jpS1, jp_con, ju1_s, ju1_a, ju2_s, ju2_a, juA_s, juA_a, jux_s, jux_a, jux_x, jux_t, ju1_jB, ju2_jB, juA_jB, ju1_jC, ju2_jC, juA_jC, ju1_jT, ju2_jT, juA_jT, ju1_jb, ju2_jb, juA_jb, ju1_jd, ju2_jd, juA_jd, ju1_jt, ju2_jt, juA_jt, ju1_jx, ju2_jx, juA_jx, ju1_jw, ju2_jw, juA_jw, ju1_jr, ju2_jr, juA_jr, ju1_jn, ju2_jn, juA_jn, jux_jB, jux_jC, jux_jT, jux_jb, jux_jd, jux_jw, jux_jr, jux_jn, jG2, jP2, jG3, jP3, jG4, jP4, jG5, jP5, jG8, jP8, jG9, jP9, jG10, jP10, jG11, jP11, jG1, jP1, jG6, jP6, jG7, jP7, jG12, jP12, wj2, wk2, wn2, wj3, wk3, wn3, wj4, wk4, wn4, wj5, wk5, wn5, wj6, wk6, wn6, wj7, wk7, wn7, wj8, wk8, wn8, wj9, wk9, wn9, wj10, wk10, wn10, Nat.reduceEqDiff, reduceIte, false_and, true_and, and_true, and_self, if_false, if_true, and_false]
  rw [wp_ret (c_signAt hJ hI h0 h1), wp_ret (hJ.get hI 1 (by omega) h0 h1), wp_ret (c_size (by omega) hJ.1 hI.1 hA1.1), hr.2.1]
  have hV' : 1 ≤ bz (mB W b) (W.2 12 ((b : Int) * 400 + p)) + 1 - W.2 13 ((b : Int) * 400 + p) ∧ bz (mB W b) (W.2 12 ((b : Int) * 400 + p)) + 1 - W.2 13 ((b : Int) * 400 + p) ≤ bz (mB W b) (W.2 12 ((b : Int) * 400 + p)) := by omega
  refine ⟨hb, hb, by omega, hb, by omega, hb, by omega, ?_⟩
  refine c_slotOf (by omega) hJ.1 hI.1 (by omega) (by omega) (fun g hV e => ?_) (fun hn => absurd rfl (hn _ ⟨hA1.1, hV'⟩))
  have eg := bs_inj hI.1 hV.1 hA1.1 e
  subst eg
  have hm2 := hI.1.2.2.1 _ _ hV.1.1 hV.1.2 hV.2.1 hV.2.2
  have hc2 := cut01 (B := mB W b) (W.2 12 ((b : Int) * 400 + p)) (bz (mB W b) (W.2 12 ((b : Int) * 400 + p)) + 1 - W.2 13 ((b : Int) * 400 + p))
  rw [wp_ret (hJ.get hI 2 (by omega) h0 h1), hr.2.2.2]
  have hk3 : knd (mB W b) (W.2 12 ((b : Int) * 400 + p)) (W.2 13 ((b : Int) * 400 + p)) (W.2 14 ((b : Int) * 400 + p)) = 0 ↔ (W.2 14 ((b : Int) * 400 + p) = 0 ∧ bf (mB W b) (W.2 12 ((b : Int) * 400 + p)) (W.2 13 ((b : Int) * 400 + p)) = 0) := by
    unfold knd
    split
    · omega
    · split <;> omega
  have hkR : R32 (knd (mB W b) (W.2 12 ((b : Int) * 400 + p)) (W.2 13 ((b : Int) * 400 + p)) (W.2 14 ((b : Int) * 400 + p))) := by
    unfold knd
    split
    · decide
    · split <;> decide
  refine ⟨hb, by omega, hkR, ?_⟩
  by_cases c1 : knd (mB W b) (W.2 12 ((b : Int) * 400 + p)) (W.2 13 ((b : Int) * 400 + p)) (W.2 14 ((b : Int) * 400 + p)) = 0
  · rw [if_pos c1]
    have c1' := hk3.mp c1
    refine ⟨by omega, by omega, ?_⟩
    by_cases c2 : bz (mB W b) (W.2 12 ((b : Int) * 400 + p)) + 1 - W.2 13 ((b : Int) * 400 + p) = W.2 13 ((b : Int) * 400 + p)
    · rw [if_pos c2]
      exact hq _ (Or.inr ⟨rfl, fun r => r.2.1 c2⟩)
    · rw [if_neg c2, wp_ret (c_fate (by omega) hJ.1 hI.1 hV)]
      have hfr := fC_R (bf (mB W b) (W.2 12 ((b : Int) * 400 + p)) (bz (mB W b) (W.2 12 ((b : Int) * 400 + p)) + 1 - W.2 13 ((b : Int) * 400 + p)))
      refine ⟨hb, by omega, by omega, ?_⟩
      by_cases c3 : bf (mB W b) (W.2 12 ((b : Int) * 400 + p)) (bz (mB W b) (W.2 12 ((b : Int) * 400 + p)) + 1 - W.2 13 ((b : Int) * 400 + p)) = 0
      · have e0 : fC (bf (mB W b) (W.2 12 ((b : Int) * 400 + p)) (bz (mB W b) (W.2 12 ((b : Int) * 400 + p)) + 1 - W.2 13 ((b : Int) * 400 + p))) = 0 := by rw [c3]; rfl
        have ec : cut (mB W b) (W.2 12 ((b : Int) * 400 + p)) (bz (mB W b) (W.2 12 ((b : Int) * 400 + p)) + 1 - W.2 13 ((b : Int) * 400 + p)) = 0 := by unfold cut; rw [c3, if_neg (by omega)]
        rw [if_pos e0, wp_ret (c_placeOfSlot hJ hI hV (by decide)), if_pos rfl, if_pos ec]
        exact ⟨hb, hq _ (Or.inl ⟨c1', c2, ⟨hV, by omega, by omega⟩, c3⟩)⟩
      · have e0 : ¬ fC (bf (mB W b) (W.2 12 ((b : Int) * 400 + p)) (bz (mB W b) (W.2 12 ((b : Int) * 400 + p)) + 1 - W.2 13 ((b : Int) * 400 + p))) = 0 := by
          unfold fC
          split
          · omega
          · split
            · omega
            · omega
        rw [if_neg e0]
        exact hq _ (Or.inr ⟨rfl, fun r => c3 r.2.2⟩)
  · rw [if_neg c1]
    exact hq _ (Or.inr ⟨rfl, fun r => c1 (hk3.mpr r.1)⟩)
/-! how many leaves are cut, are of a gathering -/
theorem c_cutOf_4 (hJ : BoR J W b) (hI : BkI W (b : Int)) {g : Int} (hg : 0 ≤ g ∧ g < bn (mB W b)) : ∀ (d m : Nat) (a i : Int), d < m → 1 ≤ i → i + d = bz (mB W b) g + 1 → G0_cutOf_4 m b (bs (mB W b) g) a i J = some (a + smz (cut (mB W b) g) d i, J) := by
  have hz := hI.1.2.1 _ hg.1 hg.2
  have hb := hJ.2.1
  intro d
  induction d with
  | zero =>
    intro m a i hm hi hd
    cases m with
    | zero => omega
    | succ m =>
      refine wp_eq ?_
      unfold G0_cutOf_4 G0_cutOf_4_st
      simp only [wp_ib, wp_ig, wp_ite, jp_ret, jp_nz, jp_dI, jp_rI, jp_g9, jp_E, jpN1, jp_Bk, jp_Ck, jp_W, jp_R, jp_Tx, jp_Sl, jp_Sc, jp_Si, jp_Sq, jp_Xl, jp_X0, jp_Xc, jp_Xs, jp_Xi, jp_Tos, jp_NB, jp_NC, kj_1, kj_2, kj_3, kj_4, jpA1, jpS1, jp_con, ju1_s, ju1_a, ju2_s, ju2_a, juA_s, juA_a, jux_s, jux_a, jux_x, jux_t, ju1_jB, ju2_jB, juA_jB, ju1_jC, ju2_jC, juA_jC, ju1_jT, ju2_jT, juA_jT, ju1_jb, ju2_jb, juA_jb, ju1_jd, ju2_jd, juA_jd, ju1_jt, ju2_jt, juA_jt, ju1_jx, ju2_jx, juA_jx, ju1_jw, ju2_jw, juA_jw, ju1_jr, ju2_jr, juA_jr, ju1_jn, ju2_jn, juA_jn, jux_jB, jux_jC, jux_jT, jux_jb, jux_jd, jux_jw, jux_jr, jux_jn, jG2, jP2, jG3, jP3, jG4, jP4, jG5, jP5, jG8, jP8, jG9, jP9, jG10, jP10, jG11, jP11, jG1, jP1, jG6, jP6, jG7, jP7, jG12, jP12, wj2, wk2, wn2, wj3, wk3, wn3, wj4, wk4, wn4, wj5, wk5, wn5, wj6, wk6, wn6, wj7, wk7, wn7, wj8, wk8, wn8, wj9, wk9, wn9, wj10, wk10, wn10, Nat.reduceEqDiff, reduceIte, false_and, true_and, and_true, and_self, if_false, if_true, and_false]
      rw [wp_ret (c_size (by omega) hJ.1 hI.1 hg), if_pos (by omega)]
      exact ⟨hb, by omega, by omega, by omega, by simp [smz]⟩
  | succ d ih =>
    intro m a i hm hi hd
    cases m with
    | zero => omega
    | succ m =>
      have hV : isV (mB W b) g i := ⟨hg, hi, by omega⟩
      have hc := cut01 (B := mB W b) g i
      refine wp_eq ?_
      unfold G0_cutOf_4 G0_cutOf_4_st G0_cutOf_38
      simp only [wp_ib, wp_ig, wp_ite, jp_ret, jp_nz, jp_dI, jp_rI, jp_g9, jp_E, jpN1, jp_Bk, jp_Ck, jp_W, jp_R, jp_Tx, jp_Sl, jp_Sc, jp_Si, jp_Sq, jp_Xl, jp_X0, jp_Xc, jp_Xs, jp_Xi, jp_Tos, jp_NB, jp_NC, kj_1, kj_2, kj_3, kj_4, jpA1, jpS1, jp_con, ju1_s, ju1_a, ju2_s, ju2_a, juA_s, juA_a, jux_s, jux_a, jux_x, jux_t, ju1_jB, ju2_jB, juA_jB, ju1_jC, ju2_jC, juA_jC, ju1_jT, ju2_jT, juA_jT, ju1_jb, ju2_jb, juA_jb, ju1_jd, ju2_jd, juA_jd, ju1_jt, ju2_jt, juA_jt, ju1_jx, ju2_jx, juA_jx, ju1_jw, ju2_jw, juA_jw, ju1_jr, ju2_jr, juA_jr, ju1_jn, ju2_jn, juA_jn, jux_jB, jux_jC, jux_jT, jux_jb, jux_jd, jux_jw, jux_jr, jux_jn, jG2, jP2, jG3, jP3, jG4, jP4, jG5, jP5, jG8, jP8, jG9, jP9, jG10, jP10, jG11, jP11, jG1, jP1, jG6, jP6, jG7, jP7, jG12, jP12, wj2, wk2, wn2, wj3, wk3, wn3, wj4, wk4, wn4, wj5, wk5, wn5, wj6, wk6, wn6, wj7, wk7, wn7, wj8, wk8, wn8, wj9, wk9, wn9, wj10, wk10, wn10, Nat.reduceEqDiff, reduceIte, false_and, true_and, and_true, and_self, if_false, if_true, and_false]
      rw [wp_ret (c_size (by omega) hJ.1 hI.1 hg), if_neg (by omega)]
      refine ⟨hb, by omega, by omega, by omega, hb, hb, by omega, ?_⟩
      refine c_slotOf (by omega) hJ.1 hI.1 (by omega) (by omega) (fun g' hV' e => ?_) (fun hn => absurd rfl (hn _ hV))
      have eg := bs_inj hI.1 hV'.1 hV.1 e
      subst eg
      rw [wp_ret (c_isCut (by omega) hJ.1 hI.1 hV)]
      refine ⟨by omega, by omega, ?_⟩
      rw [wp_ret (ih m a (i + 1) (by omega) (by omega) (by omega)), wp_ret (ih m (a + 1) (i + 1) (by omega) (by omega) (by omega))]
      have e1 : smz (cut (mB W b) g') (d + 1) i = cut (mB W b) g' i + smz (cut (mB W b) g') d (i + 1) := rfl
      rw [e1]
      split
      · exact ⟨by omega, rfl⟩
      · exact ⟨by omega, rfl⟩
theorem c_cutOf (hJ : BoR J W b) (hI : BkI W (b : Int)) {g : Int} (hg : 0 ≤ g ∧ g < bn (mB W b)) : G0_cutOf b (bs (mB W b) g) J = some (smz (cut (mB W b) g) (bz (mB W b) g).toNat 1, J) := by
  have hz := hI.1.2.1 _ hg.1 hg.2
  unfold G0_cutOf
  rw [c_cutOf_4 hJ hI hg (bz (mB W b) g).toNat LFU 0 1 (by unfold LFU; omega) (by omega) (by omega), Int.zero_add]
theorem c_leavesOf_17 (hJ : BoR J W b) (hI : BkI W (b : Int)) {g : Int} (hg : 0 ≤ g ∧ g < bn (mB W b)) : ∀ (d m : Nat) (a i : Int), d < m → 1 ≤ i → i + d = bz (mB W b) g + 1 → G0_leavesOf_17 m b (bs (mB W b) g) a i J = some (a + smz (bm (mB W b) g) d i, J) := by
  have hz := hI.1.2.1 _ hg.1 hg.2
  have hb := hJ.2.1
  intro d
  induction d with
  | zero =>
    intro m a i hm hi hd
    cases m with
    | zero => omega
    | succ m =>
      refine wp_eq ?_
      unfold G0_leavesOf_17 G0_leavesOf_17_st
      simp only [wp_ib, wp_ig, wp_ite, jp_ret, jp_nz, jp_dI, jp_rI, jp_g9, jp_E, jpN1, jp_Bk, jp_Ck, jp_W, jp_R, jp_Tx, jp_Sl, jp_Sc, jp_Si, jp_Sq, jp_Xl, jp_X0, jp_Xc, jp_Xs, jp_Xi, jp_Tos, jp_NB, jp_NC, kj_1, kj_2, kj_3, kj_4, jpA1, jpS1, jp_con, ju1_s, ju1_a, ju2_s, ju2_a, juA_s, juA_a, jux_s, jux_a, jux_x, jux_t, ju1_jB, ju2_jB, juA_jB, ju1_jC, ju2_jC, juA_jC, ju1_jT, ju2_jT, juA_jT, ju1_jb, ju2_jb, juA_jb, ju1_jd, ju2_jd, juA_jd, ju1_jt, ju2_jt, juA_jt, ju1_jx, ju2_jx, juA_jx, ju1_jw, ju2_jw, juA_jw, ju1_jr, ju2_jr, juA_jr, ju1_jn, ju2_jn, juA_jn, jux_jB, jux_jC, jux_jT, jux_jb, jux_jd, jux_jw, jux_jr, jux_jn, jG2, jP2, jG3, jP3, jG4, jP4, jG5, jP5, jG8, jP8, jG9, jP9, jG10, jP10, jG11, jP11, jG1, jP1, jG6, jP6, jG7, jP7, jG12, jP12, wj2, wk2, wn2, wj3, wk3, wn3, wj4, wk4, wn4, wj5, wk5, wn5, wj6, wk6, wn6, wj7, wk7, wn7, wj8, wk8, wn8, wj9, wk9, wn9, wj10, wk10, wn10, Nat.reduceEqDiff, reduceIte, false_and, true_and, and_true, and_self, if_false, if_true, and_false]
      rw [wp_ret (c_size (by omega) hJ.1 hI.1 hg), if_pos (by omega)]
      exact ⟨hb, by omega, by omega, by omega, by simp [smz]⟩
  | succ d ih =>
    intro m a i hm hi hd
    cases m with
    | zero => omega
    | succ m =>
      have hV : isV (mB W b) g i := ⟨hg, hi, by omega⟩
      refine wp_eq ?_
      unfold G0_leavesOf_17 G0_leavesOf_17_st
      simp only [wp_ib, wp_ig, wp_ite, jp_ret, jp_nz, jp_dI, jp_rI, jp_g9, jp_E, jpN1, jp_Bk, jp_Ck, jp_W, jp_R, jp_Tx, jp_Sl, jp_Sc, jp_Si, jp_Sq, jp_Xl, jp_X0, jp_Xc, jp_Xs, jp_Xi, jp_Tos, jp_NB, jp_NC, kj_1, kj_2, kj_3, kj_4, jpA1, jpS1, jp_con, ju1_s, ju1_a, ju2_s, ju2_a, juA_s, juA_a, jux_s, jux_a, jux_x, jux_t, ju1_jB, ju2_jB, juA_jB, ju1_jC, ju2_jC, juA_jC, ju1_jT, ju2_jT, juA_jT, ju1_jb, ju2_jb, juA_jb, ju1_jd, ju2_jd, juA_jd, ju1_jt, ju2_jt, juA_jt, ju1_jx, ju2_jx, juA_jx, ju1_jw, ju2_jw, juA_jw, ju1_jr, ju2_jr, juA_jr, ju1_jn, ju2_jn, juA_jn, jux_jB, jux_jC, jux_jT, jux_jb, jux_jd, jux_jw, jux_jr, jux_jn, jG2, jP2, jG3, jP3, jG4, jP4, jG5, jP5, jG8, jP8, jG9, jP9, jG10, jP10, jG11, jP11, jG1, jP1, jG6, jP6, jG7, jP7, jG12, jP12, wj2, wk2, wn2, wj3, wk3, wn3, wj4, wk4, wn4, wj5, wk5, wn5, wj6, wk6, wn6, wj7, wk7, wn7, wj8, wk8, wn8, wj9, wk9, wn9, wj10, wk10, wn10, Nat.reduceEqDiff, reduceIte, false_and, true_and, and_true, and_self, if_false, if_true, and_false]
      rw [wp_ret (c_size (by omega) hJ.1 hI.1 hg), if_neg (by omega)]
      refine ⟨hb, by omega, by omega, by omega, hb, hb, by omega, ?_⟩
      refine c_slotOf (by omega) hJ.1 hI.1 (by omega) (by omega) (fun g' hV' e => ?_) (fun hn => absurd rfl (hn _ hV))
      have eg := bs_inj hI.1 hV'.1 hV.1 e
      subst eg
      rw [wp_ret (c_ins (by omega) hJ.1 hI.1 hV), wp_ret (ih m (a + bm (mB W b) g' i) (i + 1) (by omega) (by omega) (by omega))]
      have e1 : smz (bm (mB W b) g') (d + 1) i = bm (mB W b) g' i + smz (bm (mB W b) g') d (i + 1) := rfl
      rw [e1]
      exact ⟨by omega, by omega, rfl⟩
theorem smz_1 : ∀ (d : Nat) (a : Int), smz (fun _ => (1 : Int)) d a = d := by
  intro d
  induction d with
  | zero => intro a; rfl
  | succ d ih => intro a; show 1 + _ = _; rw [ih]; omega
theorem gl_eq {B : BK} {g : Int} (h : 0 ≤ bz B g) : gl B g = bz B g - smz (cut B g) (bz B g).toNat 1 + smz (bm B g) (bz B g).toNat 1 := by
  have h1 := smz_add (f := fun i => cnt B g i) (g := cut B g) (bz B g).toNat 1
  have h2 := smz_add (f := fun _ => (1 : Int)) (g := bm B g) (bz B g).toNat 1
  have h3 : (fun i => cnt B g i + cut B g i) = (fun i => 1 + bm B g i) := by funext i; unfold cnt; omega
  rw [h3, h2, smz_1] at h1
  unfold gl
  have h4 : smz (fun i => cnt B g i) (bz B g).toNat 1 = smz (cnt B g) (bz B g).toNat 1 := rfl
  omega
theorem c_leavesOf (hJ : BoR J W b) (hI : BkI W (b : Int)) {g : Int} (hg : 0 ≤ g ∧ g < bn (mB W b)) : G0_leavesOf b (bs (mB W b) g) J = some (gl (mB W b) g, J) := by
  have hz := hI.1.2.1 _ hg.1 hg.2
  have hb := hJ.2.1
  refine wp_eq ?_
  unfold G0_leavesOf
  simp only [wp_ib, wp_ig, wp_ite, jp_ret, jp_nz, jp_dI, jp_rI, jp_g9, jp_E, jpN1, jp_Bk, jp_Ck, jp_W, jp_R, jp_Tx, jp_Sl, jp_Sc, jp_Si, jp_Sq, jp_Xl, jp_X0, jp_Xc, jp_Xs, jp_Xi, jp_Tos, jp_NB, jp_NC, kj_1, kj_2, kj_3, kj_4, jpA1, jpS1, jp_con, ju1_s, ju1_a, ju2_s, ju2_a, juA_s, juA_a, jux_s, jux_a, jux_x, jux_t, ju1_jB, ju2_jB, juA_jB, ju1_jC, ju2_jC, juA_jC, ju1_jT, ju2_jT, juA_jT, ju1_jb, ju2_jb, juA_jb, ju1_jd, ju2_jd, juA_jd, ju1_jt, ju2_jt, juA_jt, ju1_jx, ju2_jx, juA_jx, ju1_jw, ju2_jw, juA_jw, ju1_jr, ju2_jr, juA_jr, ju1_jn, ju2_jn, juA_jn, jux_jB, jux_jC, jux_jT, jux_jb, jux_jd, jux_jw, jux_jr, jux_jn, jG2, jP2, jG3, jP3, jG4, jP4, jG5, jP5, jG8, jP8, jG9, jP9, jG10, jP10, jG11, jP11, jG1, jP1, jG6, jP6, jG7, jP7, jG12, jP12, wj2, wk2, wn2, wj3, wk3, wn3, wj4, wk4, wn4, wj5, wk5, wn5, wj6, wk6, wn6, wj7, wk7, wn7, wj8, wk8, wn8, wj9, wk9, wn9, wj10, wk10, wn10, Nat.reduceEqDiff, reduceIte, false_and, true_and, and_true, and_self, if_false, if_true, and_false]
  rw [wp_ret (c_size (by omega) hJ.1 hI.1 hg), wp_ret (c_cutOf hJ hI hg), wp_ret (c_leavesOf_17 hJ hI hg (bz (mB W b) g).toNat LFU _ 1 (by unfold LFU; omega) (by omega) (by omega))]
  refine ⟨hb, by omega, hb, ?_, rfl⟩
  rw [gl_eq (by omega)]
end CB2
