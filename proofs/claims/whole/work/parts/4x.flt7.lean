section FLT7
variable {J : JS} {R : Nat → Int → Int} {nn hi n e e' : Int} {P S F I : Int → Int}
theorem c_ofChanges (hD : DrR J nn hi P S F I) (hC : ChC J R n) (hn : 0 ≤ n ∧ n ≤ 60) (hB : chB R n) (he : 0 ≤ e ∧ e ≤ e' ∧ e' ≤ n) (hS : ∀ s, 0 ≤ s → s ≤ 70 → 0 ≤ S s ∧ S s ≤ 12) (hF : ∀ l, R32 (F l)) (hI : ∀ l, R32 (I l)) {Q : Int → JS → Prop}
    (h0 : FC R S F I e e' 0 → ∀ J', FrP J J' → DrR J' nn hi P S (rFt F R e (e' - e).toNat) (rIt I R e (e' - e).toNat) → Q 0 J')
    (hf : ∀ v J', FC R S F I e e' v → v = 4 ∨ v = 5 ∨ v = 6 → FrP J J' → Q v J') : wp (G3_ofChanges e e' 0) Q J := by
  have hz := Nat.zero_le (jB J)
  -- the third row
  have l3 : ¬ Q4 R S e e' → ¬ P5 R e e' → wp (G3_ofChanges_97 e e' 0) Q J := by
    intro n4 n5
    unfold G3_ofChanges_97
    refine c_ofCh100 hn hB he hS hF hI n4 n5 (fun n6 J' q1 q2 => h0 (Or.inr ⟨n4, Or.inr ⟨n5, Or.inr ⟨rfl, n6⟩⟩⟩) J' q1 q2) (fun c6 J' q1 => hf 6 J' (Or.inr ⟨n4, Or.inr ⟨n5, Or.inl ⟨rfl, c6⟩⟩⟩) (by omega) q1) (e' - e).toNat LFU 0 e J (by unfold LFU; omega) (by omega) (by omega) FrP.refl hC hD (fun c d _ _ _ => by omega) (fun c _ _ => by omega)
  -- the second
  have l2 : ¬ Q4 R S e e' → ∀ (d m : Nat) (x : Int), d < m → e ≤ x → x + d = e' → (∀ c, e ≤ c → c < x → ¬ (R 32 c = 43 ∧ ¬ (1 ≤ R 35 c ∧ R 35 c ≤ 4))) → wp (G3_ofChanges_46 m e e' 0 x) Q J := by
    intro n4 d
    induction d with
    | zero =>
      intro m x hm q1 q2 hp
      cases m with
      | zero => omega
      | succ m =>
        unfold G3_ofChanges_46 G3_ofChanges_46_st
        simp only [wp_ib, wp_ig, wp_ite, jp_ret, jp_nz, jp_dI, jp_rI, jp_g9, jp_E, jpN1, jp_Bk, jp_Ck, jp_W, jp_R, jp_Tx, jp_Sl, jp_Sc, jp_Si, jp_Sq, jp_Xl, jp_X0, jp_Xc, jp_Xs, jp_Xi, jp_Tos, jp_NB, jp_NC, kj_1, kj_2, kj_3, kj_4, jpA1, jpS1, jp_con, ju1_s, ju1_a, ju2_s, ju2_a, juA_s, juA_a, jux_s, jux_a, jux_x, jux_t, ju1_jB, ju2_jB, juA_jB, ju1_jC, ju2_jC, juA_jC, ju1_jT, ju2_jT, juA_jT, ju1_jb, ju2_jb, juA_jb, ju1_jd, ju2_jd, juA_jd, ju1_jt, ju2_jt, juA_jt, ju1_jx, ju2_jx, juA_jx, ju1_jw, ju2_jw, juA_jw, ju1_jr, ju2_jr, juA_jr, ju1_jn, ju2_jn, juA_jn, jux_jB, jux_jC, jux_jT, jux_jb, jux_jd, jux_jw, jux_jr, jux_jn, jG2, jP2, jG3, jP3, jG4, jP4, jG5, jP5, jG8, jP8, jG9, jP9, jG10, jP10, jG11, jP11, jG1, jP1, jG6, jP6, jG7, jP7, jG12, jP12, wj2, wk2, wn2, wj3, wk3, wn3, wj4, wk4, wn4, wj5, wk5, wn5, wj6, wk6, wn6, wj7, wk7, wn7, wj8, wk8, wn8, wj9, wk9, wn9, wj10, wk10, wn10, Nat.reduceEqDiff, reduceIte, false_and, true_and, and_true, and_self, if_false, if_true, and_false]
        rw [if_pos (by omega)]
        exact ⟨by omega, by omega, l3 n4 fun ⟨c, c0, c1, c2⟩ => hp c c0 (by omega) c2⟩
    | succ d ih =>
      intro m x hm q1 q2 hp
      cases m with
      | zero => omega
      | succ m =>
        have g := hC.g hn (i := x) ⟨by omega, by omega⟩
        obtain ⟨b2, b3, b4, b5⟩ := hB x (by omega) (by omega)
        have bad : (R 32 x = 43 ∧ ¬ (1 ≤ R 35 x ∧ R 35 x ≤ 4)) → Q 5 J := fun q => hf 5 J (Or.inr ⟨n4, Or.inl ⟨rfl, x, q1, by omega, q⟩⟩) (by omega) FrP.refl
        have good : ¬ (R 32 x = 43 ∧ ¬ (1 ≤ R 35 x ∧ R 35 x ≤ 4)) → wp (G3_ofChanges_46 m e e' 0 (x + 1)) Q J := fun q => ih m (x + 1) (by omega) (by omega) (by omega) fun c c0 c1 => by
          by_cases ec : c = x
          · rw [ec]; exact q
          · exact hp c c0 (by omega)
        unfold G3_ofChanges_46 G3_ofChanges_46_st G3_ofChanges_91
        simp only [wp_ib, wp_ig, wp_ite, jp_ret, jp_nz, jp_dI, jp_rI, jp_g9, jp_E, jpN1, jp_Bk, jp_Ck, jp_W, jp_R, jp_Tx, jp_Sl, jp_Sc, jp_Si, jp_Sq, jp_Xl, jp_X0, jp_Xc, jp_Xs, jp_Xi, jp_Tos, jp_NB, jp_NC, kj_1, kj_2, kj_3, kj_4, jpA1, jpS1, jp_con, ju1_s, ju1_a, ju2_s, ju2_a, juA_s, juA_a, jux_s, jux_a, jux_x, jux_t, ju1_jB, ju2_jB, juA_jB, ju1_jC, ju2_jC, juA_jC, ju1_jT, ju2_jT, juA_jT, ju1_jb, ju2_jb, juA_jb, ju1_jd, ju2_jd, juA_jd, ju1_jt, ju2_jt, juA_jt, ju1_jx, ju2_jx, juA_jx, ju1_jw, ju2_jw, juA_jw, ju1_jr, ju2_jr, juA_jr, ju1_jn, ju2_jn, juA_jn, jux_jB, jux_jC, jux_jT, jux_jb, jux_jd, jux_jw, jux_jr, jux_jn, jG2, jP2, jG3, jP3, jG4, jP4, jG5, jP5, jG8, jP8, jG9, jP9, jG10, jP10, jG11, jP11, jG1, jP1, jG6, jP6, jG7, jP7, jG12, jP12, wj2, wk2, wn2, wj3, wk3, wn3, wj4, wk4, wn4, wj5, wk5, wn5, wj6, wk6, wn6, wj7, wk7, wn7, wj8, wk8, wn8, wj9, wk9, wn9, wj10, wk10, wn10, Nat.reduceEqDiff, reduceIte, false_and, true_and, and_true, and_self, if_false, if_true, and_false]
        rw [if_neg (show ¬ e' ≤ x by omega), wp_ret g.2.2.2, wp_ret g.1]
        refine ⟨by omega, by omega, by omega, ?_⟩
        by_cases c : R 32 x = 43
        · rw [if_pos c, if_pos c]
          refine ⟨by omega, ?_⟩
          by_cases c2 : R 35 x < 1
          · rw [if_pos c2]; exact bad (by omega)
          · rw [if_neg c2]
            by_cases c3 : R 35 x ≤ 4
            · rw [if_pos c3]; exact good (by omega)
            · rw [if_neg c3]; exact bad (by omega)
        · rw [if_neg c]; exact good (by omega)
  have l1 : ∀ (d m : Nat) (x : Int), d < m → e ≤ x → x + d = e' → (∀ c, e ≤ c → c < x → 1 ≤ R 34 c ∧ R 34 c ≤ S (R 33 c)) → wp (G3_ofChanges_3 m e e' 0 x) Q J := by
    intro d
    induction d with
    | zero =>
      intro m x hm q1 q2 hp
      cases m with
      | zero => omega
      | succ m =>
        unfold G3_ofChanges_3 G3_ofChanges_3_st G3_ofChanges_43
        simp only [wp_ib, wp_ig, wp_ite, jp_ret, jp_nz, jp_dI, jp_rI, jp_g9, jp_E, jpN1, jp_Bk, jp_Ck, jp_W, jp_R, jp_Tx, jp_Sl, jp_Sc, jp_Si, jp_Sq, jp_Xl, jp_X0, jp_Xc, jp_Xs, jp_Xi, jp_Tos, jp_NB, jp_NC, kj_1, kj_2, kj_3, kj_4, jpA1, jpS1, jp_con, ju1_s, ju1_a, ju2_s, ju2_a, juA_s, juA_a, jux_s, jux_a, jux_x, jux_t, ju1_jB, ju2_jB, juA_jB, ju1_jC, ju2_jC, juA_jC, ju1_jT, ju2_jT, juA_jT, ju1_jb, ju2_jb, juA_jb, ju1_jd, ju2_jd, juA_jd, ju1_jt, ju2_jt, juA_jt, ju1_jx, ju2_jx, juA_jx, ju1_jw, ju2_jw, juA_jw, ju1_jr, ju2_jr, juA_jr, ju1_jn, ju2_jn, juA_jn, jux_jB, jux_jC, jux_jT, jux_jb, jux_jd, jux_jw, jux_jr, jux_jn, jG2, jP2, jG3, jP3, jG4, jP4, jG5, jP5, jG8, jP8, jG9, jP9, jG10, jP10, jG11, jP11, jG1, jP1, jG6, jP6, jG7, jP7, jG12, jP12, wj2, wk2, wn2, wj3, wk3, wn3, wj4, wk4, wn4, wj5, wk5, wn5, wj6, wk6, wn6, wj7, wk7, wn7, wj8, wk8, wn8, wj9, wk9, wn9, wj10, wk10, wn10, Nat.reduceEqDiff, reduceIte, false_and, true_and, and_true, and_self, if_false, if_true, and_false]
        rw [if_pos (by omega)]
        exact ⟨by omega, by omega, l2 (fun ⟨c, c0, c1, c2⟩ => c2 (hp c c0 (by omega))) (e' - e).toNat LFU e (by unfold LFU; omega) (Int.le_refl _) (by omega) (fun c _ _ => by omega)⟩
    | succ d ih =>
      intro m x hm q1 q2 hp
      cases m with
      | zero => omega
      | succ m =>
        have g := hC.g hn (i := x) ⟨by omega, by omega⟩
        obtain ⟨b2, b3, b4, b5⟩ := hB x (by omega) (by omega)
        have hs := hS _ b3.1 b3.2
        unfold G3_ofChanges_3 G3_ofChanges_3_st
        simp only [wp_ib, wp_ig, wp_ite, jp_ret, jp_nz, jp_dI, jp_rI, jp_g9, jp_E, jpN1, jp_Bk, jp_Ck, jp_W, jp_R, jp_Tx, jp_Sl, jp_Sc, jp_Si, jp_Sq, jp_Xl, jp_X0, jp_Xc, jp_Xs, jp_Xi, jp_Tos, jp_NB, jp_NC, kj_1, kj_2, kj_3, kj_4, jpA1, jpS1, jp_con, ju1_s, ju1_a, ju2_s, ju2_a, juA_s, juA_a, jux_s, jux_a, jux_x, jux_t, ju1_jB, ju2_jB, juA_jB, ju1_jC, ju2_jC, juA_jC, ju1_jT, ju2_jT, juA_jT, ju1_jb, ju2_jb, juA_jb, ju1_jd, ju2_jd, juA_jd, ju1_jt, ju2_jt, juA_jt, ju1_jx, ju2_jx, juA_jx, ju1_jw, ju2_jw, juA_jw, ju1_jr, ju2_jr, juA_jr, ju1_jn, ju2_jn, juA_jn, jux_jB, jux_jC, jux_jT, jux_jb, jux_jd, jux_jw, jux_jr, jux_jn, jG2, jP2, jG3, jP3, jG4, jP4, jG5, jP5, jG8, jP8, jG9, jP9, jG10, jP10, jG11, jP11, jG1, jP1, jG6, jP6, jG7, jP7, jG12, jP12, wj2, wk2, wn2, wj3, wk3, wn3, wj4, wk4, wn4, wj5, wk5, wn5, wj6, wk6, wn6, wj7, wk7, wn7, wj8, wk8, wn8, wj9, wk9, wn9, wj10, wk10, wn10, Nat.reduceEqDiff, reduceIte, false_and, true_and, and_true, and_self, if_false, if_true, and_false]
        rw [if_neg (show ¬ e' ≤ x by omega), wp_ret g.2.1, wp_ret g.2.2.1]
        refine ⟨by omega, by omega, hz, ?_⟩
        refine c_slotD hD b3 (by omega) hs (fun c => ?_) (fun c => ?_)
        · rw [if_neg (by omega)]
          refine ⟨by omega, ih m (x + 1) (by omega) (by omega) (by omega) fun y c0 c1 => ?_⟩
          by_cases ec : y = x
          · rw [ec]; exact c
          · exact hp y c0 (by omega)
        · rw [if_pos rfl]
          exact ⟨by omega, hf 4 J (Or.inl ⟨rfl, x, q1, by omega, c⟩) (by omega) FrP.refl⟩
  exact l1 (e' - e).toNat LFU e (by unfold LFU; omega) (Int.le_refl _) (by omega) (fun c _ _ => by omega)
end FLT7
