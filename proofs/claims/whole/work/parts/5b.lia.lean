/-! ===== the class counts a plan's leaves ===== -/
section LIA
variable {J : JS} {p : Nat}
theorem c_lia26 (hp : p ≤ jB J) : ∀ (d m : Nat) (a x : Int), d < m → 0 ≤ x → x + d = 852 → G6_leavesInAll_26 m p a x J = some (a + smz (fun l => ja J 6 p l) d x, J) := by
  intro d
  induction d with
  | zero =>
    intro m a x hm h0 h1
    cases m with
    | zero => omega
    | succ m =>
      refine wp_eq ?_
      unfold G6_leavesInAll_26 G6_leavesInAll_26_st
      simp only [wp_ib, wp_ig, wp_ite, jp_ret, jp_nz, jp_dI, jp_rI, jp_g9, jp_E, jpN1, jp_Bk, jp_Ck, jp_W, jp_R, jp_Tx, jp_Sl, jp_Sc, jp_Si, jp_Sq, jp_Xl, jp_X0, jp_Xc, jp_Xs, jp_Xi, jp_Tos, jp_NB, jp_NC, kj_1, kj_2, kj_3, kj_4, jpA1, jpS1, jp_con, ju1_s, ju1_a, ju2_s, ju2_a, juA_s, juA_a, jux_s, jux_a, jux_x, jux_t, ju1_jB, ju2_jB, juA_jB, ju1_jC, ju2_jC, juA_jC, ju1_jT, ju2_jT, juA_jT, ju1_jb, ju2_jb, juA_jb, ju1_jd, ju2_jd, juA_jd, ju1_jt, ju2_jt, juA_jt, ju1_jx, ju2_jx, juA_jx, ju1_jw, ju2_jw, juA_jw, ju1_jr, ju2_jr, juA_jr, ju1_jn, ju2_jn, juA_jn, jux_jB, jux_jC, jux_jT, jux_jb, jux_jd, jux_jw, jux_jr, jux_jn, jG2, jP2, jG3, jP3, jG4, jP4, jG5, jP5, jG8, jP8, jG9, jP9, jG10, jP10, jG11, jP11, jG1, jP1, jG6, jP6, jG7, jP7, jG12, jP12, wj2, wk2, wn2, wj3, wk3, wn3, wj4, wk4, wn4, wj5, wk5, wn5, wj6, wk6, wn6, wj7, wk7, wn7, wj8, wk8, wn8, wj9, wk9, wn9, wj10, wk10, wn10, Nat.reduceEqDiff, reduceIte, false_and, true_and, and_true, and_self, if_false, if_true, and_false]
      rw [if_pos (by omega)]
      refine ⟨by omega, ?_⟩
      have e0 : smz (fun l => ja J 6 p l) 0 x = 0 := rfl
      first | omega | exact ⟨by omega, rfl⟩
  | succ d ih =>
    intro m a x hm h0 h1
    cases m with
    | zero => omega
    | succ m =>
      refine wp_eq ?_
      unfold G6_leavesInAll_26 G6_leavesInAll_26_st
      simp only [wp_ib, wp_ig, wp_ite, jp_ret, jp_nz, jp_dI, jp_rI, jp_g9, jp_E, jpN1, jp_Bk, jp_Ck, jp_W, jp_R, jp_Tx, jp_Sl, jp_Sc, jp_Si, jp_Sq, jp_Xl, jp_X0, jp_Xc, jp_Xs, jp_Xi, jp_Tos, jp_NB, jp_NC, kj_1, kj_2, kj_3, kj_4, jpA1, jpS1, jp_con, ju1_s, ju1_a, ju2_s, ju2_a, juA_s, juA_a, jux_s, jux_a, jux_x, jux_t, ju1_jB, ju2_jB, juA_jB, ju1_jC, ju2_jC, juA_jC, ju1_jT, ju2_jT, juA_jT, ju1_jb, ju2_jb, juA_jb, ju1_jd, ju2_jd, juA_jd, ju1_jt, ju2_jt, juA_jt, ju1_jx, ju2_jx, juA_jx, ju1_jw, ju2_jw, juA_jw, ju1_jr, ju2_jr, juA_jr, ju1_jn, ju2_jn, juA_jn, jux_jB, jux_jC, jux_jT, jux_jb, jux_jd, jux_jw, jux_jr, jux_jn, jG2, jP2, jG3, jP3, jG4, jP4, jG5, jP5, jG8, jP8, jG9, jP9, jG10, jP10, jG11, jP11, jG1, jP1, jG6, jP6, jG7, jP7, jG12, jP12, wj2, wk2, wn2, wj3, wk3, wn3, wj4, wk4, wn4, wj5, wk5, wn5, wj6, wk6, wn6, wj7, wk7, wn7, wj8, wk8, wn8, wj9, wk9, wn9, wj10, wk10, wn10, Nat.reduceEqDiff, reduceIte, false_and, true_and, and_true, and_self, if_false, if_true, and_false]
      rw [if_neg (show ¬ 852 ≤ x by omega), wp_ret (c_insertedAt hp (by omega)), if_pos (show 0 ≤ x ∧ x < 852 by omega), wp_ret (ih m _ (x + 1) (by omega) (by omega) (by omega))]
      refine ⟨by omega, hp, ?_, rfl⟩
      rw [smz]
      omega
theorem c_lia4 (hp : p ≤ jB J) : ∀ (d m : Nat) (a x : Int), d < m → 0 ≤ x → x + d = 71 → G6_leavesInAll_4 m p a x J = some (a + smz (fun s => ja J 4 p s) d x + smz (fun l => ja J 6 p l) 852 0, J) := by
  intro d
  induction d with
  | zero =>
    intro m a x hm h0 h1
    cases m with
    | zero => omega
    | succ m =>
      refine wp_eq ?_
      unfold G6_leavesInAll_4 G6_leavesInAll_4_st G6_leavesInAll_24
      simp only [wp_ib, wp_ig, wp_ite, jp_ret, jp_nz, jp_dI, jp_rI, jp_g9, jp_E, jpN1, jp_Bk, jp_Ck, jp_W, jp_R, jp_Tx, jp_Sl, jp_Sc, jp_Si, jp_Sq, jp_Xl, jp_X0, jp_Xc, jp_Xs, jp_Xi, jp_Tos, jp_NB, jp_NC, kj_1, kj_2, kj_3, kj_4, jpA1, jpS1, jp_con, ju1_s, ju1_a, ju2_s, ju2_a, juA_s, juA_a, jux_s, jux_a, jux_x, jux_t, ju1_jB, ju2_jB, juA_jB, ju1_jC, ju2_jC, juA_jC, ju1_jT, ju2_jT, juA_jT, ju1_jb, ju2_jb, juA_jb, ju1_jd, ju2_jd, juA_jd, ju1_jt, ju2_jt, juA_jt, ju1_jx, ju2_jx, juA_jx, ju1_jw, ju2_jw, juA_jw, ju1_jr, ju2_jr, juA_jr, ju1_jn, ju2_jn, juA_jn, jux_jB, jux_jC, jux_jT, jux_jb, jux_jd, jux_jw, jux_jr, jux_jn, jG2, jP2, jG3, jP3, jG4, jP4, jG5, jP5, jG8, jP8, jG9, jP9, jG10, jP10, jG11, jP11, jG1, jP1, jG6, jP6, jG7, jP7, jG12, jP12, wj2, wk2, wn2, wj3, wk3, wn3, wj4, wk4, wn4, wj5, wk5, wn5, wj6, wk6, wn6, wj7, wk7, wn7, wj8, wk8, wn8, wj9, wk9, wn9, wj10, wk10, wn10, Nat.reduceEqDiff, reduceIte, false_and, true_and, and_true, and_self, if_false, if_true, and_false]
      rw [if_pos (by omega), wp_ret (c_lia26 hp 852 LFU a 0 (by unfold LFU; omega) (Int.le_refl _) (by omega))]
      refine ⟨by omega, ?_, rfl⟩
      rw [show smz (fun s => ja J 4 p s) 0 x = 0 from rfl]
      omega
  | succ d ih =>
    intro m a x hm h0 h1
    cases m with
    | zero => omega
    | succ m =>
      refine wp_eq ?_
      unfold G6_leavesInAll_4 G6_leavesInAll_4_st
      simp only [wp_ib, wp_ig, wp_ite, jp_ret, jp_nz, jp_dI, jp_rI, jp_g9, jp_E, jpN1, jp_Bk, jp_Ck, jp_W, jp_R, jp_Tx, jp_Sl, jp_Sc, jp_Si, jp_Sq, jp_Xl, jp_X0, jp_Xc, jp_Xs, jp_Xi, jp_Tos, jp_NB, jp_NC, kj_1, kj_2, kj_3, kj_4, jpA1, jpS1, jp_con, ju1_s, ju1_a, ju2_s, ju2_a, juA_s, juA_a, jux_s, jux_a, jux_x, jux_t, ju1_jB, ju2_jB, juA_jB, ju1_jC, ju2_jC, juA_jC, ju1_jT, ju2_jT, juA_jT, ju1_jb, ju2_jb, juA_jb, ju1_jd, ju2_jd, juA_jd, ju1_jt, ju2_jt, juA_jt, ju1_jx, ju2_jx, juA_jx, ju1_jw, ju2_jw, juA_jw, ju1_jr, ju2_jr, juA_jr, ju1_jn, ju2_jn, juA_jn, jux_jB, jux_jC, jux_jT, jux_jb, jux_jd, jux_jw, jux_jr, jux_jn, jG2, jP2, jG3, jP3, jG4, jP4, jG5, jP5, jG8, jP8, jG9, jP9, jG10, jP10, jG11, jP11, jG1, jP1, jG6, jP6, jG7, jP7, jG12, jP12, wj2, wk2, wn2, wj3, wk3, wn3, wj4, wk4, wn4, wj5, wk5, wn5, wj6, wk6, wn6, wj7, wk7, wn7, wj8, wk8, wn8, wj9, wk9, wn9, wj10, wk10, wn10, Nat.reduceEqDiff, reduceIte, false_and, true_and, and_true, and_self, if_false, if_true, and_false]
      rw [if_neg (show ¬ 71 ≤ x by omega), wp_ret (c_sizeOf hp (by omega)), if_pos (show 0 ≤ x ∧ x < 71 by omega), wp_ret (ih m _ (x + 1) (by omega) (by omega) (by omega))]
      refine ⟨by omega, hp, ?_, rfl⟩
      rw [show smz (fun s => ja J 4 p s) (d + 1) x = ja J 4 p x + smz (fun s => ja J 4 p s) d (x + 1) from rfl]
      omega
theorem c_leavesInAll (hp : p ≤ jB J) : G6_leavesInAll p J = some (smz (fun s => ja J 4 p s) 71 0 + smz (fun l => ja J 6 p l) 852 0, J) := by
  unfold G6_leavesInAll
  rw [c_lia4 hp 71 LFU 0 0 (by unfold LFU; omega) (Int.le_refl _) (by omega), Int.zero_add]
end LIA
