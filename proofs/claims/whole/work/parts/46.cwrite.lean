/-! ===== the class writes ===== -/
/-- the constants are there -/
def CT (J : JS) : Prop := 19 ≤ jT J ∧ ∀ i, i < 19 → jt J i = txt i
section CWR
variable {J : JS}
theorem jux_jux {l m : List Nat} : jux (jux J l) m = jux J m := rfl
theorem CT.ux {l : List Nat} (h : CT J) : CT (jux J l) := h
theorem txt_eq : txt 0 = txt 12 ∧ txt 1 = txt 10 ∧ txt 2 = txt 11 ∧ txt 3 = txt 12 := by decide
theorem letA_lt (n : Nat) : letA n < 256 := by
  unfold letA
  by_cases h : n < 23
  · have key : ∀ i : Fin 23, (txt 12).getD i.1 0 < 256 := by decide
    exact key ⟨n, h⟩
  · rw [List.getD_eq_getElem?_getD, List.getElem?_eq_none (by rw [txt12]; omega)]
    decide
theorem c_writeSign_61 {x2 x3 : Int} (hC : CT J) (h0 : 0 ≤ x2) (h1 : x2 < 23) (h3 : x3 ≤ 10) : ∀ (d n : Nat) (l : List Nat) (x : Int), d < n → 0 ≤ x → x + d = x3 → l.length + d ≤ 16384 → G9_writeSign_61 n x2 x3 x (jux J l) = some ((), jux J (l ++ List.replicate d (letA x2.toNat))) := by
  intro d
  induction d with
  | zero =>
    intro n l x hn hx0 hx hR
    cases n with
    | zero => omega
    | succ n =>
      refine wp_eq ?_
      unfold G9_writeSign_61 G9_writeSign_61_st
      simp only [wp_ib, wp_ig, wp_ite, jp_ret, jp_nz, jp_dI, jp_rI, jp_g9, jp_E, jpN1, jp_Bk, jp_Ck, jp_W, jp_R, jp_Tx, jp_Sl, jp_Sc, jp_Si, jp_Sq, jp_Xl, jp_X0, jp_Xc, jp_Xs, jp_Xi, jp_Tos, jp_NB, jp_NC, kj_1, kj_2, kj_3, kj_4, jpA1, jpS1, jp_con, ju1_s, ju1_a, ju2_s, ju2_a, juA_s, juA_a, jux_s, jux_a, jux_x, jux_t, ju1_jB, ju2_jB, juA_jB, ju1_jC, ju2_jC, juA_jC, ju1_jT, ju2_jT, juA_jT, ju1_jb, ju2_jb, juA_jb, ju1_jd, ju2_jd, juA_jd, ju1_jt, ju2_jt, juA_jt, ju1_jx, ju2_jx, juA_jx, ju1_jw, ju2_jw, juA_jw, ju1_jr, ju2_jr, juA_jr, ju1_jn, ju2_jn, juA_jn, jux_jB, jux_jC, jux_jT, jux_jb, jux_jd, jux_jw, jux_jr, jux_jn, jG2, jP2, jG3, jP3, jG4, jP4, jG5, jP5, jG8, jP8, jG9, jP9, jG10, jP10, jG11, jP11, jG1, jP1, jG6, jP6, jG7, jP7, jG12, jP12, wj2, wk2, wn2, wj3, wk3, wn3, wj4, wk4, wn4, wj5, wk5, wn5, wj6, wk6, wn6, wj7, wk7, wn7, wj8, wk8, wn8, wj9, wk9, wn9, wj10, wk10, wn10, Nat.reduceEqDiff, reduceIte, false_and, true_and, and_true, and_self, if_false, if_true, and_false]
      rw [if_pos (by omega)]
      exact ⟨by omega, by omega, by simp⟩
  | succ d ih =>
    intro n l x hn hx0 hx hR
    cases n with
    | zero => omega
    | succ n =>
      refine wp_eq ?_
      unfold G9_writeSign_61 G9_writeSign_61_st
      have h3t := hC.2 3 (by decide)
      simp only [wp_ib, wp_ig, wp_ite, jp_ret, jp_nz, jp_dI, jp_rI, jp_g9, jp_E, jpN1, jp_Bk, jp_Ck, jp_W, jp_R, jp_Tx, jp_Sl, jp_Sc, jp_Si, jp_Sq, jp_Xl, jp_X0, jp_Xc, jp_Xs, jp_Xi, jp_Tos, jp_NB, jp_NC, kj_1, kj_2, kj_3, kj_4, jpA1, jpS1, jp_con, ju1_s, ju1_a, ju2_s, ju2_a, juA_s, juA_a, jux_s, jux_a, jux_x, jux_t, ju1_jB, ju2_jB, juA_jB, ju1_jC, ju2_jC, juA_jC, ju1_jT, ju2_jT, juA_jT, ju1_jb, ju2_jb, juA_jb, ju1_jd, ju2_jd, juA_jd, ju1_jt, ju2_jt, juA_jt, ju1_jx, ju2_jx, juA_jx, ju1_jw, ju2_jw, juA_jw, ju1_jr, ju2_jr, juA_jr, ju1_jn, ju2_jn, juA_jn, jux_jB, jux_jC, jux_jT, jux_jb, jux_jd, jux_jw, jux_jr, jux_jn, jG2, jP2, jG3, jP3, jG4, jP4, jG5, jP5, jG8, jP8, jG9, jP9, jG10, jP10, jG11, jP11, jG1, jP1, jG6, jP6, jG7, jP7, jG12, jP12, wj2, wk2, wn2, wj3, wk3, wn3, wj4, wk4, wn4, wj5, wk5, wn5, wj6, wk6, wn6, wj7, wk7, wn7, wj8, wk8, wn8, wj9, wk9, wn9, wj10, wk10, wn10, Nat.reduceEqDiff, reduceIte, false_and, true_and, and_true, and_self, if_false, if_true, and_false]
      rw [if_neg (by omega), h3t, txt_eq.2.2.2, txt12]
      have hl := letA_lt x2.toNat
      have he : (txt 12).getD x2.toNat 0 = letA x2.toNat := rfl
      rw [he]
      refine ⟨by omega, by omega, ⟨by have := hC.1; omega, by omega, by omega, by omega⟩, ⟨by omega, by omega⟩, ?_⟩
      rw [jux_jux, wp_ret (ih n _ (x + 1) (by omega) (by omega) (by omega) (by simp; omega))]
      rw [List.append_assoc]
      rfl
theorem c_writeSign {s : Int} {l : List Nat} (hC : CT J) (h0 : -1 ≤ s) (h1 : s ≤ 71) (h : l.length + (sgnT s).length ≤ 16384) : G9_writeSign s (jux J l) = some ((), jux J (l ++ sgnT s)) := by
  refine wp_eq ?_
  unfold G9_writeSign
  have h1t := hC.2 1 (by decide)
  have h2t := hC.2 2 (by decide)
  have h3t := hC.2 3 (by decide)
  have hT := hC.1
  simp only [wp_ib, wp_ig, wp_ite, jp_ret, jp_nz, jp_dI, jp_rI, jp_g9, jp_E, jpN1, jp_Bk, jp_Ck, jp_W, jp_R, jp_Tx, jp_Sl, jp_Sc, jp_Si, jp_Sq, jp_Xl, jp_X0, jp_Xc, jp_Xs, jp_Xi, jp_Tos, jp_NB, jp_NC, kj_1, kj_2, kj_3, kj_4, jpA1, jpS1, jp_con, ju1_s, ju1_a, ju2_s, ju2_a, juA_s, juA_a, jux_s, jux_a, jux_x, jux_t, ju1_jB, ju2_jB, juA_jB, ju1_jC, ju2_jC, juA_jC, ju1_jT, ju2_jT, juA_jT, ju1_jb, ju2_jb, juA_jb, ju1_jd, ju2_jd, juA_jd, ju1_jt, ju2_jt, juA_jt, ju1_jx, ju2_jx, juA_jx, ju1_jw, ju2_jw, juA_jw, ju1_jr, ju2_jr, juA_jr, ju1_jn, ju2_jn, juA_jn, jux_jB, jux_jC, jux_jT, jux_jb, jux_jd, jux_jw, jux_jr, jux_jn, jG2, jP2, jG3, jP3, jG4, jP4, jG5, jP5, jG8, jP8, jG9, jP9, jG10, jP10, jG11, jP11, jG1, jP1, jG6, jP6, jG7, jP7, jG12, jP12, wj2, wk2, wn2, wj3, wk3, wn3, wj4, wk4, wn4, wj5, wk5, wn5, wj6, wk6, wn6, wj7, wk7, wn7, wj8, wk8, wn8, wj9, wk9, wn9, wj10, wk10, wn10, Nat.reduceEqDiff, reduceIte, false_and, true_and, and_true, and_self, if_false, if_true, and_false]
  rw [h1t, h2t, h3t, txt_eq.2.1, txt_eq.2.2.1, txt_eq.2.2.2, txt12]
  refine ⟨by omega, ?_⟩
  by_cases h2 : 0 < s
  · rw [if_pos h2]
    by_cases h3 : s < 70
    · rw [if_pos h3]
      rw [sgnT_m h2 h3] at h ⊢
      rw [List.length_replicate] at h
      have e1 : (s - 1).tdiv ((23 : Nat) : Int) = (s - 1) / 23 := Int.tdiv_eq_ediv_of_nonneg (by omega)
      rw [e1]
      refine ⟨by omega, by omega, by omega, by omega, ?_⟩
      rw [wp_ret (c_writeSign_61 hC (by omega) (by omega) (by omega) ((s.toNat - 1) / 23 + 1) LFU l 0 (by unfold LFU; omega) (by omega) (by omega) h)]
      rw [show (s - 1 - (s - 1) / 23 * ((23 : Nat) : Int)).toNat = (s.toNat - 1) % 23 by omega]
    · rw [if_neg h3]
      rw [sgnT_70 (by omega)] at h ⊢
      exact ⟨⟨by omega, h⟩, rfl⟩
  · rw [if_neg h2]
    rw [sgnT_0 (by omega)] at h ⊢
    exact ⟨⟨by omega, h⟩, rfl⟩
end CWR
