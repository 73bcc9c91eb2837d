/-! ===== the class takes changes into the draft ===== -/
section FLT5
variable {J : JS} {R : Nat → Int → Int} {n hi : Int} {P S F I : Int → Int}
theorem b8m {m : Int} (h : m = 43 ∨ m = 45 ∨ m = 61) : iB8 m = m := by
  rcases h with h | h | h <;> subst h <;> decide
theorem b8v {v : Int} (h : 1 ≤ v ∧ v ≤ 4) : iB8 v = v := by
  have : v = 1 ∨ v = 2 ∨ v = 3 ∨ v = 4 := by omega
  rcases this with h | h | h | h <;> subst h <;> decide
theorem c_slotD (hD : DrR J n hi P S F I) {s i : Int} (hs : 0 ≤ s ∧ s ≤ 70) (hi' : R32 i) (hS : 0 ≤ S s ∧ S s ≤ 12) {Q : Int → JS → Prop} (h1 : (1 ≤ i ∧ i ≤ S s) → Q (s * 12 + i - 1) J) (h0 : ¬ (1 ≤ i ∧ i ≤ S s) → Q (-1) J) : wp (G6_slotOf 0 s i) Q J := by
  have hz := Nat.zero_le (jB J)
  have e4 := hD.2.2.2.1 s hs.1 hs.2
  unfold G6_slotOf
  simp only [wp_ib, wp_ig, wp_ite, jp_ret, jp_nz, jp_dI, jp_rI, jp_g9, jp_E, jpN1, jp_Bk, jp_Ck, jp_W, jp_R, jp_Tx, jp_Sl, jp_Sc, jp_Si, jp_Sq, jp_Xl, jp_X0, jp_Xc, jp_Xs, jp_Xi, jp_Tos, jp_NB, jp_NC, kj_1, kj_2, kj_3, kj_4, jpA1, jpS1, jp_con, ju1_s, ju1_a, ju2_s, ju2_a, juA_s, juA_a, jux_s, jux_a, jux_x, jux_t, ju1_jB, ju2_jB, juA_jB, ju1_jC, ju2_jC, juA_jC, ju1_jT, ju2_jT, juA_jT, ju1_jb, ju2_jb, juA_jb, ju1_jd, ju2_jd, juA_jd, ju1_jt, ju2_jt, juA_jt, ju1_jx, ju2_jx, juA_jx, ju1_jw, ju2_jw, juA_jw, ju1_jr, ju2_jr, juA_jr, ju1_jn, ju2_jn, juA_jn, jux_jB, jux_jC, jux_jT, jux_jb, jux_jd, jux_jw, jux_jr, jux_jn, jG2, jP2, jG3, jP3, jG4, jP4, jG5, jP5, jG8, jP8, jG9, jP9, jG10, jP10, jG11, jP11, jG1, jP1, jG6, jP6, jG7, jP7, jG12, jP12, wj2, wk2, wn2, wj3, wk3, wn3, wj4, wk4, wn4, wj5, wk5, wn5, wj6, wk6, wn6, wj7, wk7, wn7, wj8, wk8, wn8, wj9, wk9, wn9, wj10, wk10, wn10, Nat.reduceEqDiff, reduceIte, false_and, true_and, and_true, and_self, if_false, if_true, and_false]
  refine ⟨hi', ?_⟩
  by_cases c : i < 1
  · rw [if_pos c]; exact h0 (by omega)
  · rw [if_neg c, wp_ret (c_sizeOf hz (by omega)), if_pos (show 0 ≤ s ∧ s < 71 by omega), e4]
    refine ⟨hz, by omega, ?_⟩
    by_cases c2 : i ≤ S s
    · rw [if_pos c2]; exact h1 (by omega)
    · rw [if_neg c2]; exact h0 (by omega)
theorem c_takesChange (hD : DrR J n hi P S F I) {l m v : Int} (hl : 0 ≤ l ∧ l < 852) (hm : m = 43 ∨ m = 45 ∨ m = 61) (hv : m = 43 → 1 ≤ v ∧ v ≤ 4) (hR : R32 (F l) ∧ R32 (I l)) {Q : Int → JS → Prop}
    (h1 : m = 43 → I l = 0 → ∀ J', FrP J J' → DrR J' n hi P S F (fun x => if x = l then v else I x) → Q 1 J')
    (h2 : m ≠ 43 → F l = 0 → ∀ J', FrP J J' → DrR J' n hi P S (fun x => if x = l then m else F x) I → Q 1 J')
    (h0 : (m = 43 ∧ I l ≠ 0) ∨ (m ≠ 43 ∧ F l ≠ 0) → Q 0 J) : wp (G6_takesChange 0 l m v) Q J := by
  have hz := Nat.zero_le (jB J)
  obtain ⟨d1, d2, d3, d4, d5⟩ := hD
  obtain ⟨e5, e6⟩ := d5 l hl.1 hl.2
  unfold G6_takesChange G6_takesChange_30
  simp only [wp_ib, wp_ig, wp_ite, jp_ret, jp_nz, jp_dI, jp_rI, jp_g9, jp_E, jpN1, jp_Bk, jp_Ck, jp_W, jp_R, jp_Tx, jp_Sl, jp_Sc, jp_Si, jp_Sq, jp_Xl, jp_X0, jp_Xc, jp_Xs, jp_Xi, jp_Tos, jp_NB, jp_NC, kj_1, kj_2, kj_3, kj_4, jpA1, jpS1, jp_con, ju1_s, ju1_a, ju2_s, ju2_a, juA_s, juA_a, jux_s, jux_a, jux_x, jux_t, ju1_jB, ju2_jB, juA_jB, ju1_jC, ju2_jC, juA_jC, ju1_jT, ju2_jT, juA_jT, ju1_jb, ju2_jb, juA_jb, ju1_jd, ju2_jd, juA_jd, ju1_jt, ju2_jt, juA_jt, ju1_jx, ju2_jx, juA_jx, ju1_jw, ju2_jw, juA_jw, ju1_jr, ju2_jr, juA_jr, ju1_jn, ju2_jn, juA_jn, jux_jB, jux_jC, jux_jT, jux_jb, jux_jd, jux_jw, jux_jr, jux_jn, jG2, jP2, jG3, jP3, jG4, jP4, jG5, jP5, jG8, jP8, jG9, jP9, jG10, jP10, jG11, jP11, jG1, jP1, jG6, jP6, jG7, jP7, jG12, jP12, wj2, wk2, wn2, wj3, wk3, wn3, wj4, wk4, wn4, wj5, wk5, wn5, wj6, wk6, wn6, wj7, wk7, wn7, wj8, wk8, wn8, wj9, wk9, wn9, wj10, wk10, wn10, Nat.reduceEqDiff, reduceIte, false_and, true_and, and_true, and_self, if_false, if_true, and_false]
  rw [if_neg (show ¬ l < 0 by omega), if_pos (show l < 852 by omega)]
  refine ⟨by omega, by omega, ?_⟩
  by_cases c : m = 43
  · rw [if_pos c, e6]
    refine ⟨hz, ⟨hz, hl⟩, hR.2, ?_⟩
    by_cases c2 : I l = 0
    · rw [if_pos c2, if_pos c, b8v (hv c)]
      refine ⟨by omega, ⟨hz, hl⟩, h1 c c2 _ (FrP.a (by omega)) ⟨d1, d2, fun p p0 p1 => ?_, fun s s0 s1 => ?_, fun x x0 x1 => ⟨?_, ?_⟩⟩⟩
      · rw [ju2_a, if_neg (by omega)]; exact d3 p p0 p1
      · rw [ju2_a, if_neg (by omega)]; exact d4 s s0 s1
      · rw [ju2_a, if_neg (by omega)]; exact (d5 x x0 x1).1
      · rw [ju2_a]
        show _ = if x = l then v else I x
        by_cases ex : x = l
        · rw [if_pos ⟨rfl, rfl, ex⟩, if_pos ex]
          first | done | rfl | exact b8v (hv c)
        · rw [if_neg (fun q => ex q.2.2), if_neg ex]; exact (d5 x x0 x1).2
    · rw [if_neg c2]
      exact h0 (Or.inl ⟨c, c2⟩)
  · rw [if_neg c, e5]
    refine ⟨hz, ⟨hz, hl⟩, hR.1, ?_⟩
    by_cases c2 : F l = 0
    · rw [if_pos c2, if_neg c, b8m hm]
      refine ⟨by omega, ⟨hz, hl⟩, h2 c c2 _ (FrP.a (by omega)) ⟨d1, d2, fun p p0 p1 => ?_, fun s s0 s1 => ?_, fun x x0 x1 => ⟨?_, ?_⟩⟩⟩
      · rw [ju2_a, if_neg (by omega)]; exact d3 p p0 p1
      · rw [ju2_a, if_neg (by omega)]; exact d4 s s0 s1
      · rw [ju2_a]
        show _ = if x = l then m else F x
        by_cases ex : x = l
        · rw [if_pos ⟨rfl, rfl, ex⟩, if_pos ex]
          first | done | rfl | exact b8m hm
        · rw [if_neg (fun q => ex q.2.2), if_neg ex]; exact (d5 x x0 x1).1
      · rw [ju2_a, if_neg (by omega)]; exact (d5 x x0 x1).2
    · rw [if_neg c2]
      exact h0 (Or.inr ⟨c, c2⟩)
end FLT5
