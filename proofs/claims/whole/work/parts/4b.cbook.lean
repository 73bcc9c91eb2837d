/-! ===== the class's plans and books ===== -/
def fC (v : Int) : Int := if v = 1 then 45 else if v = 2 then 61 else 0
def slt (B : BK) (g i : Int) : Int := bs B g * 12 + i - 1
def PlR (J : JS) (p : Nat) (B : BK) : Prop := js J 6 p = bn B ∧ (∀ g, 0 ≤ g → g < bn B → ja J 3 p g = bs B g ∧ ja J 4 p (bs B g) = bz B g) ∧ (∀ g i, isV B g i → ja J 5 p (slt B g i) = fC (bf B g i) ∧ ja J 6 p (slt B g i) = bm B g i) ∧ (∀ s, 0 ≤ s → s < 71 → (∀ g, 0 ≤ g → g < bn B → bs B g ≠ s) → ja J 4 p s = 0) ∧ (∀ l, 0 ≤ l → l < 852 → (∀ g i, isV B g i → slt B g i ≠ l) → ja J 5 p l = 0 ∧ ja J 6 p l = 0)
def knd (B : BK) (g i k : Int) : Int := if 0 < k then 2 else if bf B g i = 0 then 0 else 1
def BoR (J : JS) (W : IS) (b : Nat) : Prop := PlR J (b + 1) (mB W b) ∧ b < jB J ∧ (∀ g i, isV (mB W b) g i → ja J 7 b (slt (mB W b) g i) = ah (mB W b) g i) ∧ (js J 1 (100 + 4 * b) = LC (mB W b) ∧ js J 1 (101 + 4 * b) = LC (mB W b) ∧ js J 1 (102 + 4 * b) = LC (mB W b) ∧ js J 1 (103 + 4 * b) = LC (mB W b)) ∧ ∀ p, 0 ≤ p → p < LC (mB W b) → ja J 1 (100 + 4 * b) p = W.2 12 ((b : Int) * 400 + p) ∧ ja J 1 (101 + 4 * b) p = W.2 13 ((b : Int) * 400 + p) ∧ ja J 1 (103 + 4 * b) p = W.2 14 ((b : Int) * 400 + p) ∧ ja J 1 (102 + 4 * b) p = knd (mB W b) (W.2 12 ((b : Int) * 400 + p)) (W.2 13 ((b : Int) * 400 + p)) (W.2 14 ((b : Int) * 400 + p))
section CBK
variable {J : JS} {B : BK} {p : Nat}
theorem slt_bd (hB : BOK B) {g i : Int} (h : isV B g i) : 0 ≤ slt B g i ∧ slt B g i < 852 := by
  have h1 := (hB.2.1 g h.1.1 h.1.2).1
  have h2 := (hB.2.1 g h.1.1 h.1.2).2
  have h3 := h.2
  unfold slt
  omega
theorem bs_inj (hB : BOK B) {g g' : Int} (h : 0 ≤ g ∧ g < bn B) (h' : 0 ≤ g' ∧ g' < bn B) (e : bs B g = bs B g') : g = g' := by
  by_cases q : g < g'
  · have := hB.2.2.2 g g' h.1 q h'.2; omega
  · by_cases q2 : g' < g
    · have := hB.2.2.2 g' g h'.1 q2 h.2; omega
    · omega
theorem slt_inj (hB : BOK B) {g i g' i' : Int} (h : isV B g i) (h' : isV B g' i') (e : slt B g i = slt B g' i') : g = g' ∧ i = i' := by
  have h2 := (hB.2.1 g h.1.1 h.1.2).2
  have h2' := (hB.2.1 g' h'.1.1 h'.1.2).2
  have h3 := h.2
  have h3' := h'.2
  unfold slt at e
  have e1 : bs B g = bs B g' := by omega
  exact ⟨bs_inj hB h.1 h'.1 e1, by omega⟩
theorem PlR.sz (hP : PlR J p B) (hB : BOK B) {s : Int} (h0 : 0 ≤ s) (h1 : s < 71) : (∃ g, (0 ≤ g ∧ g < bn B) ∧ bs B g = s ∧ ja J 4 p s = bz B g) ∨ ((∀ g, 0 ≤ g → g < bn B → bs B g ≠ s) ∧ ja J 4 p s = 0) := by
  by_cases h : ∃ g, (0 ≤ g ∧ g < bn B) ∧ bs B g = s
  · obtain ⟨g, h2, h3⟩ := h
    exact Or.inl ⟨g, h2, h3, by rw [← h3]; exact (hP.2.1 g h2.1 h2.2).2⟩
  · have h' : ∀ g, 0 ≤ g → g < bn B → bs B g ≠ s := fun g q1 q2 q3 => h ⟨g, ⟨q1, q2⟩, q3⟩
    exact Or.inr ⟨h', hP.2.2.2.1 s h0 h1 h'⟩
theorem PlR.szb (hP : PlR J p B) (hB : BOK B) {s : Int} (h0 : 0 ≤ s) (h1 : s < 71) : 0 ≤ ja J 4 p s ∧ ja J 4 p s ≤ 12 := by
  rcases hP.sz hB h0 h1 with ⟨g, h2, h3, h4⟩ | ⟨h2, h3⟩
  · have := (hB.2.1 g h2.1 h2.2).2; omega
  · omega
/-- what a plan tells of its signs and slots -/
theorem c_sizeOf (hp : p ≤ jB J) {s : Int} (hs : R32 s) : G6_sizeOf p s J = some (if 0 ≤ s ∧ s < 71 then ja J 4 p s else 0, J) := by
  refine wp_eq ?_
  unfold G6_sizeOf
  simp only [wp_ib, wp_ig, wp_ite, jp_ret, jp_nz, jp_dI, jp_rI, jp_g9, jp_E, jpN1, jp_Bk, jp_Ck, jp_W, jp_R, jp_Tx, jp_Sl, jp_Sc, jp_Si, jp_Sq, jp_Xl, jp_X0, jp_Xc, jp_Xs, jp_Xi, jp_Tos, jp_NB, jp_NC, kj_1, kj_2, kj_3, kj_4, jpA1, jpS1, jp_con, ju1_s, ju1_a, ju2_s, ju2_a, juA_s, juA_a, jux_s, jux_a, jux_x, jux_t, ju1_jB, ju2_jB, juA_jB, ju1_jC, ju2_jC, juA_jC, ju1_jT, ju2_jT, juA_jT, ju1_jb, ju2_jb, juA_jb, ju1_jd, ju2_jd, juA_jd, ju1_jt, ju2_jt, juA_jt, ju1_jx, ju2_jx, juA_jx, ju1_jw, ju2_jw, juA_jw, ju1_jr, ju2_jr, juA_jr, ju1_jn, ju2_jn, juA_jn, jux_jB, jux_jC, jux_jT, jux_jb, jux_jd, jux_jw, jux_jr, jux_jn, jG2, jP2, jG3, jP3, jG4, jP4, jG5, jP5, jG8, jP8, jG9, jP9, jG10, jP10, jG11, jP11, jG1, jP1, jG6, jP6, jG7, jP7, jG12, jP12, wj2, wk2, wn2, wj3, wk3, wn3, wj4, wk4, wn4, wj5, wk5, wn5, wj6, wk6, wn6, wj7, wk7, wn7, wj8, wk8, wn8, wj9, wk9, wn9, wj10, wk10, wn10, Nat.reduceEqDiff, reduceIte, false_and, true_and, and_true, and_self, if_false, if_true, and_false]
  refine ⟨hs, ?_⟩
  by_cases h : s < 0
  · rw [if_pos h, if_neg (by omega)]; (first | done | exact ⟨rfl, rfl⟩ | exact ⟨trivial, rfl⟩ | exact ⟨rfl, trivial⟩ | rfl | trivial)
  · rw [if_neg h]
    refine ⟨hp, hp, by omega, ?_⟩
    by_cases h2 : s < 71
    · rw [if_pos h2, if_pos (by omega)]
      exact ⟨hp, ⟨hp, by omega, h2⟩, by (first | done | exact ⟨rfl, rfl⟩ | exact ⟨trivial, rfl⟩ | exact ⟨rfl, trivial⟩ | rfl | trivial)⟩
    · rw [if_neg h2, if_neg (by omega)]; (first | done | exact ⟨rfl, rfl⟩ | exact ⟨trivial, rfl⟩ | exact ⟨rfl, trivial⟩ | rfl | trivial)
theorem c_size (hp : p ≤ jB J) (hP : PlR J p B) (hB : BOK B) {g : Int} (hg : 0 ≤ g ∧ g < bn B) : G6_sizeOf p (bs B g) J = some (bz B g, J) := by
  have h := (hB.2.1 g hg.1 hg.2).1
  rw [c_sizeOf hp (by omega), if_pos (by omega), (hP.2.1 g hg.1 hg.2).2]
theorem c_signOf (hp : p ≤ jB J) (hP : PlR J p B) (hB : BOK B) {g : Int} (hg : R32 g) : G6_signOf p g J = some (if 0 ≤ g ∧ g < bn B then bs B g else -1, J) := by
  have h71 := hB.1
  refine wp_eq ?_
  unfold G6_signOf
  simp only [wp_ib, wp_ig, wp_ite, jp_ret, jp_nz, jp_dI, jp_rI, jp_g9, jp_E, jpN1, jp_Bk, jp_Ck, jp_W, jp_R, jp_Tx, jp_Sl, jp_Sc, jp_Si, jp_Sq, jp_Xl, jp_X0, jp_Xc, jp_Xs, jp_Xi, jp_Tos, jp_NB, jp_NC, kj_1, kj_2, kj_3, kj_4, jpA1, jpS1, jp_con, ju1_s, ju1_a, ju2_s, ju2_a, juA_s, juA_a, jux_s, jux_a, jux_x, jux_t, ju1_jB, ju2_jB, juA_jB, ju1_jC, ju2_jC, juA_jC, ju1_jT, ju2_jT, juA_jT, ju1_jb, ju2_jb, juA_jb, ju1_jd, ju2_jd, juA_jd, ju1_jt, ju2_jt, juA_jt, ju1_jx, ju2_jx, juA_jx, ju1_jw, ju2_jw, juA_jw, ju1_jr, ju2_jr, juA_jr, ju1_jn, ju2_jn, juA_jn, jux_jB, jux_jC, jux_jT, jux_jb, jux_jd, jux_jw, jux_jr, jux_jn, jG2, jP2, jG3, jP3, jG4, jP4, jG5, jP5, jG8, jP8, jG9, jP9, jG10, jP10, jG11, jP11, jG1, jP1, jG6, jP6, jG7, jP7, jG12, jP12, wj2, wk2, wn2, wj3, wk3, wn3, wj4, wk4, wn4, wj5, wk5, wn5, wj6, wk6, wn6, wj7, wk7, wn7, wj8, wk8, wn8, wj9, wk9, wn9, wj10, wk10, wn10, Nat.reduceEqDiff, reduceIte, false_and, true_and, and_true, and_self, if_false, if_true, and_false]
  refine ⟨hg, ?_⟩
  by_cases h : g < 0
  · rw [if_pos h, if_neg (by omega)]; (first | done | exact ⟨rfl, rfl⟩ | exact ⟨trivial, rfl⟩ | exact ⟨rfl, trivial⟩ | rfl | trivial)
  · rw [if_neg h, hP.1]
    refine ⟨hp, by omega, ?_⟩
    by_cases h2 : bn B ≤ g
    · rw [if_pos h2, if_neg (by omega)]; (first | done | exact ⟨rfl, rfl⟩ | exact ⟨trivial, rfl⟩ | exact ⟨rfl, trivial⟩ | rfl | trivial)
    · rw [if_neg h2, if_pos (by omega), (hP.2.1 g (by omega) (by omega)).1, if_pos (by omega)]
      exact ⟨hp, hp, by omega, hp, ⟨hp, by omega, by omega⟩, by (first | done | exact ⟨rfl, rfl⟩ | exact ⟨trivial, rfl⟩ | exact ⟨rfl, trivial⟩ | rfl | trivial)⟩
theorem c_slotOf (hp : p ≤ jB J) (hP : PlR J p B) (hB : BOK B) {s i : Int} (hs : R32 s) (hi : R32 i) {Q : Int → JS → Prop} (h1 : ∀ g, isV B g i → bs B g = s → Q (slt B g i) J) (h2 : (∀ g, isV B g i → bs B g ≠ s) → Q (-1) J) : wp (G6_slotOf p s i) Q J := by
  unfold G6_slotOf
  simp only [wp_ib, wp_ig, wp_ite, jp_ret, jp_nz, jp_dI, jp_rI, jp_g9, jp_E, jpN1, jp_Bk, jp_Ck, jp_W, jp_R, jp_Tx, jp_Sl, jp_Sc, jp_Si, jp_Sq, jp_Xl, jp_X0, jp_Xc, jp_Xs, jp_Xi, jp_Tos, jp_NB, jp_NC, kj_1, kj_2, kj_3, kj_4, jpA1, jpS1, jp_con, ju1_s, ju1_a, ju2_s, ju2_a, juA_s, juA_a, jux_s, jux_a, jux_x, jux_t, ju1_jB, ju2_jB, juA_jB, ju1_jC, ju2_jC, juA_jC, ju1_jT, ju2_jT, juA_jT, ju1_jb, ju2_jb, juA_jb, ju1_jd, ju2_jd, juA_jd, ju1_jt, ju2_jt, juA_jt, ju1_jx, ju2_jx, juA_jx, ju1_jw, ju2_jw, juA_jw, ju1_jr, ju2_jr, juA_jr, ju1_jn, ju2_jn, juA_jn, jux_jB, jux_jC, jux_jT, jux_jb, jux_jd, jux_jw, jux_jr, jux_jn, jG2, jP2, jG3, jP3, jG4, jP4, jG5, jP5, jG8, jP8, jG9, jP9, jG10, jP10, jG11, jP11, jG1, jP1, jG6, jP6, jG7, jP7, jG12, jP12, wj2, wk2, wn2, wj3, wk3, wn3, wj4, wk4, wn4, wj5, wk5, wn5, wj6, wk6, wn6, wj7, wk7, wn7, wj8, wk8, wn8, wj9, wk9, wn9, wj10, wk10, wn10, Nat.reduceEqDiff, reduceIte, false_and, true_and, and_true, and_self, if_false, if_true, and_false]
  refine ⟨hi, ?_⟩
  by_cases h : i < 1
  · rw [if_pos h]
    exact h2 fun g q => by have := q.2; omega
  · rw [if_neg h, wp_ret (c_sizeOf hp hs)]
    by_cases c : 0 ≤ s ∧ s < 71
    · rw [if_pos c]
      have hb := hP.szb hB c.1 c.2
      refine ⟨hp, by omega, ?_⟩
      rcases hP.sz hB c.1 c.2 with ⟨g, g1, g2, g3⟩ | ⟨g2, g3⟩
      · rw [g3]
        by_cases c2 : i ≤ bz B g
        · rw [if_pos c2]
          have := h1 g ⟨g1, by omega, c2⟩ g2
          unfold slt at this
          rw [g2] at this
          exact this
        · rw [if_neg c2]
          exact h2 fun g' q e => by
            have := bs_inj hB g1 q.1 (by rw [g2, e])
            subst this
            exact c2 q.2.2
      · rw [g3, if_neg (by omega)]
        exact h2 fun g' q e => g2 g' q.1.1 q.1.2 e
    · rw [if_neg c, if_neg (by omega)]
      exact ⟨hp, by decide, h2 fun g' q e => c (by have := (hB.2.1 g' q.1.1 q.1.2).1; omega)⟩
theorem c_fateOf (hp : p ≤ jB J) {l : Int} (hs : R32 l) : G6_fateOf p l J = some (if 0 ≤ l ∧ l < 852 then ja J 5 p l else 0, J) := by
  refine wp_eq ?_
  unfold G6_fateOf
  simp only [wp_ib, wp_ig, wp_ite, jp_ret, jp_nz, jp_dI, jp_rI, jp_g9, jp_E, jpN1, jp_Bk, jp_Ck, jp_W, jp_R, jp_Tx, jp_Sl, jp_Sc, jp_Si, jp_Sq, jp_Xl, jp_X0, jp_Xc, jp_Xs, jp_Xi, jp_Tos, jp_NB, jp_NC, kj_1, kj_2, kj_3, kj_4, jpA1, jpS1, jp_con, ju1_s, ju1_a, ju2_s, ju2_a, juA_s, juA_a, jux_s, jux_a, jux_x, jux_t, ju1_jB, ju2_jB, juA_jB, ju1_jC, ju2_jC, juA_jC, ju1_jT, ju2_jT, juA_jT, ju1_jb, ju2_jb, juA_jb, ju1_jd, ju2_jd, juA_jd, ju1_jt, ju2_jt, juA_jt, ju1_jx, ju2_jx, juA_jx, ju1_jw, ju2_jw, juA_jw, ju1_jr, ju2_jr, juA_jr, ju1_jn, ju2_jn, juA_jn, jux_jB, jux_jC, jux_jT, jux_jb, jux_jd, jux_jw, jux_jr, jux_jn, jG2, jP2, jG3, jP3, jG4, jP4, jG5, jP5, jG8, jP8, jG9, jP9, jG10, jP10, jG11, jP11, jG1, jP1, jG6, jP6, jG7, jP7, jG12, jP12, wj2, wk2, wn2, wj3, wk3, wn3, wj4, wk4, wn4, wj5, wk5, wn5, wj6, wk6, wn6, wj7, wk7, wn7, wj8, wk8, wn8, wj9, wk9, wn9, wj10, wk10, wn10, Nat.reduceEqDiff, reduceIte, false_and, true_and, and_true, and_self, if_false, if_true, and_false]
  refine ⟨hs, ?_⟩
  by_cases h : l < 0
  · rw [if_pos h, if_neg (by omega)]; (first | done | exact ⟨rfl, rfl⟩ | exact ⟨trivial, rfl⟩ | exact ⟨rfl, trivial⟩ | rfl | trivial)
  · rw [if_neg h]
    refine ⟨hp, hp, by omega, ?_⟩
    by_cases h2 : l < 852
    · rw [if_pos h2, if_pos (by omega)]
      exact ⟨hp, ⟨hp, by omega, h2⟩, by (first | done | exact ⟨rfl, rfl⟩ | exact ⟨trivial, rfl⟩ | exact ⟨rfl, trivial⟩ | rfl | trivial)⟩
    · rw [if_neg h2, if_neg (by omega)]; (first | done | exact ⟨rfl, rfl⟩ | exact ⟨trivial, rfl⟩ | exact ⟨rfl, trivial⟩ | rfl | trivial)
theorem c_insertedAt (hp : p ≤ jB J) {l : Int} (hs : R32 l) : G6_insertedAt p l J = some (if 0 ≤ l ∧ l < 852 then ja J 6 p l else 0, J) := by
  refine wp_eq ?_
  unfold G6_insertedAt
  simp only [wp_ib, wp_ig, wp_ite, jp_ret, jp_nz, jp_dI, jp_rI, jp_g9, jp_E, jpN1, jp_Bk, jp_Ck, jp_W, jp_R, jp_Tx, jp_Sl, jp_Sc, jp_Si, jp_Sq, jp_Xl, jp_X0, jp_Xc, jp_Xs, jp_Xi, jp_Tos, jp_NB, jp_NC, kj_1, kj_2, kj_3, kj_4, jpA1, jpS1, jp_con, ju1_s, ju1_a, ju2_s, ju2_a, juA_s, juA_a, jux_s, jux_a, jux_x, jux_t, ju1_jB, ju2_jB, juA_jB, ju1_jC, ju2_jC, juA_jC, ju1_jT, ju2_jT, juA_jT, ju1_jb, ju2_jb, juA_jb, ju1_jd, ju2_jd, juA_jd, ju1_jt, ju2_jt, juA_jt, ju1_jx, ju2_jx, juA_jx, ju1_jw, ju2_jw, juA_jw, ju1_jr, ju2_jr, juA_jr, ju1_jn, ju2_jn, juA_jn, jux_jB, jux_jC, jux_jT, jux_jb, jux_jd, jux_jw, jux_jr, jux_jn, jG2, jP2, jG3, jP3, jG4, jP4, jG5, jP5, jG8, jP8, jG9, jP9, jG10, jP10, jG11, jP11, jG1, jP1, jG6, jP6, jG7, jP7, jG12, jP12, wj2, wk2, wn2, wj3, wk3, wn3, wj4, wk4, wn4, wj5, wk5, wn5, wj6, wk6, wn6, wj7, wk7, wn7, wj8, wk8, wn8, wj9, wk9, wn9, wj10, wk10, wn10, Nat.reduceEqDiff, reduceIte, false_and, true_and, and_true, and_self, if_false, if_true, and_false]
  refine ⟨hs, ?_⟩
  by_cases h : l < 0
  · rw [if_pos h, if_neg (by omega)]; (first | done | exact ⟨rfl, rfl⟩ | exact ⟨trivial, rfl⟩ | exact ⟨rfl, trivial⟩ | rfl | trivial)
  · rw [if_neg h]
    refine ⟨hp, hp, by omega, ?_⟩
    by_cases h2 : l < 852
    · rw [if_pos h2, if_pos (by omega)]
      exact ⟨hp, ⟨hp, by omega, h2⟩, by (first | done | exact ⟨rfl, rfl⟩ | exact ⟨trivial, rfl⟩ | exact ⟨rfl, trivial⟩ | rfl | trivial)⟩
    · rw [if_neg h2, if_neg (by omega)]; (first | done | exact ⟨rfl, rfl⟩ | exact ⟨trivial, rfl⟩ | exact ⟨rfl, trivial⟩ | rfl | trivial)
theorem c_fate (hp : p ≤ jB J) (hP : PlR J p B) (hB : BOK B) {g i : Int} (h : isV B g i) : G6_fateOf p (slt B g i) J = some (fC (bf B g i), J) := by
  have hb := slt_bd hB h
  rw [c_fateOf hp (by omega), if_pos (by omega), (hP.2.2.1 g i h).1]
theorem c_ins (hp : p ≤ jB J) (hP : PlR J p B) (hB : BOK B) {g i : Int} (h : isV B g i) : G6_insertedAt p (slt B g i) J = some (bm B g i, J) := by
  have hb := slt_bd hB h
  rw [c_insertedAt hp (by omega), if_pos (by omega), (hP.2.2.1 g i h).2]
theorem fC_R (v : Int) : -2147483648 ≤ fC v ∧ fC v < 2147483648 := by
  unfold fC
  split
  · omega
  · split <;> omega
theorem c_isCut (hp : p ≤ jB J) (hP : PlR J p B) (hB : BOK B) {g i : Int} (h : isV B g i) : G6_isCut p (slt B g i) J = some (cut B g i, J) := by
  refine wp_eq ?_
  unfold G6_isCut
  simp only [wp_ib, wp_ig, wp_ite, jp_ret, jp_nz, jp_dI, jp_rI, jp_g9, jp_E, jpN1, jp_Bk, jp_Ck, jp_W, jp_R, jp_Tx, jp_Sl, jp_Sc, jp_Si, jp_Sq, jp_Xl, jp_X0, jp_Xc, jp_Xs, jp_Xi, jp_Tos, jp_NB, jp_NC, kj_1, kj_2, kj_3, kj_4, jpA1, jpS1, jp_con, ju1_s, ju1_a, ju2_s, ju2_a, juA_s, juA_a, jux_s, jux_a, jux_x, jux_t, ju1_jB, ju2_jB, juA_jB, ju1_jC, ju2_jC, juA_jC, ju1_jT, ju2_jT, juA_jT, ju1_jb, ju2_jb, juA_jb, ju1_jd, ju2_jd, juA_jd, ju1_jt, ju2_jt, juA_jt, ju1_jx, ju2_jx, juA_jx, ju1_jw, ju2_jw, juA_jw, ju1_jr, ju2_jr, juA_jr, ju1_jn, ju2_jn, juA_jn, jux_jB, jux_jC, jux_jT, jux_jb, jux_jd, jux_jw, jux_jr, jux_jn, jG2, jP2, jG3, jP3, jG4, jP4, jG5, jP5, jG8, jP8, jG9, jP9, jG10, jP10, jG11, jP11, jG1, jP1, jG6, jP6, jG7, jP7, jG12, jP12, wj2, wk2, wn2, wj3, wk3, wn3, wj4, wk4, wn4, wj5, wk5, wn5, wj6, wk6, wn6, wj7, wk7, wn7, wj8, wk8, wn8, wj9, wk9, wn9, wj10, wk10, wn10, Nat.reduceEqDiff, reduceIte, false_and, true_and, and_true, and_self, if_false, if_true, and_false]
  rw [wp_ret (c_fate hp hP hB h)]
  have hf := fC_R (bf B g i)
  refine ⟨hp, by omega, ?_⟩
  unfold cut
  by_cases c : bf B g i = 1
  · have e : fC (bf B g i) = 45 := by unfold fC; rw [if_pos c]
    rw [if_pos e, if_pos c]; (first | done | exact ⟨rfl, rfl⟩ | exact ⟨trivial, rfl⟩ | exact ⟨rfl, trivial⟩ | rfl | trivial)
  · have e : ¬ fC (bf B g i) = 45 := by unfold fC; rw [if_neg c]; split <;> omega
    rw [if_neg e, if_neg c]; (first | done | exact ⟨rfl, rfl⟩ | exact ⟨trivial, rfl⟩ | exact ⟨rfl, trivial⟩ | rfl | trivial)
theorem c_isReplaced (hp : p ≤ jB J) (hP : PlR J p B) (hB : BOK B) {g i : Int} (h : isV B g i) : G6_isReplaced p (slt B g i) J = some (if bf B g i = 2 then 1 else 0, J) := by
  refine wp_eq ?_
  unfold G6_isReplaced
  simp only [wp_ib, wp_ig, wp_ite, jp_ret, jp_nz, jp_dI, jp_rI, jp_g9, jp_E, jpN1, jp_Bk, jp_Ck, jp_W, jp_R, jp_Tx, jp_Sl, jp_Sc, jp_Si, jp_Sq, jp_Xl, jp_X0, jp_Xc, jp_Xs, jp_Xi, jp_Tos, jp_NB, jp_NC, kj_1, kj_2, kj_3, kj_4, jpA1, jpS1, jp_con, ju1_s, ju1_a, ju2_s, ju2_a, juA_s, juA_a, jux_s, jux_a, jux_x, jux_t, ju1_jB, ju2_jB, juA_jB, ju1_jC, ju2_jC, juA_jC, ju1_jT, ju2_jT, juA_jT, ju1_jb, ju2_jb, juA_jb, ju1_jd, ju2_jd, juA_jd, ju1_jt, ju2_jt, juA_jt, ju1_jx, ju2_jx, juA_jx, ju1_jw, ju2_jw, juA_jw, ju1_jr, ju2_jr, juA_jr, ju1_jn, ju2_jn, juA_jn, jux_jB, jux_jC, jux_jT, jux_jb, jux_jd, jux_jw, jux_jr, jux_jn, jG2, jP2, jG3, jP3, jG4, jP4, jG5, jP5, jG8, jP8, jG9, jP9, jG10, jP10, jG11, jP11, jG1, jP1, jG6, jP6, jG7, jP7, jG12, jP12, wj2, wk2, wn2, wj3, wk3, wn3, wj4, wk4, wn4, wj5, wk5, wn5, wj6, wk6, wn6, wj7, wk7, wn7, wj8, wk8, wn8, wj9, wk9, wn9, wj10, wk10, wn10, Nat.reduceEqDiff, reduceIte, false_and, true_and, and_true, and_self, if_false, if_true, and_false]
  rw [wp_ret (c_fate hp hP hB h)]
  have hf := fC_R (bf B g i)
  refine ⟨hp, by omega, ?_⟩
  by_cases c : bf B g i = 2
  · have e : fC (bf B g i) = 61 := by rw [c]; rfl
    rw [if_pos e, if_pos c]; (first | done | exact ⟨rfl, rfl⟩ | exact ⟨trivial, rfl⟩ | exact ⟨rfl, trivial⟩ | rfl | trivial)
  · have e : ¬ fC (bf B g i) = 61 := by
      unfold fC
      split
      · omega
      · first | omega | (rw [if_neg c]; omega)
    rw [if_neg e, if_neg c]; (first | done | exact ⟨rfl, rfl⟩ | exact ⟨trivial, rfl⟩ | exact ⟨rfl, trivial⟩ | rfl | trivial)
/-- a Row -/
def rxk (J : JS) (i : Nat) : Prop := i ≤ 12 ∨ (100 ≤ i ∧ i < 100 + 4 * jB J) ∨ (200 ≤ i ∧ i < 200 + 5 * jC J)
theorem c_get {id : Nat} (hx : rxk J id) {i : Int} (hi : R32 i) (h0 : 0 ≤ js J 1 id) (h1 : js J 1 id ≤ rl id) : G8_get id i J = some (if 0 ≤ i ∧ i < js J 1 id then ja J 1 id i else -1, J) := by
  have hr := rl_le id
  refine wp_eq ?_
  unfold G8_get
  unfold rxk at hx
  simp only [wp_ib, wp_ig, wp_ite, jp_ret, jp_nz, jp_dI, jp_rI, jp_g9, jp_E, jpN1, jp_Bk, jp_Ck, jp_W, jp_R, jp_Tx, jp_Sl, jp_Sc, jp_Si, jp_Sq, jp_Xl, jp_X0, jp_Xc, jp_Xs, jp_Xi, jp_Tos, jp_NB, jp_NC, kj_1, kj_2, kj_3, kj_4, jpA1, jpS1, jp_con, ju1_s, ju1_a, ju2_s, ju2_a, juA_s, juA_a, jux_s, jux_a, jux_x, jux_t, ju1_jB, ju2_jB, juA_jB, ju1_jC, ju2_jC, juA_jC, ju1_jT, ju2_jT, juA_jT, ju1_jb, ju2_jb, juA_jb, ju1_jd, ju2_jd, juA_jd, ju1_jt, ju2_jt, juA_jt, ju1_jx, ju2_jx, juA_jx, ju1_jw, ju2_jw, juA_jw, ju1_jr, ju2_jr, juA_jr, ju1_jn, ju2_jn, juA_jn, jux_jB, jux_jC, jux_jT, jux_jb, jux_jd, jux_jw, jux_jr, jux_jn, jG2, jP2, jG3, jP3, jG4, jP4, jG5, jP5, jG8, jP8, jG9, jP9, jG10, jP10, jG11, jP11, jG1, jP1, jG6, jP6, jG7, jP7, jG12, jP12, wj2, wk2, wn2, wj3, wk3, wn3, wj4, wk4, wn4, wj5, wk5, wn5, wj6, wk6, wn6, wj7, wk7, wn7, wj8, wk8, wn8, wj9, wk9, wn9, wj10, wk10, wn10, Nat.reduceEqDiff, reduceIte, false_and, true_and, and_true, and_self, if_false, if_true, and_false]
  refine ⟨hi, ?_⟩
  by_cases h : i < 0
  · rw [if_pos h, if_neg (by omega)]; (first | done | exact ⟨rfl, rfl⟩ | exact ⟨trivial, rfl⟩ | exact ⟨rfl, trivial⟩ | rfl | trivial)
  · rw [if_neg h]
    refine ⟨hx, by omega, ?_⟩
    by_cases h2 : i < js J 1 id
    · rw [if_pos h2, if_pos (by omega)]
      exact ⟨hx, ⟨hx, by omega, by omega⟩, by (first | done | exact ⟨rfl, rfl⟩ | exact ⟨trivial, rfl⟩ | exact ⟨rfl, trivial⟩ | rfl | trivial)⟩
    · rw [if_neg h2, if_neg (by omega)]; (first | done | exact ⟨rfl, rfl⟩ | exact ⟨trivial, rfl⟩ | exact ⟨rfl, trivial⟩ | rfl | trivial)
end CBK
