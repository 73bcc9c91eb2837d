/-! ===== the class sets out all gatherings; a new book ===== -/
section SET2
variable {J : JS} {B : BK} {b : Nat}
theorem FrK.s7 (l v : Int) : FrK b J (ju2 J 7 b l v) := ⟨fun _ _ _ => rfl, fun t i q => by funext l; rw [ju2_a, if_neg (fun c => q (Or.inr ⟨c.1, c.2.1⟩))], rfl⟩
theorem CLf.s7 {n l v : Int} (h : CLf J b B n) : CLf (ju2 J 7 b l v) b B n := by
  obtain ⟨h1, h2⟩ := h
  refine ⟨h1, fun p p0 p1 => ?_⟩
  have e : ∀ id, ja (ju2 J 7 b l v) 1 id = ja J 1 id := fun id => by funext x; rw [ju2_a, if_neg (by omega)]
  rw [e, e, e, e]
  exact h2 p p0 p1
theorem AhL.s7 (hB : BOK B) {g i : Int} (hV : isV B g i) (h : AhL J b B g i) : AhL (ju2 J 7 b (slt B g i) (ah B g i)) b B g (i + 1) := fun g' i' hV' c => by
  rw [ju2_a]
  by_cases e : g' = g ∧ i' = i
  · rw [e.1, e.2, if_pos ⟨rfl, rfl, rfl⟩]
  · rw [if_neg (fun q => e (slt_inj hB hV' hV q.2.2))]
    exact h g' i' hV' (by omega)
theorem c_setOut11 {J0 : JS} (hb : b < jB J0) (hP : PlR J0 (b + 1) B) (hB : BOK B) (hT : LC B ≤ 400) {g : Int} (hg : 0 ≤ g ∧ g < bn B) {Q : Unit → JS → Prop}
    (hk : ∀ J', FrK b J0 J' → CLf J' b B (gsu B (g + 1)) → AhL J' b B (g + 1) 1 → Q () J') :
    ∀ (d m : Nat) (J : JS) (i : Int), d < m → i + d = bz B g + 1 → 1 ≤ i → FrK b J0 J → CLf J b B (ah B g i) → AhL J b B g i → wp (G0_setOut_11 m b g (bs B g) i) Q J := by
  have hz := hB.2.1 g hg.1 hg.2
  intro d
  induction d with
  | zero =>
    intro m J i hm hd hi hF hL hA
    cases m with
    | zero => omega
    | succ m =>
      have eb := jB_r hF.2.2
      unfold G0_setOut_11 G0_setOut_11_st
      simp only [wp_ib, wp_ig, wp_ite, jp_ret, jp_nz, jp_dI, jp_rI, jp_g9, jp_E, jpN1, jp_Bk, jp_Ck, jp_W, jp_R, jp_Tx, jp_Sl, jp_Sc, jp_Si, jp_Sq, jp_Xl, jp_X0, jp_Xc, jp_Xs, jp_Xi, jp_Tos, jp_NB, jp_NC, kj_1, kj_2, kj_3, kj_4, jpA1, jpS1, jp_con, ju1_s, ju1_a, ju2_s, ju2_a, juA_s, juA_a, jux_s, jux_a, jux_x, jux_t, ju1_jB, ju2_jB, juA_jB, ju1_jC, ju2_jC, juA_jC, ju1_jT, ju2_jT, juA_jT, ju1_jb, ju2_jb, juA_jb, ju1_jd, ju2_jd, juA_jd, ju1_jt, ju2_jt, juA_jt, ju1_jx, ju2_jx, juA_jx, ju1_jw, ju2_jw, juA_jw, ju1_jr, ju2_jr, juA_jr, ju1_jn, ju2_jn, juA_jn, jux_jB, jux_jC, jux_jT, jux_jb, jux_jd, jux_jw, jux_jr, jux_jn, jG2, jP2, jG3, jP3, jG4, jP4, jG5, jP5, jG8, jP8, jG9, jP9, jG10, jP10, jG11, jP11, jG1, jP1, jG6, jP6, jG7, jP7, jG12, jP12, wj2, wk2, wn2, wj3, wk3, wn3, wj4, wk4, wn4, wj5, wk5, wn5, wj6, wk6, wn6, wj7, wk7, wn7, wj8, wk8, wn8, wj9, wk9, wn9, wj10, wk10, wn10, Nat.reduceEqDiff, reduceIte, false_and, true_and, and_true, and_self, if_false, if_true, and_false]
      rw [wp_ret (c_size (by omega) (hP.fk hF) hB hg), if_pos (by omega)]
      have ei : i = bz B g + 1 := by omega
      rw [ei, ah_end (by omega) hg.1] at hL
      refine ⟨by omega, by omega, by omega, by omega, hk J hF hL fun g' i' hV' c => ?_⟩
      have := hV'.2
      refine hA g' i' hV' ?_
      by_cases q : g' = g
      · subst q; omega
      · omega
  | succ d ih =>
    intro m J i hm hd hi hF hL hA
    cases m with
    | zero => omega
    | succ m =>
      have eb := jB_r hF.2.2
      have hV : isV B g i := ⟨hg, hi, by omega⟩
      have hsl := slt_bd hB hV
      have hah := ah_bd hB hV
      have hc := cnt_bd hB hV
      have hgs := gsu_nn hB (g := g) hg.1 (by omega)
      have hgm := gsu_mono hB (g := g + 1) (h := bn B) (by omega) (by omega) (by omega)
      have hLC : gsu B (bn B) = LC B := rfl
      unfold G0_setOut_11 G0_setOut_11_st G0_leafCount
      simp only [wp_ib, wp_ig, wp_ite, jp_ret, jp_nz, jp_dI, jp_rI, jp_g9, jp_E, jpN1, jp_Bk, jp_Ck, jp_W, jp_R, jp_Tx, jp_Sl, jp_Sc, jp_Si, jp_Sq, jp_Xl, jp_X0, jp_Xc, jp_Xs, jp_Xi, jp_Tos, jp_NB, jp_NC, kj_1, kj_2, kj_3, kj_4, jpA1, jpS1, jp_con, ju1_s, ju1_a, ju2_s, ju2_a, juA_s, juA_a, jux_s, jux_a, jux_x, jux_t, ju1_jB, ju2_jB, juA_jB, ju1_jC, ju2_jC, juA_jC, ju1_jT, ju2_jT, juA_jT, ju1_jb, ju2_jb, juA_jb, ju1_jd, ju2_jd, juA_jd, ju1_jt, ju2_jt, juA_jt, ju1_jx, ju2_jx, juA_jx, ju1_jw, ju2_jw, juA_jw, ju1_jr, ju2_jr, juA_jr, ju1_jn, ju2_jn, juA_jn, jux_jB, jux_jC, jux_jT, jux_jb, jux_jd, jux_jw, jux_jr, jux_jn, jG2, jP2, jG3, jP3, jG4, jP4, jG5, jP5, jG8, jP8, jG9, jP9, jG10, jP10, jG11, jP11, jG1, jP1, jG6, jP6, jG7, jP7, jG12, jP12, wj2, wk2, wn2, wj3, wk3, wn3, wj4, wk4, wn4, wj5, wk5, wn5, wj6, wk6, wn6, wj7, wk7, wn7, wj8, wk8, wn8, wj9, wk9, wn9, wj10, wk10, wn10, Nat.reduceEqDiff, reduceIte, false_and, true_and, and_true, and_self, if_false, if_true, and_false]
      rw [wp_ret (c_size (by omega) (hP.fk hF) hB hg), if_neg (by omega)]
      refine ⟨by omega, by omega, by omega, by omega, by omega, by omega, ?_⟩
      refine c_slotOf (by omega) (hP.fk hF) hB (by omega) (by omega) (fun g' hV' e => ?_) (fun hn => absurd rfl (hn _ hV))
      have eg := bs_inj hB hV'.1 hV.1 e
      subst eg
      rw [if_neg (by omega), if_neg (by omega), hL.1.1]
      refine ⟨by omega, by omega, by omega, by omega, by omega, by omega, by omega, by omega, ⟨by omega, by omega⟩, ?_⟩
      exact c_setOut60 hb hP hB hT hV (fun J' n f l a e => ih m J' (i + 1) (by omega) (by omega) (by omega) f (by rw [← e]; exact l) a) (hF.trans (FrK.s7 _ _)) hL.s7 (hA.s7 hB hV)
theorem c_setOut {J0 J : JS} (hb : b < jB J0) (hP : PlR J0 (b + 1) B) (hB : BOK B) (hT : LC B ≤ 400) {g : Int} (hg : 0 ≤ g ∧ g < bn B) {Q : Unit → JS → Prop}
    (hk : ∀ J', FrK b J0 J' → CLf J' b B (gsu B (g + 1)) → AhL J' b B (g + 1) 1 → Q () J') (hF : FrK b J0 J) (hL : CLf J b B (gsu B g)) (hA : AhL J b B g 1) : wp (G0_setOut b g) Q J := by
  have eb := jB_r hF.2.2
  have h71 := hB.1
  have hz := hB.2.1 g hg.1 hg.2
  unfold G0_setOut
  simp only [wp_ib, wp_ig, wp_ite, jp_ret, jp_nz, jp_dI, jp_rI, jp_g9, jp_E, jpN1, jp_Bk, jp_Ck, jp_W, jp_R, jp_Tx, jp_Sl, jp_Sc, jp_Si, jp_Sq, jp_Xl, jp_X0, jp_Xc, jp_Xs, jp_Xi, jp_Tos, jp_NB, jp_NC, kj_1, kj_2, kj_3, kj_4, jpA1, jpS1, jp_con, ju1_s, ju1_a, ju2_s, ju2_a, juA_s, juA_a, jux_s, jux_a, jux_x, jux_t, ju1_jB, ju2_jB, juA_jB, ju1_jC, ju2_jC, juA_jC, ju1_jT, ju2_jT, juA_jT, ju1_jb, ju2_jb, juA_jb, ju1_jd, ju2_jd, juA_jd, ju1_jt, ju2_jt, juA_jt, ju1_jx, ju2_jx, juA_jx, ju1_jw, ju2_jw, juA_jw, ju1_jr, ju2_jr, juA_jr, ju1_jn, ju2_jn, juA_jn, jux_jB, jux_jC, jux_jT, jux_jb, jux_jd, jux_jw, jux_jr, jux_jn, jG2, jP2, jG3, jP3, jG4, jP4, jG5, jP5, jG8, jP8, jG9, jP9, jG10, jP10, jG11, jP11, jG1, jP1, jG6, jP6, jG7, jP7, jG12, jP12, wj2, wk2, wn2, wj3, wk3, wn3, wj4, wk4, wn4, wj5, wk5, wn5, wj6, wk6, wn6, wj7, wk7, wn7, wj8, wk8, wn8, wj9, wk9, wn9, wj10, wk10, wn10, Nat.reduceEqDiff, reduceIte, false_and, true_and, and_true, and_self, if_false, if_true, and_false]
  rw [wp_ret (c_signOf (by omega) (hP.fk hF) hB (by omega)), if_pos hg]
  exact ⟨by omega, by omega, c_setOut11 hb hP hB hT hg hk (bz B g).toNat LFU J 1 (by unfold LFU; omega) (by omega) (by omega) hF (by rw [ah_1]; exact hL) hA⟩
theorem c_init95 {J0 : JS} (hb : b < jB J0) (hP : PlR J0 (b + 1) B) (hB : BOK B) (hT : LC B ≤ 400) {Q : Unit → JS → Prop}
    (hk : ∀ J', FrK b J0 J' → CLf J' b B (LC B) → AhL J' b B (bn B) 1 → Q () J') :
    ∀ (d m : Nat) (J : JS) (g : Int), d < m → g + d = bn B → 0 ≤ g → FrK b J0 J → CLf J b B (gsu B g) → AhL J b B g 1 → wp (G0_init_95 m b g) Q J := by
  have h71 := hB.1
  intro d
  induction d with
  | zero =>
    intro m J g hm hd hg hF hL hA
    cases m with
    | zero => omega
    | succ m =>
      have eb := jB_r hF.2.2
      have eg : g = bn B := by omega
      unfold G0_init_95 G0_init_95_st
      simp only [wp_ib, wp_ig, wp_ite, jp_ret, jp_nz, jp_dI, jp_rI, jp_g9, jp_E, jpN1, jp_Bk, jp_Ck, jp_W, jp_R, jp_Tx, jp_Sl, jp_Sc, jp_Si, jp_Sq, jp_Xl, jp_X0, jp_Xc, jp_Xs, jp_Xi, jp_Tos, jp_NB, jp_NC, kj_1, kj_2, kj_3, kj_4, jpA1, jpS1, jp_con, ju1_s, ju1_a, ju2_s, ju2_a, juA_s, juA_a, jux_s, jux_a, jux_x, jux_t, ju1_jB, ju2_jB, juA_jB, ju1_jC, ju2_jC, juA_jC, ju1_jT, ju2_jT, juA_jT, ju1_jb, ju2_jb, juA_jb, ju1_jd, ju2_jd, juA_jd, ju1_jt, ju2_jt, juA_jt, ju1_jx, ju2_jx, juA_jx, ju1_jw, ju2_jw, juA_jw, ju1_jr, ju2_jr, juA_jr, ju1_jn, ju2_jn, juA_jn, jux_jB, jux_jC, jux_jT, jux_jb, jux_jd, jux_jw, jux_jr, jux_jn, jG2, jP2, jG3, jP3, jG4, jP4, jG5, jP5, jG8, jP8, jG9, jP9, jG10, jP10, jG11, jP11, jG1, jP1, jG6, jP6, jG7, jP7, jG12, jP12, wj2, wk2, wn2, wj3, wk3, wn3, wj4, wk4, wn4, wj5, wk5, wn5, wj6, wk6, wn6, wj7, wk7, wn7, wj8, wk8, wn8, wj9, wk9, wn9, wj10, wk10, wn10, Nat.reduceEqDiff, reduceIte, false_and, true_and, and_true, and_self, if_false, if_true, and_false]
      rw [(hP.fk hF).1, if_pos (by omega)]
      rw [eg] at hL hA
      exact ⟨by omega, by omega, by omega, by omega, hk J hF hL hA⟩
  | succ d ih =>
    intro m J g hm hd hg hF hL hA
    cases m with
    | zero => omega
    | succ m =>
      have eb := jB_r hF.2.2
      unfold G0_init_95 G0_init_95_st
      simp only [wp_ib, wp_ig, wp_ite, jp_ret, jp_nz, jp_dI, jp_rI, jp_g9, jp_E, jpN1, jp_Bk, jp_Ck, jp_W, jp_R, jp_Tx, jp_Sl, jp_Sc, jp_Si, jp_Sq, jp_Xl, jp_X0, jp_Xc, jp_Xs, jp_Xi, jp_Tos, jp_NB, jp_NC, kj_1, kj_2, kj_3, kj_4, jpA1, jpS1, jp_con, ju1_s, ju1_a, ju2_s, ju2_a, juA_s, juA_a, jux_s, jux_a, jux_x, jux_t, ju1_jB, ju2_jB, juA_jB, ju1_jC, ju2_jC, juA_jC, ju1_jT, ju2_jT, juA_jT, ju1_jb, ju2_jb, juA_jb, ju1_jd, ju2_jd, juA_jd, ju1_jt, ju2_jt, juA_jt, ju1_jx, ju2_jx, juA_jx, ju1_jw, ju2_jw, juA_jw, ju1_jr, ju2_jr, juA_jr, ju1_jn, ju2_jn, juA_jn, jux_jB, jux_jC, jux_jT, jux_jb, jux_jd, jux_jw, jux_jr, jux_jn, jG2, jP2, jG3, jP3, jG4, jP4, jG5, jP5, jG8, jP8, jG9, jP9, jG10, jP10, jG11, jP11, jG1, jP1, jG6, jP6, jG7, jP7, jG12, jP12, wj2, wk2, wn2, wj3, wk3, wn3, wj4, wk4, wn4, wj5, wk5, wn5, wj6, wk6, wn6, wj7, wk7, wn7, wj8, wk8, wn8, wj9, wk9, wn9, wj10, wk10, wn10, Nat.reduceEqDiff, reduceIte, false_and, true_and, and_true, and_self, if_false, if_true, and_false]
      rw [(hP.fk hF).1, if_neg (by omega)]
      refine ⟨by omega, by omega, by omega, by omega, by omega, ?_⟩
      exact c_setOut hb hP hB hT ⟨hg, by omega⟩ (fun J' f l a => ih m J' (g + 1) (by omega) (by omega) (by omega) f l a) hF hL hA
/-- a new book takes the draft over -/
def FrNb (b : Nat) (J J' : JS) : Prop := (∀ t i, ¬ ((t = 1 ∧ 100 + 4 * b ≤ i ∧ i < 104 + 4 * b) ∨ ((t = 6 ∨ t = 7) ∧ i = b + 1)) → js J' t i = js J t i) ∧ (∀ t i, ¬ ((t = 1 ∧ 100 + 4 * b ≤ i ∧ i < 104 + 4 * b) ∨ (t = 7 ∧ i = b) ∨ ((3 ≤ t ∧ t ≤ 6) ∧ i = b + 1)) → ja J' t i = ja J t i) ∧ J'.2.2 = J.2.2
theorem c_bookInit (hb : b < jB J) (hP : PlR J 0 B) (hB : BOK B) (hT : LC B ≤ 400) (h0 : js J 1 (100 + 4 * b) = 0 ∧ js J 1 (101 + 4 * b) = 0 ∧ js J 1 (102 + 4 * b) = 0 ∧ js J 1 (103 + 4 * b) = 0) {Q : Unit → JS → Prop}
    (hk : ∀ J', FrNb b J J' → PlR J' (b + 1) B → CLf J' b B (LC B) → AhL J' b B (bn B) 1 → Q () J') : wp (G0_init2 b) Q J := by
  unfold G0_init2
  simp only [wp_ib, wp_ig, wp_ite, jp_ret, jp_nz, jp_dI, jp_rI, jp_g9, jp_E, jpN1, jp_Bk, jp_Ck, jp_W, jp_R, jp_Tx, jp_Sl, jp_Sc, jp_Si, jp_Sq, jp_Xl, jp_X0, jp_Xc, jp_Xs, jp_Xi, jp_Tos, jp_NB, jp_NC, kj_1, kj_2, kj_3, kj_4, jpA1, jpS1, jp_con, ju1_s, ju1_a, ju2_s, ju2_a, juA_s, juA_a, jux_s, jux_a, jux_x, jux_t, ju1_jB, ju2_jB, juA_jB, ju1_jC, ju2_jC, juA_jC, ju1_jT, ju2_jT, juA_jT, ju1_jb, ju2_jb, juA_jb, ju1_jd, ju2_jd, juA_jd, ju1_jt, ju2_jt, juA_jt, ju1_jx, ju2_jx, juA_jx, ju1_jw, ju2_jw, juA_jw, ju1_jr, ju2_jr, juA_jr, ju1_jn, ju2_jn, juA_jn, jux_jB, jux_jC, jux_jT, jux_jb, jux_jd, jux_jw, jux_jr, jux_jn, jG2, jP2, jG3, jP3, jG4, jP4, jG5, jP5, jG8, jP8, jG9, jP9, jG10, jP10, jG11, jP11, jG1, jP1, jG6, jP6, jG7, jP7, jG12, jP12, wj2, wk2, wn2, wj3, wk3, wn3, wj4, wk4, wn4, wj5, wk5, wn5, wj6, wk6, wn6, wj7, wk7, wn7, wj8, wk8, wn8, wj9, wk9, wn9, wj10, wk10, wn10, Nat.reduceEqDiff, reduceIte, false_and, true_and, and_true, and_self, if_false, if_true, and_false]
  refine ⟨hb, by omega, c_copyPl (by omega) (by omega) (by omega) hP hB fun J1 c1 hP1 => ?_⟩
  have e1 := c1.2.2.2.2.2
  have eb := jB_r e1
  have hL : CLf J1 b B 0 := by
    refine ⟨?_, fun p p0 p1 => by omega⟩
    rw [c1.2.2.2.1 _ _ (by omega), c1.2.2.2.1 _ _ (by omega), c1.2.2.2.1 _ _ (by omega), c1.2.2.2.1 _ _ (by omega)]
    exact h0
  have h71 := hB.1
  refine c_init95 (J0 := J1) (by omega) hP1 hB hT (fun J' f l a => hk J' ⟨fun t i c => ?_, fun t i c => ?_, f.2.2.trans e1⟩ (hP1.fk f) l a) (bn B).toNat LFU J1 0 (by unfold LFU; omega) (by omega) (by omega) FrK.refl hL (fun g i hV c => by have := hV.1; have := hV.2; omega)
  · rw [f.1 t i (by omega), c1.2.2.2.1 t i (by omega)]
  · rw [f.2.1 t i (by omega), c1.2.2.2.2.1 t i (by omega)]
end SET2
