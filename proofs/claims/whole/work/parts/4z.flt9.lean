/-! ===== the class's fault of a group ===== -/
def GrC (J : JS) (R : Nat → Int → Int) (g : Int) : Prop := (js J 1 3 = g ∧ js J 1 4 = g ∧ js J 1 5 = g ∧ js J 1 6 = g ∧ js J 1 7 = g) ∧ ∀ i, 0 ≤ i → i < g → ja J 1 3 i = R 26 i ∧ ja J 1 4 i = (if R 28 i = 1 then R 27 i else -1) ∧ ja J 1 5 i = R 29 i ∧ ja J 1 6 i = R 30 i ∧ ja J 1 7 i = R 31 (i + 1)
section FLT9
variable {J : JS} {R : Nat → Int → Int} {g n : Int}
theorem GrR.c {W : IS} {c : Int} (h : GrR W J g c) : GrC J W.2 g := ⟨h.1.2.2, fun i i0 i1 => (h.2.1 i i0 i1).1⟩
theorem GrC.fr {J' : JS} (h : GrC J R g) (hF : FrP J J') : GrC J' R g := by
  unfold GrC
  rw [hF.1 1 3 (by omega), hF.1 1 4 (by omega), hF.1 1 5 (by omega), hF.1 1 6 (by omega), hF.1 1 7 (by omega), hF.2.1 1 3 (by omega), hF.2.1 1 4 (by omega), hF.2.1 1 5 (by omega), hF.2.1 1 6 (by omega), hF.2.1 1 7 (by omega)]
  exact h
theorem GrC.gt (h : GrC J R g) (hg : 0 ≤ g ∧ g ≤ 60) {i : Int} (hi : 0 ≤ i ∧ i < g) : G8_get 3 i J = some (R 26 i, J) ∧ G8_get 4 i J = some (if R 28 i = 1 then R 27 i else -1, J) ∧ G8_get 5 i J = some (R 29 i, J) ∧ G8_get 6 i J = some (R 30 i, J) ∧ G8_get 7 i J = some (R 31 (i + 1), J) := by
  obtain ⟨⟨h3, h4, h5, h6, h7⟩, h⟩ := h
  obtain ⟨a3, a4, a5, a6, a7⟩ := h i hi.1 hi.2
  refine ⟨?_, ?_, ?_, ?_, ?_⟩
  · rw [c_get (id := 3) (Or.inl (by omega)) (by omega) (by omega) (by rw [rl11 (by omega)]; omega), if_pos (by omega), a3]
  · rw [c_get (id := 4) (Or.inl (by omega)) (by omega) (by omega) (by rw [rl11 (by omega)]; omega), if_pos (by omega), a4]
  · rw [c_get (id := 5) (Or.inl (by omega)) (by omega) (by omega) (by rw [rl11 (by omega)]; omega), if_pos (by omega), a5]
  · rw [c_get (id := 6) (Or.inl (by omega)) (by omega) (by omega) (by rw [rl11 (by omega)]; omega), if_pos (by omega), a6]
  · rw [c_get (id := 7) (Or.inl (by omega)) (by omega) (by omega) (by rw [rl11 (by omega)]; omega), if_pos (by omega), a7]
theorem FC_FT {S F I : Int → Int} {f l a b e e' v : Int} (hs : ∀ c, e ≤ c → c < e' → f ≤ R 33 c ∧ R 33 c ≤ l) (hS : ∀ s, f ≤ s → s ≤ l → S s = (if (s - f) % 2 = 0 then a else b)) (hX : ¬ Q4 R S e e' → ∀ c, e ≤ c → c < e' → ¬ PX R F I c) (h : FC R S F I e e' v) : FT R f l a b e e' v := by
  have h4 : P4 R f l a b e e' ↔ Q4 R S e e' := by
    constructor
    · rintro ⟨c, c0, c1, c2⟩
      refine ⟨c, c0, c1, fun q => c2 ⟨hs c c0 c1, ?_⟩⟩
      rw [hS _ (hs c c0 c1).1 (hs c c0 c1).2] at q
      exact q
    · rintro ⟨c, c0, c1, c2⟩
      refine ⟨c, c0, c1, fun q => c2 ?_⟩
      rw [hS _ (hs c c0 c1).1 (hs c c0 c1).2]
      exact q.2
  unfold FC at h
  unfold FT
  rw [h4]
  rcases h with q | ⟨n4, q⟩
  · exact Or.inl q
  · refine Or.inr ⟨n4, ?_⟩
    have h6 : P6x R F I e e' ↔ P6 R e e' := ⟨fun q => by
      rcases q with q | ⟨c, c0, c1, c2⟩
      · exact q
      · exact absurd c2 (hX n4 c c0 c1), Or.inl⟩
    rw [h6] at q
    exact q
theorem c_ofGroup {k : Nat} {ki : Int} (hki : ki = (k : Int)) (hD : DrR J (gN R k) (gH R k) (gP R k) (gS R k) (gFt R k) (gIt R k)) (hGr : GrC J R g) (hC : ChC J R n) (hg : 0 ≤ g ∧ g ≤ 60) (hn : 0 ≤ n ∧ n ≤ 60) (hB : chB R n) (hG : grB R g n) (hk : ki < g) (h : GGd R k) {Q : Int → JS → Prop}
    (h0 : FG R ki (gH R k) (gX R k) 0 → ∀ J', FrP J J' → DrR J' (gN R (k + 1)) (gH R (k + 1)) (gP R (k + 1)) (gS R (k + 1)) (gFt R (k + 1)) (gIt R (k + 1)) → Q 0 J')
    (hf : ∀ v J', FG R ki (gH R k) (gX R k) v → v ≠ 0 → FrP J J' → Q v J') : wp (G3_ofGroup ki (R 31 ki) 0) Q J := by
  have hk0 : 0 ≤ ki := by omega
  have hz := Nat.zero_le (jB J)
  obtain ⟨a1, a2, a3, a3', a4, a5, ⟨a6, a6'⟩, a7⟩ := h
  have hx := gX_bd (R := R) k
  obtain ⟨b26, b27, b28, b29, b30, b31, b31', b31''⟩ := hG.1 ki hk0 hk
  obtain ⟨g3, g4, g5, g6, g7⟩ := hGr.gt hg (i := ki) ⟨hk0, hk⟩
  -- the group is put in, its changes
  have r140 : ¬ bad1 R ki → ¬ bad2 R ki (gH R k) (gX R k) → ¬ bad3 R ki → wp (G3_ofGroup_140 ki (R 31 ki) 0 (R 26 ki) (R 29 ki) (R 30 ki) (R 27 ki)) Q J := by
    intro n1 n2 n3
    obtain ⟨e1, e2, e3⟩ := GG_f hG ⟨hk0, hk⟩ n1 n2 n3
    have up : ∀ v, FT R (R 26 ki) (R 27 ki) (R 29 ki) (R 30 ki) (R 31 ki) (R 31 (ki + 1)) v → FG R ki (gH R k) (gX R k) v := fun v q => Or.inr ⟨n1, Or.inr ⟨n2, Or.inr ⟨n3, q⟩⟩⟩
    unfold G3_ofGroup_140
    simp only [wp_ib, wp_ig, wp_ite, jp_ret, jp_nz, jp_dI, jp_rI, jp_g9, jp_E, jpN1, jp_Bk, jp_Ck, jp_W, jp_R, jp_Tx, jp_Sl, jp_Sc, jp_Si, jp_Sq, jp_Xl, jp_X0, jp_Xc, jp_Xs, jp_Xi, jp_Tos, jp_NB, jp_NC, kj_1, kj_2, kj_3, kj_4, jpA1, jpS1, jp_con, ju1_s, ju1_a, ju2_s, ju2_a, juA_s, juA_a, jux_s, jux_a, jux_x, jux_t, ju1_jB, ju2_jB, juA_jB, ju1_jC, ju2_jC, juA_jC, ju1_jT, ju2_jT, juA_jT, ju1_jb, ju2_jb, juA_jb, ju1_jd, ju2_jd, juA_jd, ju1_jt, ju2_jt, juA_jt, ju1_jx, ju2_jx, juA_jx, ju1_jw, ju2_jw, juA_jw, ju1_jr, ju2_jr, juA_jr, ju1_jn, ju2_jn, juA_jn, jux_jB, jux_jC, jux_jT, jux_jb, jux_jd, jux_jw, jux_jr, jux_jn, jG2, jP2, jG3, jP3, jG4, jP4, jG5, jP5, jG8, jP8, jG9, jP9, jG10, jP10, jG11, jP11, jG1, jP1, jG6, jP6, jG7, jP7, jG12, jP12, wj2, wk2, wn2, wj3, wk3, wn3, wj4, wk4, wn4, wj5, wk5, wn5, wj6, wk6, wn6, wj7, wk7, wn7, wj8, wk8, wn8, wj9, wk9, wn9, wj10, wk10, wn10, Nat.reduceEqDiff, reduceIte, false_and, true_and, and_true, and_self, if_false, if_true, and_false]
    refine ⟨hz, ?_⟩
    refine c_addGroup hD ⟨by omega, by omega⟩ b26.1 (by omega) fun J1 hF1 hD1 => ?_
    have hD2 : DrR J1 (gN R (k + 1)) (gH R (k + 1)) (gP R (k + 1)) (gS R (k + 1)) (gFt R k) (gIt R k) := by
      rw [hki] at hD1
      exact hD1
    have hC1 := hC.fr hF1
    have g7' := ((hGr.fr hF1).gt hg (i := ki) ⟨hk0, hk⟩).2.2.2.2
    have hS1 : ∀ s, R 26 ki ≤ s → s ≤ R 27 ki → gS R (k + 1) s = (if (s - R 26 ki) % 2 = 0 then R 29 ki else R 30 ki) := fun s s0 s1 => by
      rw [hki] at s0 s1 ⊢
      exact if_pos ⟨s0, s1⟩
    have hS2 : ∀ s, gS R (k + 1) s = if R 26 ki ≤ s ∧ s ≤ R 27 ki then (if (s - R 26 ki) % 2 = 0 then R 29 ki else R 30 ki) else gS R k s := fun s => by
      rw [hki]
      rfl
    have hSb : ∀ s, 0 ≤ s → s ≤ 70 → 0 ≤ gS R (k + 1) s ∧ gS R (k + 1) s ≤ 12 := fun s s0 s1 => by
      rw [hS2]
      have := a5 s
      split
      · split <;> omega
      · omega
    rw [wp_ret g7']
    refine c_ofSigns hn hB hC1 ⟨by omega, by omega⟩ ⟨b31, by omega, by omega⟩ (fun hs => ?_) (fun ⟨c, c0, c1, c2⟩ => ?_)
    · rw [if_neg (by decide)]
      have hX : ¬ Q4 R (gS R (k + 1)) (R 31 ki) (R 31 (ki + 1)) → ∀ c, R 31 ki ≤ c → c < R 31 (ki + 1) → ¬ PX R (gFt R k) (gIt R k) c := by
        intro n4 c c0 c1 q
        have hi : 1 ≤ R 34 c ∧ R 34 c ≤ gS R (k + 1) (R 33 c) := by
          by_cases r : 1 ≤ R 34 c ∧ R 34 c ≤ gS R (k + 1) (R 33 c)
          · exact r
          · exact absurd ⟨c, c0, c1, r⟩ n4
        have hbc := hB c (by omega) (by omega)
        have hb := hSb (R 33 c) (by omega) (by omega)
        have hsc := hs c c0 c1
        have hz0 : gS R k (R 33 c) = 0 := by
          rcases e1 with ⟨q1, q2, q3⟩ | ⟨q1, q2, q3⟩
          · rw [show R 33 c = 70 by omega]; exact a3 q3
          · exact a2 _ (by omega) (by omega)
        have hz1 := a7 (R 33 c) (R 34 c) hz0 hi.1 (by omega)
        unfold PX slo at q
        omega
      refine ⟨by decide, ?_⟩
      refine c_ofChanges hD2 hC1 hn hB ⟨b31, by omega, by omega⟩ hSb a6 a6' (fun hfc J2 hF2 hD3 => ?_) (fun v J2 hfc hv hF2 => ?_)
      · refine h0 (up 0 (FC_FT hs hS1 hX hfc)) J2 (hF1.trans hF2) ?_
        rw [hki] at hD3
        exact hD3
      · exact hf v J2 (up v (FC_FT hs hS1 hX hfc)) (by omega) (hF1.trans hF2)
    · rw [if_pos rfl]
      exact ⟨by decide, hf 4 J1 (up 4 (Or.inl ⟨rfl, c, c0, c1, fun q => c2 q.1⟩)) (by decide) hF1⟩
  have r109 : ∀ y, (y = -1 ∧ R 27 ki = R 26 ki) ∨ (y ≠ -1 ∧ y = R 27 ki) → ¬ bad1 R ki → ¬ bad2 R ki (gH R k) (gX R k) → wp (G3_ofGroup_109 ki (R 31 ki) 0 (R 26 ki) y (R 29 ki) (R 30 ki)) Q J := by
    intro y hy n1 n2
    have r140 := r140 n1 n2
    unfold G3_ofGroup_109
    simp only [wp_ib, wp_ig, wp_ite, jp_ret, jp_nz, jp_dI, jp_rI, jp_g9, jp_E, jpN1, jp_Bk, jp_Ck, jp_W, jp_R, jp_Tx, jp_Sl, jp_Sc, jp_Si, jp_Sq, jp_Xl, jp_X0, jp_Xc, jp_Xs, jp_Xi, jp_Tos, jp_NB, jp_NC, kj_1, kj_2, kj_3, kj_4, jpA1, jpS1, jp_con, ju1_s, ju1_a, ju2_s, ju2_a, juA_s, juA_a, jux_s, jux_a, jux_x, jux_t, ju1_jB, ju2_jB, juA_jB, ju1_jC, ju2_jC, juA_jC, ju1_jT, ju2_jT, juA_jT, ju1_jb, ju2_jb, juA_jb, ju1_jd, ju2_jd, juA_jd, ju1_jt, ju2_jt, juA_jt, ju1_jx, ju2_jx, juA_jx, ju1_jw, ju2_jw, juA_jw, ju1_jr, ju2_jr, juA_jr, ju1_jn, ju2_jn, juA_jn, jux_jB, jux_jC, jux_jT, jux_jb, jux_jd, jux_jw, jux_jr, jux_jn, jG2, jP2, jG3, jP3, jG4, jP4, jG5, jP5, jG8, jP8, jG9, jP9, jG10, jP10, jG11, jP11, jG1, jP1, jG6, jP6, jG7, jP7, jG12, jP12, wj2, wk2, wn2, wj3, wk3, wn3, wj4, wk4, wn4, wj5, wk5, wn5, wj6, wk6, wn6, wj7, wk7, wn7, wj8, wk8, wn8, wj9, wk9, wn9, wj10, wk10, wn10, Nat.reduceEqDiff, reduceIte, false_and, true_and, and_true, and_self, if_false, if_true, and_false]
    refine c_isSize (by omega) (fun z1 => ?_) (fun z1 => ?_)
    · rw [if_neg (by decide)]
      refine ⟨by decide, c_isSize (by omega) (fun z2 => ?_) (fun z2 => ?_)⟩
      · rw [if_neg (by decide)]
        have n3 : ¬ bad3 R ki := fun q => by rcases q with q | q; exact q z1; exact q z2
        refine ⟨by decide, by omega, ?_⟩
        rcases hy with ⟨y1, y2⟩ | ⟨y1, y2⟩
        · rw [if_pos y1]
          have := r140 n3
          rw [y2] at this
          exact this
        · rw [if_neg y1, y2]
          exact r140 n3
      · rw [if_pos rfl]
        exact ⟨by decide, hf 3 J (Or.inr ⟨n1, Or.inr ⟨n2, Or.inl ⟨rfl, Or.inr z2⟩⟩⟩) (by decide) FrP.refl⟩
    · rw [if_pos rfl]
      exact ⟨by decide, hf 3 J (Or.inr ⟨n1, Or.inr ⟨n2, Or.inl ⟨rfl, Or.inl z1⟩⟩⟩) (by decide) FrP.refl⟩
  have r79 : ∀ y, (y = -1 ∧ R 27 ki = R 26 ki) ∨ (y ≠ -1 ∧ y = R 27 ki) → ¬ bad1 R ki → wp (G3_ofGroup_79 ki (R 31 ki) 0 (R 26 ki) y (R 29 ki) (R 30 ki)) Q J := by
    intro y hy n1
    have r109 := r109 y hy n1
    have b2 : bad2 R ki (gH R k) (gX R k) → Q 2 J := fun q => hf 2 J (Or.inr ⟨n1, Or.inl ⟨rfl, q⟩⟩) (by decide) FrP.refl
    have e70 := hD.2.2.2.1 70 (by decide) (by decide)
    have e7 := hD.2.1
    have h70 := a5 70
    unfold bad2 at b2 r109
    unfold G3_ofGroup_79
    simp only [wp_ib, wp_ig, wp_ite, jp_ret, jp_nz, jp_dI, jp_rI, jp_g9, jp_E, jpN1, jp_Bk, jp_Ck, jp_W, jp_R, jp_Tx, jp_Sl, jp_Sc, jp_Si, jp_Sq, jp_Xl, jp_X0, jp_Xc, jp_Xs, jp_Xi, jp_Tos, jp_NB, jp_NC, kj_1, kj_2, kj_3, kj_4, jpA1, jpS1, jp_con, ju1_s, ju1_a, ju2_s, ju2_a, juA_s, juA_a, jux_s, jux_a, jux_x, jux_t, ju1_jB, ju2_jB, juA_jB, ju1_jC, ju2_jC, juA_jC, ju1_jT, ju2_jT, juA_jT, ju1_jb, ju2_jb, juA_jb, ju1_jd, ju2_jd, juA_jd, ju1_jt, ju2_jt, juA_jt, ju1_jx, ju2_jx, juA_jx, ju1_jw, ju2_jw, juA_jw, ju1_jr, ju2_jr, juA_jr, ju1_jn, ju2_jn, juA_jn, jux_jB, jux_jC, jux_jT, jux_jb, jux_jd, jux_jw, jux_jr, jux_jn, jG2, jP2, jG3, jP3, jG4, jP4, jG5, jP5, jG8, jP8, jG9, jP9, jG10, jP10, jG11, jP11, jG1, jP1, jG6, jP6, jG7, jP7, jG12, jP12, wj2, wk2, wn2, wj3, wk3, wn3, wj4, wk4, wn4, wj5, wk5, wn5, wj6, wk6, wn6, wj7, wk7, wn7, wj8, wk8, wn8, wj9, wk9, wn9, wj10, wk10, wn10, Nat.reduceEqDiff, reduceIte, false_and, true_and, and_true, and_self, if_false, if_true, and_false]
    refine ⟨by omega, ?_⟩
    by_cases c1 : R 26 ki = 70
    · rw [if_pos c1, wp_ret (c_sizeOf hz (by decide)), if_pos (by decide), e70]
      refine ⟨hz, by omega, ?_⟩
      by_cases c2 : gX R k = 0
      · rw [if_pos (show gS R k 70 ≤ 0 by have := a3 c2; omega)]; exact r109 (by omega)
      · rw [if_neg (show ¬ gS R k 70 ≤ 0 by have := a3' c2; omega)]; exact b2 (by omega)
    · rw [if_neg c1, e7]
      refine ⟨hz, by omega, ?_⟩
      by_cases c2 : gH R k < R 26 ki
      · rw [if_pos c2]; exact r109 (by omega)
      · rw [if_neg c2]; exact b2 (by omega)
  have b1 : bad1 R ki → Q 1 J := fun q => hf 1 J (Or.inl ⟨rfl, q⟩) (by decide) FrP.refl
  unfold G3_ofGroup
  simp only [wp_ib, wp_ig, wp_ite, jp_ret, jp_nz, jp_dI, jp_rI, jp_g9, jp_E, jpN1, jp_Bk, jp_Ck, jp_W, jp_R, jp_Tx, jp_Sl, jp_Sc, jp_Si, jp_Sq, jp_Xl, jp_X0, jp_Xc, jp_Xs, jp_Xi, jp_Tos, jp_NB, jp_NC, kj_1, kj_2, kj_3, kj_4, jpA1, jpS1, jp_con, ju1_s, ju1_a, ju2_s, ju2_a, juA_s, juA_a, jux_s, jux_a, jux_x, jux_t, ju1_jB, ju2_jB, juA_jB, ju1_jC, ju2_jC, juA_jC, ju1_jT, ju2_jT, juA_jT, ju1_jb, ju2_jb, juA_jb, ju1_jd, ju2_jd, juA_jd, ju1_jt, ju2_jt, juA_jt, ju1_jx, ju2_jx, juA_jx, ju1_jw, ju2_jw, juA_jw, ju1_jr, ju2_jr, juA_jr, ju1_jn, ju2_jn, juA_jn, jux_jB, jux_jC, jux_jT, jux_jb, jux_jd, jux_jw, jux_jr, jux_jn, jG2, jP2, jG3, jP3, jG4, jP4, jG5, jP5, jG8, jP8, jG9, jP9, jG10, jP10, jG11, jP11, jG1, jP1, jG6, jP6, jG7, jP7, jG12, jP12, wj2, wk2, wn2, wj3, wk3, wn3, wj4, wk4, wn4, wj5, wk5, wn5, wj6, wk6, wn6, wj7, wk7, wn7, wj8, wk8, wn8, wj9, wk9, wn9, wj10, wk10, wn10, Nat.reduceEqDiff, reduceIte, false_and, true_and, and_true, and_self, if_false, if_true, and_false]
  rw [wp_ret g3, wp_ret g4, wp_ret g5, wp_ret g6]
  by_cases c0 : R 28 ki = 1
  · rw [if_pos c0]
    have r := r79 (R 27 ki) (Or.inr ⟨by omega, rfl⟩)
    unfold bad1 at b1 r
    refine ⟨by omega, ?_⟩
    rw [if_neg (show ¬ R 27 ki = -1 by omega)]
    refine ⟨by omega, ?_⟩
    by_cases c2 : R 26 ki = 0
    · rw [if_pos c2]; exact b1 (by omega)
    · rw [if_neg c2]
      by_cases c3 : R 27 ki = 70
      · rw [if_pos c3]; exact b1 (by omega)
      · rw [if_neg c3]
        by_cases c4 : R 26 ki < R 27 ki
        · rw [if_pos c4]; exact r (by omega)
        · rw [if_neg c4]; exact b1 (by omega)
  · rw [if_neg c0]
    refine ⟨by decide, ?_⟩
    rw [if_pos rfl]
    exact r79 (-1) (Or.inl ⟨rfl, by omega⟩) (fun q => c0 q.1)
end FLT9
