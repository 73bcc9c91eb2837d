/-! ===== both readers read groups ===== -/
section PR4
variable {T : Int → Int} {n : Int} {W : IS} {J : JS} {j : Nat} {g c : Int}
theorem b_changes (hT : byt T n) (hM : Mst W T n 1 j) (hJ : Cst J T n j) (hC : ChR W J c) (hj : 2 * c ≤ j) : ∃ W' v J', I12_readChanges W = some ((), W') ∧ G7_readsChangeList J = some (v, J') ∧ ((v = 1 ∧ ∃ j' c', FrC2 W W' ∧ FrD J J' ∧ Mst W' T n 1 j' ∧ Cst J' T n j' ∧ ChR W' J' c' ∧ 2 * c' ≤ j' ∧ c < c' ∧ j + 2 ≤ j') ∨ (v = 0 ∧ ∃ j', FrC2 W W' ∧ FrD J J' ∧ Mst W' T n 0 j' ∧ js J' 5 0 = tkP T n j')) := by
  have hc := hC.1.1
  have h := b_list hT (Q := fun W' v J' => (v = 1 ∧ ∃ j' c', FrC2 W W' ∧ FrD J J' ∧ Mst W' T n 1 j' ∧ Cst J' T n j' ∧ ChR W' J' c' ∧ 2 * c' ≤ j' ∧ c < c' ∧ j + 2 ≤ j') ∨ (v = 0 ∧ ∃ j', FrC2 W W' ∧ FrD J J' ∧ Mst W' T n 0 j' ∧ js J' 5 0 = tkP T n j')) (W0 := W) (J0 := J) (j0 := j) (c0 := c)
    (fun W' J' j' c' h1 h2 h3 h4 h5 h6 h7 h8 => Or.inl ⟨rfl, j', c', h1, h2, h3, h4, h5, h6, h7, h8⟩) (fun W' J' j' h1 h2 h3 h4 => Or.inr ⟨rfl, j', h1, h2, h3, h4⟩)
    121 W J j LFU LFU c 0 (by omega) (by unfold LFU; omega) (by unfold LFU; omega) (by omega) hc (Int.le_refl _) (Nat.le_refl _) FrC2.refl FrD.refl hM hJ hC hj
  have h' : wp I12_readChanges (fun _ W' => wp G7_readsChangeList (fun v J' => (v = 1 ∧ ∃ j' c', FrC2 W W' ∧ FrD J J' ∧ Mst W' T n 1 j' ∧ Cst J' T n j' ∧ ChR W' J' c' ∧ 2 * c' ≤ j' ∧ c < c' ∧ j + 2 ≤ j') ∨ (v = 0 ∧ ∃ j', FrC2 W W' ∧ FrD J J' ∧ Mst W' T n 0 j' ∧ js J' 5 0 = tkP T n j')) J) W := by
    unfold I12_readChanges G7_readsChangeList
    rw [wp_ib]
    exact h
  obtain ⟨u, W', e1, h1⟩ := wp_ex h'
  obtain ⟨v, J', e2, h2⟩ := wp_ex h1
  exact ⟨W', v, J', e1, e2, h2⟩
/-- the class reads a group's head -/
theorem c_head (hT : byt T n) (hg : 0 ≤ g ∧ g < 119) (hJ : Cst J T n j) (hl : js J 1 3 = g ∧ js J 1 4 = g ∧ js J 1 5 = g) {Q : Int → JS → Prop}
    (hs : ∀ J' j' f l r a b, rdH T n j = (j', some (f, l, r, a, b)) → j + 2 ≤ j' → FrQ J J' → Cst J' T n j' → js J' 4 0 = b → (js J' 1 3 = g + 1 ∧ js J' 1 4 = g + 1 ∧ js J' 1 5 = g + 1) → (∀ i, 6 ≤ i → i ≤ 11 → js J' 1 i = js J 1 i) → (∀ x, ja J' 1 3 x = if x = g then f else ja J 1 3 x) → (∀ x, ja J' 1 4 x = if x = g then (if r = 1 then l else -1) else ja J 1 4 x) → (∀ x, ja J' 1 5 x = if x = g then a else ja J 1 5 x) → (∀ i, 6 ≤ i → i ≤ 11 → ja J' 1 i = ja J 1 i) → ((0 ≤ f ∧ f ≤ 70) ∧ (0 ≤ l ∧ l ≤ 70) ∧ ((r = 0 ∧ l = f) ∨ r = 1) ∧ (0 ≤ a ∧ a ≤ 999) ∧ (0 ≤ b ∧ b ≤ 999)) → wp G7_readsGroup_117 Q J')
    (hf : ∀ J' j', rdH T n j = (j', none) → FrQ J J' → js J' 5 0 = tkP T n j' → Q 0 J') : wp G7_readsGroup Q J := by
  unfold rdH at hs hf
  obtain ⟨l3, l4, l5⟩ := hl
  unfold G7_readsGroup
  simp only [wp_ib, wp_ig, wp_ite, jp_ret, jp_nz, jp_dI, jp_rI, jp_g9, jp_E, jpN1, jp_Bk, jp_Ck, jp_W, jp_R, jp_Tx, jp_Sl, jp_Sc, jp_Si, jp_Sq, jp_Xl, jp_X0, jp_Xc, jp_Xs, jp_Xi, jp_Tos, jp_NB, jp_NC, kj_1, kj_2, kj_3, kj_4, jpA1, jpS1, jp_con, ju1_s, ju1_a, ju2_s, ju2_a, juA_s, juA_a, jux_s, jux_a, jux_x, jux_t, ju1_jB, ju2_jB, juA_jB, ju1_jC, ju2_jC, juA_jC, ju1_jT, ju2_jT, juA_jT, ju1_jb, ju2_jb, juA_jb, ju1_jd, ju2_jd, juA_jd, ju1_jt, ju2_jt, juA_jt, ju1_jx, ju2_jx, juA_jx, ju1_jw, ju2_jw, juA_jw, ju1_jr, ju2_jr, juA_jr, ju1_jn, ju2_jn, juA_jn, jux_jB, jux_jC, jux_jT, jux_jb, jux_jd, jux_jw, jux_jr, jux_jn, jG2, jP2, jG3, jP3, jG4, jP4, jG5, jP5, jG8, jP8, jG9, jP9, jG10, jP10, jG11, jP11, jG1, jP1, jG6, jP6, jG7, jP7, jG12, jP12, wj2, wk2, wn2, wj3, wk3, wn3, wj4, wk4, wn4, wj5, wk5, wn5, wj6, wk6, wn6, wj7, wk7, wn7, wj8, wk8, wn8, wj9, wk9, wn9, wj10, wk10, wn10, Nat.reduceEqDiff, reduceIte, false_and, true_and, and_true, and_self, if_false, if_true, and_false]
  refine c_takeV hT (by decide) hJ (fun k1 J1 e1 hJ1 => ?_) (fun k1 J1 e1 => ?_)
  · rw [if_neg (fun q => q k1)] at hs hf
    have hv1 := vl1 k1
    have hJ1 := hJ1 (by decide)
    have e14 : js J1 4 0 = vlP T n (tkP T n j) := by rw [e1]; rfl
    have e13 : js J1 1 3 = g := by rw [e1]; exact l3
    rw [if_neg (by decide), e14]
    refine ⟨by decide, c_addV (by omega) (by omega) (by omega) fun J3 e3 => ?_⟩
    have hJ3 : Cst J3 T n (j + 1) := by rw [e3]; exact hJ1.f (FrQ.add (by omega)) rfl
    have hQ3 : FrQ J J3 := by rw [e3, e1]; exact ((FrQ.u (by omega)).trans (FrQ.u (by omega))).trans (FrQ.add (by omega))
    have s3 : js J3 1 3 = g + 1 ∧ ∀ i, 4 ≤ i → i ≤ 11 → js J3 1 i = js J 1 i := by
      refine ⟨by rw [e3]; show js J1 1 3 + 1 = g + 1; omega, fun i q1 q2 => ?_⟩
      rw [e3, addR_s, if_neg (by omega), e1, ju1_s, if_neg (by omega), ju1_s, if_neg (by omega)]
    have a3 : (∀ x, ja J3 1 3 x = if x = g then vlP T n (tkP T n j) else ja J 1 3 x) ∧ ∀ i, 4 ≤ i → i ≤ 11 → ja J3 1 i = ja J 1 i := by
      refine ⟨fun x => ?_, fun i q1 q2 => ?_⟩
      · rw [e3, addR_a, e13, e1]
        simp only [true_and]
        rfl
      · funext x
        rw [e3, addR_a, if_neg (by omega), e1]
        rfl
    -- behind the signs
    have rest : ∀ (r l y : Int) (J5 : JS) (j5 : Nat), j + 1 ≤ j5 → (r = 0 ∨ r = 1) → y = (if r = 1 then l else -1) → FrQ J J5 → Cst J5 T n j5 → (js J5 1 3 = g + 1 ∧ ∀ i, 4 ≤ i → i ≤ 11 → js J5 1 i = js J 1 i) → ((∀ x, ja J5 1 3 x = if x = g then vlP T n (tkP T n j) else ja J 1 3 x) ∧ ∀ i, 4 ≤ i → i ≤ 11 → ja J5 1 i = ja J 1 i) →
        (∀ J' j' a b, (kdP T n (tkP T n j5) = 2 ∧ a = vlP T n (tkP T n j5) ∧ ((r = 1 ∧ kdP T n (tkP T n (j5 + 1)) = 44 ∧ kdP T n (tkP T n (j5 + 2)) = 2 ∧ j' = j5 + 3 ∧ b = vlP T n (tkP T n (j5 + 2))) ∨ ((r = 0 ∨ kdP T n (tkP T n (j5 + 1)) ≠ 44) ∧ j' = j5 + 1 ∧ b = a))) → FrQ J J' → Cst J' T n j' → js J' 4 0 = b → (js J' 1 3 = g + 1 ∧ js J' 1 4 = g + 1 ∧ js J' 1 5 = g + 1) → (∀ i, 6 ≤ i → i ≤ 11 → js J' 1 i = js J 1 i) → (∀ x, ja J' 1 3 x = if x = g then vlP T n (tkP T n j) else ja J 1 3 x) → (∀ x, ja J' 1 4 x = if x = g then y else ja J 1 4 x) → (∀ x, ja J' 1 5 x = if x = g then a else ja J 1 5 x) → (∀ i, 6 ≤ i → i ≤ 11 → ja J' 1 i = ja J 1 i) → ((0 ≤ a ∧ a ≤ 999) ∧ (0 ≤ b ∧ b ≤ 999)) → wp G7_readsGroup_117 Q J') →
        (∀ J' j', (kdP T n (tkP T n j5) ≠ 2 ∧ j' = j5) ∨ (kdP T n (tkP T n j5) = 2 ∧ r = 1 ∧ kdP T n (tkP T n (j5 + 1)) = 44 ∧ kdP T n (tkP T n (j5 + 2)) ≠ 2 ∧ j' = j5 + 2) → FrQ J J' → js J' 5 0 = tkP T n j' → Q 0 J') → wp (G7_readsGroup_65 r y 4) Q J5 := by
      intro r l y J5 j5 hj5 hr hy hQ5 hJ5 s5 a5 hs5 hf5
      have m4 : js J5 1 4 = g := by rw [s5.2 4 (by omega) (by omega)]; exact l4
      have m5 : js J5 1 5 = g := by rw [s5.2 5 (by omega) (by omega)]; exact l5
      unfold G7_readsGroup_65
      simp only [wp_ib, wp_ig, wp_ite, jp_ret, jp_nz, jp_dI, jp_rI, jp_g9, jp_E, jpN1, jp_Bk, jp_Ck, jp_W, jp_R, jp_Tx, jp_Sl, jp_Sc, jp_Si, jp_Sq, jp_Xl, jp_X0, jp_Xc, jp_Xs, jp_Xi, jp_Tos, jp_NB, jp_NC, kj_1, kj_2, kj_3, kj_4, jpA1, jpS1, jp_con, ju1_s, ju1_a, ju2_s, ju2_a, juA_s, juA_a, jux_s, jux_a, jux_x, jux_t, ju1_jB, ju2_jB, juA_jB, ju1_jC, ju2_jC, juA_jC, ju1_jT, ju2_jT, juA_jT, ju1_jb, ju2_jb, juA_jb, ju1_jd, ju2_jd, juA_jd, ju1_jt, ju2_jt, juA_jt, ju1_jx, ju2_jx, juA_jx, ju1_jw, ju2_jw, juA_jw, ju1_jr, ju2_jr, juA_jr, ju1_jn, ju2_jn, juA_jn, jux_jB, jux_jC, jux_jT, jux_jb, jux_jd, jux_jw, jux_jr, jux_jn, jG2, jP2, jG3, jP3, jG4, jP4, jG5, jP5, jG8, jP8, jG9, jP9, jG10, jP10, jG11, jP11, jG1, jP1, jG6, jP6, jG7, jP7, jG12, jP12, wj2, wk2, wn2, wj3, wk3, wn3, wj4, wk4, wn4, wj5, wk5, wn5, wj6, wk6, wn6, wj7, wk7, wn7, wj8, wk8, wn8, wj9, wk9, wn9, wj10, wk10, wn10, Nat.reduceEqDiff, reduceIte, false_and, true_and, and_true, and_self, if_false, if_true, and_false]
      refine ⟨by omega, c_addV (by omega) (by omega) (by omega) fun J6 e6 => ?_⟩
      have hJ6 : Cst J6 T n j5 := by rw [e6]; exact hJ5.f (FrQ.add (by omega)) rfl
      refine c_takeV hT (by decide) hJ6 (fun k2 J7 e7 hJ7 => ?_) (fun k2 J7 e7 => ?_)
      · have hv2 := vl2 hT (tkP_bd (T := T) (n := n) hT.1.1 j5).1 k2
        have hJ7 := hJ7 (by decide)
        have e74 : js J7 4 0 = vlP T n (tkP T n j5) := by rw [e7]; rfl
        have e75 : js J7 1 5 = g := by rw [e7, e6]; exact m5
        rw [if_neg (by decide), e74]
        refine ⟨by decide, c_addV (by omega) (by omega) (by omega) fun J8 e8 => ⟨by omega, ?_⟩⟩
        have hJ8 : Cst J8 T n (j5 + 1) := by rw [e8]; exact hJ7.f (FrQ.add (by omega)) rfl
        have hQ8 : FrQ J J8 := by rw [e8, e7, e6]; exact hQ5.trans ((FrQ.add (by omega)).trans (((FrQ.u (by omega)).trans (FrQ.u (by omega))).trans (FrQ.add (by omega))))
        have e84 : js J8 4 0 = vlP T n (tkP T n j5) := by rw [e8]; exact e74
        have s8 : (js J8 1 3 = g + 1 ∧ js J8 1 4 = g + 1 ∧ js J8 1 5 = g + 1) ∧ ∀ i, 6 ≤ i → i ≤ 11 → js J8 1 i = js J 1 i := by
          refine ⟨⟨?_, ?_, ?_⟩, fun i q1 q2 => ?_⟩
          · rw [e8, e7, e6]; exact s5.1
          · rw [e8, e7, e6]; show js J5 1 4 + 1 = g + 1; omega
          · rw [e8]; show js J7 1 5 + 1 = g + 1; omega
          · rw [e8, addR_s, if_neg (by omega), e7, ju1_s, if_neg (by omega), ju1_s, if_neg (by omega), e6, addR_s, if_neg (by omega)]
            exact s5.2 i (by omega) q2
        have a8 : (∀ x, ja J8 1 3 x = if x = g then vlP T n (tkP T n j) else ja J 1 3 x) ∧ (∀ x, ja J8 1 4 x = if x = g then y else ja J 1 4 x) ∧ (∀ x, ja J8 1 5 x = if x = g then vlP T n (tkP T n j5) else ja J 1 5 x) ∧ ∀ i, 6 ≤ i → i ≤ 11 → ja J8 1 i = ja J 1 i := by
          refine ⟨fun x => ?_, fun x => ?_, fun x => ?_, fun i q1 q2 => ?_⟩
          · rw [e8, addR_a, if_neg (by omega), e7]
            show ja J6 1 3 x = _
            rw [e6, addR_a, if_neg (by omega)]
            exact a5.1 x
          · rw [e8, addR_a, if_neg (by omega), e7]
            show ja J6 1 4 x = _
            rw [e6, addR_a, m4, a5.2 4 (by omega) (by omega)]
            simp only [true_and]
          · rw [e8, addR_a, e75, e7]
            simp only [true_and]
            show (if x = g then _ else ja J6 1 5 x) = _
            rw [e6, addR_a, if_neg (c := (1 : Nat) = 1 ∧ (5 : Nat) = 4 ∧ x = js J5 1 4) (by omega), a5.2 5 (by omega) (by omega)]
          · funext x
            rw [e8, addR_a, if_neg (by omega), e7]
            show ja J6 1 i x = _
            rw [e6, addR_a, if_neg (by omega), a5.2 i (by omega) q2]
        by_cases cr : r = 0
        · rw [if_pos cr]
          exact hs5 J8 (j5 + 1) _ _ ⟨k2, rfl, Or.inr ⟨Or.inl cr, rfl, rfl⟩⟩ hQ8 hJ8 e84 s8.1 s8.2 a8.1 a8.2.1 a8.2.2.1 a8.2.2.2 ⟨hv2, hv2⟩
        · rw [if_neg cr]
          refine c_skipV hT (by decide) hJ8 (fun k3 J9 e9 hJ9 => ?_) (fun k3 => ?_)
          · rw [if_neg (by decide)]
            have hJ9 := hJ9 (by decide)
            refine ⟨by decide, c_takeV hT (by decide) hJ9 (fun k4 JA eA hJA => ?_) (fun k4 JA eA => ?_)⟩
            · have hv4 := vl2 hT (tkP_bd (T := T) (n := n) hT.1.1 (j5 + 1 + 1)).1 k4
              rw [if_neg (by decide)]
              refine ⟨by decide, hs5 JA (j5 + 3) _ (vlP T n (tkP T n (j5 + 2))) ⟨k2, rfl, Or.inl ⟨by omega, k3, k4, rfl, rfl⟩⟩ (by rw [eA, e9]; exact hQ8.trans ((FrQ.u (by omega)).trans ((FrQ.u (by omega)).trans (FrQ.u (by omega))))) (hJA (by decide)) (by rw [eA]; rfl) (by rw [eA, e9]; exact s8.1) (fun i q1 q2 => ?_) (by rw [eA, e9]; exact a8.1) (by rw [eA, e9]; exact a8.2.1) (by rw [eA, e9]; exact a8.2.2.1) (by rw [eA, e9]; exact a8.2.2.2) ⟨hv2, hv4⟩⟩
              rw [eA, ju1_s, if_neg (by omega), ju1_s, if_neg (by omega), e9, ju1_s, if_neg (by omega)]
              exact s8.2 i q1 q2
            · rw [if_pos rfl]
              exact ⟨by decide, hf5 JA (j5 + 2) (Or.inr ⟨k2, by omega, k3, k4, rfl⟩) (by rw [eA, e9]; exact hQ8.trans ((FrQ.u (by omega)).trans (FrQ.u (by omega)))) (by rw [eA]; rfl)⟩
          · rw [if_pos rfl]
            exact ⟨by decide, hs5 J8 (j5 + 1) _ _ ⟨k2, rfl, Or.inr ⟨Or.inr k3, rfl, rfl⟩⟩ hQ8 hJ8 e84 s8.1 s8.2 a8.1 a8.2.1 a8.2.2.1 a8.2.2.2 ⟨hv2, hv2⟩⟩
      · rw [if_pos rfl]
        exact ⟨by decide, hf5 J7 j5 (Or.inl ⟨k2, rfl⟩) (by rw [e7, e6]; exact hQ5.trans ((FrQ.add (by omega)).trans (FrQ.u (by omega)))) (by rw [e7]; rfl)⟩
    refine c_skipV hT (by decide) hJ3 (fun k2 J4 e4 hJ4 => ?_) (fun k2 => ?_)
    · rw [if_pos k2] at hs hf
      rw [if_neg (by decide)]
      have hJ4 := hJ4 (by decide)
      refine ⟨by decide, c_takeV hT (by decide) hJ4 (fun k3 J5 e5 hJ5 => ?_) (fun k3 J5 e5 => ?_)⟩
      · rw [if_neg (fun q => q k3)] at hs hf
        have hv3 := vl1 k3
        have hJ5 := hJ5 (by decide)
        rw [if_neg (by decide)]
        unfold G7_readsGroup_46
        simp only [wp_ib, wp_ig, wp_ite, jp_ret, jp_nz, jp_dI, jp_rI, jp_g9, jp_E, jpN1, jp_Bk, jp_Ck, jp_W, jp_R, jp_Tx, jp_Sl, jp_Sc, jp_Si, jp_Sq, jp_Xl, jp_X0, jp_Xc, jp_Xs, jp_Xi, jp_Tos, jp_NB, jp_NC, kj_1, kj_2, kj_3, kj_4, jpA1, jpS1, jp_con, ju1_s, ju1_a, ju2_s, ju2_a, juA_s, juA_a, jux_s, jux_a, jux_x, jux_t, ju1_jB, ju2_jB, juA_jB, ju1_jC, ju2_jC, juA_jC, ju1_jT, ju2_jT, juA_jT, ju1_jb, ju2_jb, juA_jb, ju1_jd, ju2_jd, juA_jd, ju1_jt, ju2_jt, juA_jt, ju1_jx, ju2_jx, juA_jx, ju1_jw, ju2_jw, juA_jw, ju1_jr, ju2_jr, juA_jr, ju1_jn, ju2_jn, juA_jn, jux_jB, jux_jC, jux_jT, jux_jb, jux_jd, jux_jw, jux_jr, jux_jn, jG2, jP2, jG3, jP3, jG4, jP4, jG5, jP5, jG8, jP8, jG9, jP9, jG10, jP10, jG11, jP11, jG1, jP1, jG6, jP6, jG7, jP7, jG12, jP12, wj2, wk2, wn2, wj3, wk3, wn3, wj4, wk4, wn4, wj5, wk5, wn5, wj6, wk6, wn6, wj7, wk7, wn7, wj8, wk8, wn8, wj9, wk9, wn9, wj10, wk10, wn10, Nat.reduceEqDiff, reduceIte, false_and, true_and, and_true, and_self, if_false, if_true, and_false]
        rw [if_neg (by decide)]
        have e54 : js J5 4 0 = vlP T n (tkP T n (j + 2)) := by rw [e5]; rfl
        rw [e54]
        refine ⟨by decide, by decide, rest 1 (vlP T n (tkP T n (j + 2))) _ J5 (j + 3) (by omega) (Or.inr rfl) (by rw [if_pos rfl]) (by rw [e5, e4]; exact hQ3.trans ((FrQ.u (by omega)).trans ((FrQ.u (by omega)).trans (FrQ.u (by omega))))) hJ5 ⟨by rw [e5, e4]; exact s3.1, fun i q1 q2 => ?_⟩ (by rw [e5, e4]; exact a3) (fun J' j' a b hh q1 q2 q3 q4 q5 q6 q7 q8 q9 q10 => ?_) (fun J' j' hh q1 q2 => ?_)⟩
        · rw [e5, ju1_s, if_neg (by omega), ju1_s, if_neg (by omega), e4, ju1_s, if_neg (by omega)]
          exact s3.2 i q1 q2
        · obtain ⟨h1, h2, h3⟩ := hh
          rw [if_neg (fun q => q h1)] at hs
          rcases h3 with ⟨_, h4, h5, h6, h7⟩ | ⟨h4, h5, h6⟩
          · rw [if_pos h4, if_neg (fun q => q h5)] at hs
            subst h6
            subst h7
            subst h2
            exact hs J' _ _ _ _ _ _ rfl (by omega) q1 q2 q3 q4 q5 q6 (by intro x; rw [if_pos rfl]; exact q7 x) q8 q9 ⟨hv1, hv3, Or.inr rfl, q10⟩
          · have h4' : kdP T n (tkP T n (j + 4)) ≠ 44 := by
              rcases h4 with h4 | h4
              · omega
              · exact h4
            rw [if_neg h4'] at hs
            subst h5
            subst h6
            subst h2
            exact hs J' _ _ _ _ _ _ rfl (by omega) q1 q2 q3 q4 q5 q6 (by intro x; rw [if_pos rfl]; exact q7 x) q8 q9 ⟨hv1, hv3, Or.inr rfl, q10⟩
        · rcases hh with ⟨h1, h2⟩ | ⟨h1, _, h2, h3, h4⟩
          · rw [if_pos h1] at hf
            subst h2
            exact hf J' _ rfl q1 q2
          · rw [if_neg (fun q => q h1), if_pos h2, if_pos h3] at hf
            subst h4
            exact hf J' _ rfl q1 q2
      · rw [if_pos k3] at hf
        rw [if_pos rfl]
        exact ⟨by decide, hf J5 _ rfl (by rw [e5, e4]; exact hQ3.trans ((FrQ.u (by omega)).trans (FrQ.u (by omega)))) (by rw [e5]; rfl)⟩
    · rw [if_neg k2] at hs hf
      rw [if_pos rfl]
      unfold G7_readsGroup_46
      simp only [wp_ib, wp_ig, wp_ite, jp_ret, jp_nz, jp_dI, jp_rI, jp_g9, jp_E, jpN1, jp_Bk, jp_Ck, jp_W, jp_R, jp_Tx, jp_Sl, jp_Sc, jp_Si, jp_Sq, jp_Xl, jp_X0, jp_Xc, jp_Xs, jp_Xi, jp_Tos, jp_NB, jp_NC, kj_1, kj_2, kj_3, kj_4, jpA1, jpS1, jp_con, ju1_s, ju1_a, ju2_s, ju2_a, juA_s, juA_a, jux_s, jux_a, jux_x, jux_t, ju1_jB, ju2_jB, juA_jB, ju1_jC, ju2_jC, juA_jC, ju1_jT, ju2_jT, juA_jT, ju1_jb, ju2_jb, juA_jb, ju1_jd, ju2_jd, juA_jd, ju1_jt, ju2_jt, juA_jt, ju1_jx, ju2_jx, juA_jx, ju1_jw, ju2_jw, juA_jw, ju1_jr, ju2_jr, juA_jr, ju1_jn, ju2_jn, juA_jn, jux_jB, jux_jC, jux_jT, jux_jb, jux_jd, jux_jw, jux_jr, jux_jn, jG2, jP2, jG3, jP3, jG4, jP4, jG5, jP5, jG8, jP8, jG9, jP9, jG10, jP10, jG11, jP11, jG1, jP1, jG6, jP6, jG7, jP7, jG12, jP12, wj2, wk2, wn2, wj3, wk3, wn3, wj4, wk4, wn4, wj5, wk5, wn5, wj6, wk6, wn6, wj7, wk7, wn7, wj8, wk8, wn8, wj9, wk9, wn9, wj10, wk10, wn10, Nat.reduceEqDiff, reduceIte, false_and, true_and, and_true, and_self, if_false, if_true, and_false]
      refine ⟨by decide, by decide, ?_⟩
      refine rest 0 0 (-1) J3 (j + 1) (by omega) (Or.inl rfl) (by rw [if_neg (by decide)]) hQ3 hJ3 s3 a3 (fun J' j' a b hh q1 q2 q3 q4 q5 q6 q7 q8 q9 q10 => ?_) (fun J' j' hh q1 q2 => ?_)
      · obtain ⟨h1, h2, h3⟩ := hh
        rw [if_neg (fun q => q h1)] at hs
        rcases h3 with ⟨h4, _⟩ | ⟨_, h5, h6⟩
        · omega
        · subst h5
          subst h6
          subst h2
          exact hs J' _ _ _ _ _ _ rfl (by omega) q1 q2 q3 q4 q5 q6 (by intro x; rw [if_neg (show ¬ (0 : Int) = 1 by decide)]; exact q7 x) q8 q9 ⟨hv1, hv1, Or.inl ⟨rfl, rfl⟩, q10⟩
      · rcases hh with ⟨h1, h2⟩ | ⟨h1, h0, h2, h3, h4⟩
        · rw [if_pos h1] at hf
          subst h2
          exact hf J' _ rfl q1 q2
        · omega
  · rw [if_pos k1] at hf
    rw [if_pos rfl]
    exact ⟨by decide, hf J1 _ rfl (by rw [e1]; exact FrQ.u (by omega)) (by rw [e1]; rfl)⟩
end PR4
