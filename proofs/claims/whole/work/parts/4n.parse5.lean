/-! ===== both readers read groups, a formula ===== -/
def GrR (W : IS) (J : JS) (g c : Int) : Prop := (0 ≤ g ∧ W.1 24 = g ∧ js J 1 3 = g ∧ js J 1 4 = g ∧ js J 1 5 = g ∧ js J 1 6 = g ∧ js J 1 7 = g) ∧ (∀ i, 0 ≤ i → i < g → (ja J 1 3 i = W.2 26 i ∧ ja J 1 4 i = (if W.2 28 i = 1 then W.2 27 i else -1) ∧ ja J 1 5 i = W.2 29 i ∧ ja J 1 6 i = W.2 30 i ∧ ja J 1 7 i = W.2 31 (i + 1)) ∧ (0 ≤ W.2 26 i ∧ W.2 26 i ≤ 70) ∧ (0 ≤ W.2 27 i ∧ W.2 27 i ≤ 70) ∧ ((W.2 28 i = 0 ∧ W.2 27 i = W.2 26 i) ∨ W.2 28 i = 1) ∧ (0 ≤ W.2 29 i ∧ W.2 29 i ≤ 999) ∧ (0 ≤ W.2 30 i ∧ W.2 30 i ≤ 999) ∧ 0 ≤ W.2 31 i ∧ W.2 31 i ≤ W.2 31 (i + 1) ∧ W.2 31 (i + 1) ≤ c) ∧ W.2 31 0 = 0 ∧ W.2 31 g = c
section PR5
variable {T : Int → Int} {n : Int} {W : IS} {J : JS} {j : Nat} {g c : Int}
theorem m_125 (h : 0 ≤ W.1 24 ∧ W.1 24 < 120) : I12_readGroup_125 W = some ((), iu2 (iu1 W 24 (W.1 24 + 1)) 31 (W.1 24 + 1) (W.1 25)) := by
  refine wp_eq ?_
  unfold I12_readGroup_125
  simp only [wp_ib, wp_ig, wp_ite, wp_ir, wp_igI, wp_ipI, wp_ipZ, wp_inz, wp_idI, wp_irI, wp_iSl, wp_iSc, wp_iSi, iu1_1, iu1_2, iu2_1, iu2_2, wA0, wS0, wA6, wS6, wA7, wS7, wA8, wS8, wA9, wS9, wA10, wS10, wA11, wS11, wA12, wS12, wA13, wS13, wA14, wS14, wA16, wS16, wA17, wS17, wA18, wS18, wA26, wS26, wA27, wS27, wZ28, wY28, wA29, wS29, wA30, wS30, wA31, wS31, wA32, wS32, wA33, wS33, wA34, wS34, wA35, wS35, wA36, wS36, wA38, wS38, wA39, wS39, wA40, wS40, wZ41, wY41, wA45, wS45, wA46, wS46, wZ47, wY47, wZ48, wY48, Nat.reduceEqDiff, reduceIte, false_and, true_and, and_true, and_self, if_false, if_true, and_false]
  exact ⟨by omega, rfl⟩
theorem c_159 (h9 : js J 1 9 = c) (h7 : 0 ≤ js J 1 7 ∧ js J 1 7 < 121) : G7_readsGroup_159 J = some (1, addR J 7 c) := by
  refine wp_eq ?_
  unfold G7_readsGroup_159 G5_amount
  simp only [wp_ib, wp_ig, wp_ite, jp_ret, jp_nz, jp_dI, jp_rI, jp_g9, jp_E, jpN1, jp_Bk, jp_Ck, jp_W, jp_R, jp_Tx, jp_Sl, jp_Sc, jp_Si, jp_Sq, jp_Xl, jp_X0, jp_Xc, jp_Xs, jp_Xi, jp_Tos, jp_NB, jp_NC, kj_1, kj_2, kj_3, kj_4, jpA1, jpS1, jp_con, ju1_s, ju1_a, ju2_s, ju2_a, juA_s, juA_a, jux_s, jux_a, jux_x, jux_t, ju1_jB, ju2_jB, juA_jB, ju1_jC, ju2_jC, juA_jC, ju1_jT, ju2_jT, juA_jT, ju1_jb, ju2_jb, juA_jb, ju1_jd, ju2_jd, juA_jd, ju1_jt, ju2_jt, juA_jt, ju1_jx, ju2_jx, juA_jx, ju1_jw, ju2_jw, juA_jw, ju1_jr, ju2_jr, juA_jr, ju1_jn, ju2_jn, juA_jn, jux_jB, jux_jC, jux_jT, jux_jb, jux_jd, jux_jw, jux_jr, jux_jn, jG2, jP2, jG3, jP3, jG4, jP4, jG5, jP5, jG8, jP8, jG9, jP9, jG10, jP10, jG11, jP11, jG1, jP1, jG6, jP6, jG7, jP7, jG12, jP12, wj2, wk2, wn2, wj3, wk3, wn3, wj4, wk4, wn4, wj5, wk5, wn5, wj6, wk6, wn6, wj7, wk7, wn7, wj8, wk8, wn8, wj9, wk9, wn9, wj10, wk10, wn10, Nat.reduceEqDiff, reduceIte, false_and, true_and, and_true, and_self, if_false, if_true, and_false]
  rw [h9]
  exact ⟨by omega, c_addV (by omega) h7.1 h7.2 fun J' e => ⟨rfl, e⟩⟩
theorem b_group (hT : byt T n) (hM : Mst W T n 1 j) (hJ : Cst J T n j) (hG : GrR W J g c) (hC : ChR W J c) (hg : 2 * g ≤ j) (hc : 2 * c ≤ j) : ∃ W' v J', I12_readGroup W = some ((), W') ∧ G7_readsGroup J = some (v, J') ∧ FrG W W' ∧ FrQ J J' ∧ ((v = 1 ∧ ∃ j' c', Mst W' T n 1 j' ∧ Cst J' T n j' ∧ GrR W' J' (g + 1) c' ∧ ChR W' J' c' ∧ 2 * (g + 1) ≤ j' ∧ 2 * c' ≤ j' ∧ j + 2 ≤ j') ∨ (v = 0 ∧ ∃ j', Mst W' T n 0 j' ∧ js J' 5 0 = tkP T n j')) := by
  have hj120 := (Cst.le hT hJ).1
  obtain ⟨⟨g0, g24, g3, g4, g5, g6, g7⟩, gg, g310, g31g⟩ := hG
  have hc0 := hC.1.1
  have key : wp I12_readGroup (fun _ W' => wp G7_readsGroup (fun v J' => FrG W W' ∧ FrQ J J' ∧ ((v = 1 ∧ ∃ j' c', Mst W' T n 1 j' ∧ Cst J' T n j' ∧ GrR W' J' (g + 1) c' ∧ ChR W' J' c' ∧ 2 * (g + 1) ≤ j' ∧ 2 * c' ≤ j' ∧ j + 2 ≤ j') ∨ (v = 0 ∧ ∃ j', Mst W' T n 0 j' ∧ js J' 5 0 = tkP T n j'))) J) W := by
    refine m_head hT ⟨g0, by omega⟩ hM g24 (fun W1 j1 f l r a b hr hF1 hM1 h241 h251 A26 A27 A28 A29 Ar => ?_) (fun W' j' hr hF hM' => ?_)
    · refine wp_comm (c_head hT ⟨g0, by omega⟩ hJ ⟨g3, g4, g5⟩ (fun J1 j1' f' l' r' a' b' hr' hj1 hQ1 hJ1 h4 s1 s1' B3 B4 B5 Br rg => ?_) (fun J' j'' hr' _ _ => by rw [hr] at hr'; cases hr'))
      rw [hr] at hr'
      cases hr'
      -- both ends, all being right
      have tl : ∀ (W3 : IS) (J3 : JS) (j3 : Nat) (c3 : Int), FrG W W3 → FrQ J J3 → Mst W3 T n 1 j3 → Cst J3 T n j3 → ChR W3 J3 c3 → 2 * c3 ≤ j3 → c ≤ c3 → j + 2 ≤ j3 → W3.1 24 = g → ((∀ i, W3.2 26 i = if i = g then f else W.2 26 i) ∧ (∀ i, W3.2 27 i = if i = g then l else W.2 27 i) ∧ (∀ i, W3.2 28 i = if i = g then r else W.2 28 i) ∧ (∀ i, W3.2 29 i = if i = g then a else W.2 29 i) ∧ (∀ i, W3.2 30 i = if i = g then b else W.2 30 i) ∧ W3.2 31 = W.2 31) → ((js J3 1 3 = g + 1 ∧ js J3 1 4 = g + 1 ∧ js J3 1 5 = g + 1) ∧ js J3 1 6 = g + 1 ∧ js J3 1 7 = g) → ((∀ x, ja J3 1 3 x = if x = g then f else ja J 1 3 x) ∧ (∀ x, ja J3 1 4 x = if x = g then (if r = 1 then l else -1) else ja J 1 4 x) ∧ (∀ x, ja J3 1 5 x = if x = g then a else ja J 1 5 x) ∧ (∀ x, ja J3 1 6 x = if x = g then b else ja J 1 6 x) ∧ ja J3 1 7 = ja J 1 7) →
          wp I12_readGroup_125 (fun _ W' => wp G7_readsGroup_159 (fun v J' => FrG W W' ∧ FrQ J J' ∧ ((v = 1 ∧ ∃ j' c', Mst W' T n 1 j' ∧ Cst J' T n j' ∧ GrR W' J' (g + 1) c' ∧ ChR W' J' c' ∧ 2 * (g + 1) ≤ j' ∧ 2 * c' ≤ j' ∧ j + 2 ≤ j') ∨ (v = 0 ∧ ∃ j', Mst W' T n 0 j' ∧ js J' 5 0 = tkP T n j'))) J3) W3 := by
        intro W3 J3 j3 c3 hF3 hQ3 hM3 hJ3 hC3 hc3 hcc hj3 h243 AA ss BB
        have h25 : W3.1 25 = c3 := hC3.1.2.1
        rw [wp_ret (m_125 (by omega)), wp_ret (c_159 (c := c3) hC3.1.2.2.2.1 (by omega))]
        refine ⟨hF3.trans ((FrG.m (by omega)).trans (FrG.a (by omega))), hQ3.trans (FrQ.add (by omega)), Or.inl ⟨rfl, j3, c3, (hM3.m (by omega)).a (by decide), hJ3.f (FrQ.add (by omega)) rfl, ⟨⟨by omega, ?_, ?_, ?_, ?_, ?_, ?_⟩, fun i i0 i1 => ?_, ?_, ?_⟩, hC3.fr rfl (fun k q1 q2 => by funext x; rw [iu2_2, if_neg (by omega)]; rfl) (fun i q1 q2 => by rw [addR_s, if_neg (by omega)]) (fun i q1 q2 => by funext x; rw [addR_a, if_neg (by omega)]), by omega, hc3, hj3⟩⟩
        · show W3.1 24 + 1 = g + 1; omega
        · exact ss.1.1
        · exact ss.1.2.1
        · exact ss.1.2.2
        · exact ss.2.1
        · show js J3 1 7 + 1 = g + 1; omega
        · have e31 : ∀ q, q ≠ g + 1 → (iu2 (iu1 W3 24 (W3.1 24 + 1)) 31 (W3.1 24 + 1) (W3.1 25)).2 31 q = W.2 31 q := fun q hq => by
            rw [iu2_2, if_neg (by omega)]
            show W3.2 31 q = _
            rw [AA.2.2.2.2.2]
          have e31g : (iu2 (iu1 W3 24 (W3.1 24 + 1)) 31 (W3.1 24 + 1) (W3.1 25)).2 31 (g + 1) = c3 := by rw [iu2_2, if_pos ⟨rfl, by omega⟩, h25]
          have eo : ∀ k q, k ≠ 31 → (iu2 (iu1 W3 24 (W3.1 24 + 1)) 31 (W3.1 24 + 1) (W3.1 25)).2 k q = W3.2 k q := fun k q hk => by
            rw [iu2_2, if_neg (by omega)]
            rfl
          have f7 : ∀ x, ja (addR J3 7 c3) 1 7 x = if x = g then c3 else ja J 1 7 x := fun x => by
            rw [addR_a, ss.2.2, BB.2.2.2.2]
            simp only [true_and]
          have fo : ∀ k x, k ≠ 7 → ja (addR J3 7 c3) 1 k x = ja J3 1 k x := fun k x hk => by rw [addR_a, if_neg (by omega)]
          rw [fo 3 i (by decide), fo 4 i (by decide), fo 5 i (by decide), fo 6 i (by decide), f7, eo 26 i (by decide), eo 27 i (by decide), eo 28 i (by decide), eo 29 i (by decide), eo 30 i (by decide), BB.1, BB.2.1, BB.2.2.1, BB.2.2.2.1, AA.1, AA.2.1, AA.2.2.1, AA.2.2.2.1, AA.2.2.2.2.1]
          by_cases e : i = g
          · simp only [e, if_true]
            rw [e31g, e31 g (by omega), g31g]
            exact ⟨⟨trivial, trivial, trivial, trivial, trivial⟩, rg.1, rg.2.1, rg.2.2.1, rg.2.2.2.1, rg.2.2.2.2, hc0, hcc, Int.le_refl _⟩
          · simp only [e, if_false]
            have hh := gg i i0 (by omega)
            rw [e31 i (by omega), e31 (i + 1) (by omega)]
            exact ⟨hh.1, hh.2.1, hh.2.2.1, hh.2.2.2.1, hh.2.2.2.2.1, hh.2.2.2.2.2.1, hh.2.2.2.2.2.2.1, hh.2.2.2.2.2.2.2.1, by omega⟩
        · rw [iu2_2, if_neg (by omega)]
          show W3.2 31 0 = 0
          rw [AA.2.2.2.2.2]
          exact g310
        · rw [iu2_2, if_pos ⟨rfl, by omega⟩, h25]
      -- the model before the changes
      have hM1' : Mst (iu2 W1 30 g b) T n 1 j1 := hM1.a (by decide)
      have hF1' : FrG W (iu2 W1 30 g b) := hF1.trans (FrG.a (by omega))
      have A30 : ∀ i, (iu2 W1 30 g b).2 30 i = if i = g then b else W.2 30 i := fun i => by
        rw [iu2_2, Ar 30 (by omega) (by omega)]
        simp only [true_and]
      have Ao : ∀ k, k ≠ 30 → (iu2 W1 30 g b).2 k = W1.2 k := fun k hk => by
        funext x
        rw [iu2_2, if_neg (by omega)]
      have AA : (∀ i, (iu2 W1 30 g b).2 26 i = if i = g then f else W.2 26 i) ∧ (∀ i, (iu2 W1 30 g b).2 27 i = if i = g then l else W.2 27 i) ∧ (∀ i, (iu2 W1 30 g b).2 28 i = if i = g then r else W.2 28 i) ∧ (∀ i, (iu2 W1 30 g b).2 29 i = if i = g then a else W.2 29 i) ∧ (∀ i, (iu2 W1 30 g b).2 30 i = if i = g then b else W.2 30 i) ∧ (iu2 W1 30 g b).2 31 = W.2 31 := ⟨fun i => by rw [Ao 26 (by decide)]; exact A26 i, fun i => by rw [Ao 27 (by decide)]; exact A27 i, fun i => by rw [Ao 28 (by decide)]; exact A28 i, fun i => by rw [Ao 29 (by decide)]; exact A29 i, A30, by rw [Ao 31 (by decide)]; exact Ar 31 (by omega) (by omega)⟩
      unfold G7_readsGroup_117
      simp only [wp_ib, wp_ig, wp_ite, jp_ret, jp_nz, jp_dI, jp_rI, jp_g9, jp_E, jpN1, jp_Bk, jp_Ck, jp_W, jp_R, jp_Tx, jp_Sl, jp_Sc, jp_Si, jp_Sq, jp_Xl, jp_X0, jp_Xc, jp_Xs, jp_Xi, jp_Tos, jp_NB, jp_NC, kj_1, kj_2, kj_3, kj_4, jpA1, jpS1, jp_con, ju1_s, ju1_a, ju2_s, ju2_a, juA_s, juA_a, jux_s, jux_a, jux_x, jux_t, ju1_jB, ju2_jB, juA_jB, ju1_jC, ju2_jC, juA_jC, ju1_jT, ju2_jT, juA_jT, ju1_jb, ju2_jb, juA_jb, ju1_jd, ju2_jd, juA_jd, ju1_jt, ju2_jt, juA_jt, ju1_jx, ju2_jx, juA_jx, ju1_jw, ju2_jw, juA_jw, ju1_jr, ju2_jr, juA_jr, ju1_jn, ju2_jn, juA_jn, jux_jB, jux_jC, jux_jT, jux_jb, jux_jd, jux_jw, jux_jr, jux_jn, jG2, jP2, jG3, jP3, jG4, jP4, jG5, jP5, jG8, jP8, jG9, jP9, jG10, jP10, jG11, jP11, jG1, jP1, jG6, jP6, jG7, jP7, jG12, jP12, wj2, wk2, wn2, wj3, wk3, wn3, wj4, wk4, wn4, wj5, wk5, wn5, wj6, wk6, wn6, wj7, wk7, wn7, wj8, wk8, wn8, wj9, wk9, wn9, wj10, wk10, wn10, Nat.reduceEqDiff, reduceIte, false_and, true_and, and_true, and_self, if_false, if_true, and_false]
      rw [h4]
      have t6 : js J1 1 6 = g := by rw [s1' 6 (by omega) (by omega)]; exact g6
      refine ⟨by omega, c_addV (by omega) (by omega) (by omega) fun J2 e2 => ?_⟩
      have hJ2 : Cst J2 T n j1 := by rw [e2]; exact hJ1.f (FrQ.add (by omega)) rfl
      have hQ2 : FrQ J J2 := by rw [e2]; exact hQ1.trans (FrQ.add (by omega))
      have ss2 : ((js J2 1 3 = g + 1 ∧ js J2 1 4 = g + 1 ∧ js J2 1 5 = g + 1) ∧ js J2 1 6 = g + 1 ∧ js J2 1 7 = g) := by
        rw [e2]
        exact ⟨s1, by show js J1 1 6 + 1 = g + 1; omega, by rw [addR_s, if_neg (by omega), s1' 7 (by omega) (by omega)]; exact g7⟩
      have BB2 : ((∀ x, ja J2 1 3 x = if x = g then f else ja J 1 3 x) ∧ (∀ x, ja J2 1 4 x = if x = g then (if r = 1 then l else -1) else ja J 1 4 x) ∧ (∀ x, ja J2 1 5 x = if x = g then a else ja J 1 5 x) ∧ (∀ x, ja J2 1 6 x = if x = g then b else ja J 1 6 x) ∧ ja J2 1 7 = ja J 1 7) := by
        refine ⟨fun x => ?_, fun x => ?_, fun x => ?_, fun x => ?_, ?_⟩
        · rw [e2, addR_a, if_neg (by omega)]; exact B3 x
        · rw [e2, addR_a, if_neg (by omega)]; exact B4 x
        · rw [e2, addR_a, if_neg (by omega)]; exact B5 x
        · rw [e2, addR_a, t6, Br 6 (by omega) (by omega)]
          simp only [true_and]
        · rw [e2]; funext x; rw [addR_a, if_neg (by omega), Br 7 (by omega) (by omega)]
      have hC2 : ChR (iu2 W1 30 g b) J2 c := hC.fr h251 (fun k q1 q2 => by rw [Ao k (by omega)]; exact Ar k (by omega) q2) (fun i q1 q2 => by rw [e2, addR_s, if_neg (by omega)]; exact s1' i (by omega) q2) (fun i q1 q2 => by rw [e2]; funext x; rw [addR_a, if_neg (by omega), Br i (by omega) q2])
      refine c_skipV hT (by decide) hJ2 (fun k2 J3 e3 hJ3 => ?_) (fun k2 => ?_)
      · rw [if_neg (by decide)]
        have hJ3 := hJ3 (by decide)
        have gw : wp (I12_goes 40) (fun v W2 => v = 1 ∧ FrY (iu2 W1 30 g b) W2 ∧ Mst W2 T n 1 (j1 + 1)) (iu2 W1 30 g b) := m_goes hT (by decide) hM1' (fun _ W2 q1 q2 => ⟨rfl, q1, q2⟩) (fun k => absurd k2 k)
        obtain ⟨v2, W2, eg, hv2, hY2, hM2⟩ := wp_ex gw
        subst hv2
        have hC3 : ChR W2 J3 c := hC2.fr (hY2.2 25 (by omega)) (fun k _ _ => by rw [hY2.1]) (fun i _ _ => by rw [e3, ju1_s, if_neg (by omega)]) (fun i _ _ => by rw [e3]; rfl)
        obtain ⟨W3, v, J4, e1, e4, hh⟩ := b_changes hT hM2 hJ3 hC3 (by omega)
        refine ⟨by decide, ?_⟩
        rw [wp_ret e4]
        rcases hh with ⟨hv, j3, c3, hF3, hD3, hM3, hJ4, hC4, hc4, hcc, hj3⟩ | ⟨hv, j3, hF3, hD3, hM3, h5⟩
        · subst hv
          refine ⟨by decide, ?_⟩
          rw [if_neg (by decide)]
          refine c_takeV hT (by decide) hJ4 (fun k5 J5 e5 hJ5 => ?_) (fun k5 J5 e5 => ?_)
          · rw [if_neg (by decide)]
            refine ⟨by decide, wp_comm ?_⟩
            unfold I12_readGroup_105
            simp only [wp_ib, wp_ig, wp_ite, wp_ir, wp_igI, wp_ipI, wp_ipZ, wp_inz, wp_idI, wp_irI, wp_iSl, wp_iSc, wp_iSi, iu1_1, iu1_2, iu2_1, iu2_2, wA0, wS0, wA6, wS6, wA7, wS7, wA8, wS8, wA9, wS9, wA10, wS10, wA11, wS11, wA12, wS12, wA13, wS13, wA14, wS14, wA16, wS16, wA17, wS17, wA18, wS18, wA26, wS26, wA27, wS27, wZ28, wY28, wA29, wS29, wA30, wS30, wA31, wS31, wA32, wS32, wA33, wS33, wA34, wS34, wA35, wS35, wA36, wS36, wA38, wS38, wA39, wS39, wA40, wS40, wZ41, wY41, wA45, wS45, wA46, wS46, wZ47, wY47, wZ48, wY48, Nat.reduceEqDiff, reduceIte, false_and, true_and, and_true, and_self, if_false, if_true, and_false]
            refine ⟨by omega, ?_⟩
            rw [wp_ret eg, if_neg (by decide)]
            refine ⟨by decide, ?_⟩
            rw [wp_ret e1]
            refine m_must hT (by decide) hM3 (fun k6 W4 hY4 hM4 => ?_) (fun k6 => absurd k5 k6)
            have eA : ∀ k, k < 32 → W4.2 k = (iu2 W1 30 g b).2 k := fun k hk => by rw [hY4.1, hF3.2.2 k (by omega), hY2.1]
            have eB : ∀ i, i ≤ 7 → js J5 1 i = js J2 1 i := fun i hi => by rw [e5, ju1_s, if_neg (by omega), ju1_s, if_neg (by omega), hD3.1 1 i (by omega), e3, ju1_s, if_neg (by omega)]
            have eC : ∀ i, i ≤ 7 → ja J5 1 i = ja J2 1 i := fun i hi => by
              rw [e5]
              show ja J4 1 i = _
              rw [hD3.2.1 1 i (by omega), e3]
              rfl
            refine tl W4 J5 (j3 + 1) c3 (hF1'.trans (hY2.gg.trans (hF3.gg.trans hY4.gg))) (hQ2.trans (by rw [e5]; exact (show FrQ J2 J3 by rw [e3]; exact FrQ.u (by omega)).trans (hD3.q.trans ((FrQ.u (by omega)).trans (FrQ.u (by omega)))))) hM4 (hJ5 (by decide)) (hC4.fr (hY4.2 25 (by omega)) (fun k _ _ => by rw [hY4.1]) (fun i _ _ => by rw [e5, ju1_s, if_neg (by omega), ju1_s, if_neg (by omega)]) (fun i _ _ => by rw [e5]; rfl)) (by omega) (by omega) (by omega) ?_ ?_ ?_ ?_
            · rw [hY4.2 24 (by omega), hF3.2.1, hY2.2 24 (by omega)]; exact h241
            · rw [eA 26 (by omega), eA 27 (by omega), eA 28 (by omega), eA 29 (by omega), eA 30 (by omega), eA 31 (by omega)]; exact AA
            · rw [eB 3 (by omega), eB 4 (by omega), eB 5 (by omega), eB 6 (by omega), eB 7 (by omega)]; exact ss2
            · rw [eC 3 (by omega), eC 4 (by omega), eC 5 (by omega), eC 6 (by omega), eC 7 (by omega)]; exact BB2
          · rw [if_pos rfl]
            refine ⟨by decide, ?_⟩
            unfold I12_readGroup_105
            simp only [wp_ib, wp_ig, wp_ite, wp_ir, wp_igI, wp_ipI, wp_ipZ, wp_inz, wp_idI, wp_irI, wp_iSl, wp_iSc, wp_iSi, iu1_1, iu1_2, iu2_1, iu2_2, wA0, wS0, wA6, wS6, wA7, wS7, wA8, wS8, wA9, wS9, wA10, wS10, wA11, wS11, wA12, wS12, wA13, wS13, wA14, wS14, wA16, wS16, wA17, wS17, wA18, wS18, wA26, wS26, wA27, wS27, wZ28, wY28, wA29, wS29, wA30, wS30, wA31, wS31, wA32, wS32, wA33, wS33, wA34, wS34, wA35, wS35, wA36, wS36, wA38, wS38, wA39, wS39, wA40, wS40, wZ41, wY41, wA45, wS45, wA46, wS46, wZ47, wY47, wZ48, wY48, Nat.reduceEqDiff, reduceIte, false_and, true_and, and_true, and_self, if_false, if_true, and_false]
            refine ⟨by omega, ?_⟩
            rw [wp_ret eg, if_neg (by decide)]
            refine ⟨by decide, ?_⟩
            rw [wp_ret e1]
            refine m_must hT (by decide) hM3 (fun k6 => absurd k6 k5) (fun k6 W4 hY4 hM4 => ?_)
            have e24 : W4.1 24 = g := by rw [hY4.2 24 (by omega), hF3.2.1, hY2.2 24 (by omega)]; exact h241
            rw [wp_ret (m_125 (by omega))]
            refine ⟨(hF1'.trans (hY2.gg.trans (hF3.gg.trans hY4.gg))).trans ((FrG.m (by omega)).trans (FrG.a (by omega))), hQ2.trans (by rw [e5]; exact (show FrQ J2 J3 by rw [e3]; exact FrQ.u (by omega)).trans (hD3.q.trans (FrQ.u (by omega)))), Or.inr ⟨rfl, j3, (hM4.m (by omega)).a (by decide), by rw [e5]; rfl⟩⟩
        · subst hv
          refine ⟨by decide, ?_⟩
          rw [if_pos rfl]
          unfold I12_readGroup_105
          simp only [wp_ib, wp_ig, wp_ite, wp_ir, wp_igI, wp_ipI, wp_ipZ, wp_inz, wp_idI, wp_irI, wp_iSl, wp_iSc, wp_iSi, iu1_1, iu1_2, iu2_1, iu2_2, wA0, wS0, wA6, wS6, wA7, wS7, wA8, wS8, wA9, wS9, wA10, wS10, wA11, wS11, wA12, wS12, wA13, wS13, wA14, wS14, wA16, wS16, wA17, wS17, wA18, wS18, wA26, wS26, wA27, wS27, wZ28, wY28, wA29, wS29, wA30, wS30, wA31, wS31, wA32, wS32, wA33, wS33, wA34, wS34, wA35, wS35, wA36, wS36, wA38, wS38, wA39, wS39, wA40, wS40, wZ41, wY41, wA45, wS45, wA46, wS46, wZ47, wY47, wZ48, wY48, Nat.reduceEqDiff, reduceIte, false_and, true_and, and_true, and_self, if_false, if_true, and_false]
          refine ⟨by omega, ?_⟩
          rw [wp_ret eg, if_neg (by decide)]
          refine ⟨by decide, ?_⟩
          rw [wp_ret e1]
          refine m_must0 hM3 (fun W4 hY4 hM4 => ?_)
          have e24 : W4.1 24 = g := by rw [hY4.2 24 (by omega), hF3.2.1, hY2.2 24 (by omega)]; exact h241
          rw [wp_ret (m_125 (by omega))]
          exact ⟨(hF1'.trans (hY2.gg.trans (hF3.gg.trans hY4.gg))).trans ((FrG.m (by omega)).trans (FrG.a (by omega))), hQ2.trans ((show FrQ J2 J3 by rw [e3]; exact FrQ.u (by omega)).trans hD3.q), Or.inr ⟨rfl, j3, (hM4.m (by omega)).a (by decide), h5⟩⟩
      · rw [if_pos rfl]
        refine ⟨by decide, wp_comm ?_⟩
        unfold I12_readGroup_105
        simp only [wp_ib, wp_ig, wp_ite, wp_ir, wp_igI, wp_ipI, wp_ipZ, wp_inz, wp_idI, wp_irI, wp_iSl, wp_iSc, wp_iSi, iu1_1, iu1_2, iu2_1, iu2_2, wA0, wS0, wA6, wS6, wA7, wS7, wA8, wS8, wA9, wS9, wA10, wS10, wA11, wS11, wA12, wS12, wA13, wS13, wA14, wS14, wA16, wS16, wA17, wS17, wA18, wS18, wA26, wS26, wA27, wS27, wZ28, wY28, wA29, wS29, wA30, wS30, wA31, wS31, wA32, wS32, wA33, wS33, wA34, wS34, wA35, wS35, wA36, wS36, wA38, wS38, wA39, wS39, wA40, wS40, wZ41, wY41, wA45, wS45, wA46, wS46, wZ47, wY47, wZ48, wY48, Nat.reduceEqDiff, reduceIte, false_and, true_and, and_true, and_self, if_false, if_true, and_false]
        refine ⟨by omega, m_goes hT (by decide) hM1' (fun k3 => absurd k3 k2) (fun k3 => ?_)⟩
        rw [if_pos rfl]
        exact ⟨by decide, tl _ J2 j1 c hF1' hQ2 hM1' hJ2 hC2 (by omega) (Int.le_refl _) hj1 h241 AA ss2 BB2⟩
    · refine c_head hT ⟨g0, by omega⟩ hJ ⟨g3, g4, g5⟩ (fun J1 j1' f' l' r' a' b' hr' hj1 hQ1 hJ1 h4 s1 s1' B3 B4 B5 Br rg => by rw [hr] at hr'; cases hr') (fun J' j'' hr' hQ h5 => ?_)
      rw [hr] at hr'
      cases hr'
      exact ⟨hF, hQ, Or.inr ⟨rfl, j', hM', h5⟩⟩
  obtain ⟨u, W', e1, h1⟩ := wp_ex key
  obtain ⟨v, J', e2, h2⟩ := wp_ex h1
  exact ⟨W', v, J', e1, e2, h2⟩
end PR5
