/-! ===== both readers read groups, a formula ===== -/
def GrR (W : IS) (J : JS) (g c : Int) : Prop := (0 ≤ g ∧ W.1 24 = g ∧ js J 1 3 = g ∧ js J 1 4 = g ∧ js J 1 5 = g ∧ js J 1 6 = g ∧ js J 1 7 = g) ∧ (∀ i, 0 ≤ i → i < g → (ja J 1 3 i = W.2 26 i ∧ ja J 1 4 i = (if W.2 28 i = 1 then W.2 27 i else -1) ∧ ja J 1 5 i = W.2 29 i ∧ ja J 1 6 i = W.2 30 i ∧ ja J 1 7 i = W.2 31 (i + 1)) ∧ (0 ≤ W.2 26 i ∧ W.2 26 i ≤ 70) ∧ (0 ≤ W.2 27 i ∧ W.2 27 i ≤ 70) ∧ ((W.2 28 i = 0 ∧ W.2 27 i = W.2 26 i) ∨ W.2 28 i = 1) ∧ (0 ≤ W.2 29 i ∧ W.2 29 i ≤ 999) ∧ (0 ≤ W.2 30 i ∧ W.2 30 i ≤ 999) ∧ 0 ≤ W.2 31 i ∧ W.2 31 i ≤ W.2 31 (i + 1) ∧ W.2 31 (i + 1) ≤ c) ∧ W.2 31 0 = 0 ∧ W.2 31 g = c
def gRes (T : Int → Int) (n : Int) (W : IS) (J : JS) (g : Int) (j : Nat) (W' : IS) (v : Int) (J' : JS) : Prop := FrG W W' ∧ FrQ J J' ∧ ((v = 1 ∧ ∃ j' c', Mst W' T n 1 j' ∧ Cst J' T n j' ∧ GrR W' J' (g + 1) c' ∧ ChR W' J' c' ∧ 2 * (g + 1) ≤ j' ∧ 2 * c' ≤ j' ∧ j + 2 ≤ j') ∨ (v = 0 ∧ ∃ j', Mst W' T n 0 j' ∧ js J' 5 0 = tkP T n j'))
/-- what the model, the class hold of a group whose head is read -/
def gMo (W W3 : IS) (g f l r a b : Int) : Prop := W3.1 24 = g ∧ (∀ i, W3.2 26 i = if i = g then f else W.2 26 i) ∧ (∀ i, W3.2 27 i = if i = g then l else W.2 27 i) ∧ (∀ i, W3.2 28 i = if i = g then r else W.2 28 i) ∧ (∀ i, W3.2 29 i = if i = g then a else W.2 29 i) ∧ (∀ i, W3.2 30 i = if i = g then b else W.2 30 i) ∧ W3.2 31 = W.2 31
def gCl (J J3 : JS) (g f l r a b : Int) : Prop := (js J3 1 3 = g + 1 ∧ js J3 1 4 = g + 1 ∧ js J3 1 5 = g + 1 ∧ js J3 1 6 = g + 1 ∧ js J3 1 7 = g) ∧ ((∀ x, ja J3 1 3 x = if x = g then f else ja J 1 3 x) ∧ (∀ x, ja J3 1 4 x = if x = g then (if r = 1 then l else -1) else ja J 1 4 x) ∧ (∀ x, ja J3 1 5 x = if x = g then a else ja J 1 5 x) ∧ (∀ x, ja J3 1 6 x = if x = g then b else ja J 1 6 x) ∧ ja J3 1 7 = ja J 1 7)
def gRg (f l r a b : Int) : Prop := (0 ≤ f ∧ f ≤ 70) ∧ (0 ≤ l ∧ l ≤ 70) ∧ ((r = 0 ∧ l = f) ∨ r = 1) ∧ (0 ≤ a ∧ a ≤ 999) ∧ (0 ≤ b ∧ b ≤ 999)
section PR5
variable {T : Int → Int} {n : Int} {W : IS} {J : JS} {j : Nat} {g c : Int}
theorem m_125 (h : 0 ≤ W.1 24 ∧ W.1 24 < 120) : I12_readGroup_125 W = some ((), iu2 (iu1 W 24 (W.1 24 + 1)) 31 (W.1 24 + 1) (W.1 25)) := by
  refine wp_eq ?_
  unfold I12_readGroup_125
  simp only [wp_ib, wp_ig, wp_ite, wp_ir, wp_igI, wp_ipI, wp_ipZ, wp_inz, wp_idI, wp_irI, wp_iSl, wp_iSc, wp_iSi, iu1_1, iu1_2, iu2_1, iu2_2, wA0, wS0, wA6, wS6, wA7, wS7, wA8, wS8, wA9, wS9, wA10, wS10, wA11, wS11, wA12, wS12, wA13, wS13, wA14, wS14, wA16, wS16, wA17, wS17, wA18, wS18, wA26, wS26, wA27, wS27, wZ28, wY28, wA29, wS29, wA30, wS30, wA31, wS31, wA32, wS32, wA33, wS33, wA34, wS34, wA35, wS35, wA36, wS36, wA38, wS38, wA39, wS39, wA40, wS40, wZ41, wY41, wA45, wS45, wA46, wS46, wZ47, wY47, wZ48, wY48, Nat.reduceEqDiff, reduceIte, false_and, true_and, and_true, and_self, if_false, if_true, and_false]
  omega
theorem c_159 (h9 : js J 1 9 = c) (h7 : 0 ≤ js J 1 7 ∧ js J 1 7 < 121) : G7_readsGroup_159 J = some (1, addR J 7 c) := by
  refine wp_eq ?_
  unfold G7_readsGroup_159 G5_amount
  simp only [wp_ib, wp_ig, wp_ite, jp_ret, jp_nz, jp_dI, jp_rI, jp_g9, jp_E, jpN1, jp_Bk, jp_Ck, jp_W, jp_R, jp_Tx, jp_Sl, jp_Sc, jp_Si, jp_Sq, jp_Xl, jp_X0, jp_Xc, jp_Xs, jp_Xi, jp_Tos, jp_NB, jp_NC, kj_1, kj_2, kj_3, kj_4, jpA1, jpS1, jp_con, ju1_s, ju1_a, ju2_s, ju2_a, juA_s, juA_a, jux_s, jux_a, jux_x, jux_t, ju1_jB, ju2_jB, juA_jB, ju1_jC, ju2_jC, juA_jC, ju1_jT, ju2_jT, juA_jT, ju1_jb, ju2_jb, juA_jb, ju1_jd, ju2_jd, juA_jd, ju1_jt, ju2_jt, juA_jt, ju1_jx, ju2_jx, juA_jx, ju1_jw, ju2_jw, juA_jw, ju1_jr, ju2_jr, juA_jr, ju1_jn, ju2_jn, juA_jn, jux_jB, jux_jC, jux_jT, jux_jb, jux_jd, jux_jw, jux_jr, jux_jn, jG2, jP2, jG3, jP3, jG4, jP4, jG5, jP5, jG8, jP8, jG9, jP9, jG10, jP10, jG11, jP11, jG1, jP1, jG6, jP6, jG7, jP7, jG12, jP12, wj2, wk2, wn2, wj3, wk3, wn3, wj4, wk4, wn4, wj5, wk5, wn5, wj6, wk6, wn6, wj7, wk7, wn7, wj8, wk8, wn8, wj9, wk9, wn9, wj10, wk10, wn10, Nat.reduceEqDiff, reduceIte, false_and, true_and, and_true, and_self, if_false, if_true, and_false]
  rw [h9]
  exact ⟨by omega, c_addV (by omega) h7.1 h7.2 fun J' e => e⟩
theorem b_gtl {f l r a b : Int} {W3 : IS} {J3 : JS} {j3 : Nat} {c3 : Int} (hG : GrR W J g c) (hg : 2 * g ≤ j) (hg9 : g < 119) (hF3 : FrG W W3) (hQ3 : FrQ J J3) (hM3 : Mst W3 T n 1 j3) (hJ3 : Cst J3 T n j3) (hC3 : ChR W3 J3 c3) (hc3 : 2 * c3 ≤ j3) (hcc : c ≤ c3) (hc0 : 0 ≤ c) (hj3 : j + 2 ≤ j3) (hA : gMo W W3 g f l r a b) (hB : gCl J J3 g f l r a b) (rg : gRg f l r a b) :
    wp I12_readGroup_125 (fun _ W' => wp G7_readsGroup_159 (fun v J' => gRes T n W J g j W' v J') J3) W3 := by
  obtain ⟨⟨g0, g24, g3, g4, g5, g6, g7⟩, gg, g310, g31g⟩ := hG
  obtain ⟨h243, A26, A27, A28, A29, A30, A31⟩ := hA
  obtain ⟨⟨s3, s4, s5, s6, s7⟩, B3, B4, B5, B6, B7⟩ := hB
  have h25 : W3.1 25 = c3 := hC3.1.2.1
  have q1 : 0 ≤ W3.1 24 ∧ W3.1 24 < 120 := by rw [h243]; exact ⟨g0, by omega⟩
  have q2 : 0 ≤ js J3 1 7 ∧ js J3 1 7 < 121 := by rw [s7]; exact ⟨g0, by omega⟩
  rw [wp_ret (m_125 q1), wp_ret (c_159 (c := c3) hC3.1.2.2.2.1 q2), h243, h25]
  have e31 : ∀ q, q ≠ g + 1 → (iu2 (iu1 W3 24 (g + 1)) 31 (g + 1) c3).2 31 q = W.2 31 q := fun q hq => by
    rw [iu2_2, if_neg (fun r => hq r.2)]
    show W3.2 31 q = _
    rw [A31]
  have e31g : (iu2 (iu1 W3 24 (g + 1)) 31 (g + 1) c3).2 31 (g + 1) = c3 := by rw [iu2_2, if_pos ⟨rfl, rfl⟩]
  have eo : ∀ k q, k ≠ 31 → (iu2 (iu1 W3 24 (g + 1)) 31 (g + 1) c3).2 k q = W3.2 k q := fun k q hk => by
    rw [iu2_2, if_neg (fun r => hk r.1)]
    rfl
  have f7 : ∀ x, ja (addR J3 7 c3) 1 7 x = if x = g then c3 else ja J 1 7 x := fun x => by
    rw [addR_a, s7, B7]
    simp only [true_and]
  have fo : ∀ k x, k ≠ 7 → ja (addR J3 7 c3) 1 k x = ja J3 1 k x := fun k x hk => by rw [addR_a, if_neg (fun r => hk r.2.1)]
  have hG' : GrR (iu2 (iu1 W3 24 (g + 1)) 31 (g + 1) c3) (addR J3 7 c3) (g + 1) c3 := by
    refine ⟨⟨by omega, rfl, s3, s4, s5, s6, ?_⟩, fun i i0 i1 => ?_, ?_, e31g⟩
    · show js J3 1 7 + 1 = g + 1
      rw [s7]
    · rw [fo 3 i (by decide), fo 4 i (by decide), fo 5 i (by decide), fo 6 i (by decide), f7, eo 26 i (by decide), eo 27 i (by decide), eo 28 i (by decide), eo 29 i (by decide), eo 30 i (by decide), B3, B4, B5, B6, A26, A27, A28, A29, A30]
      by_cases e : i = g
      · simp only [e, if_true]
        rw [e31g, e31 g (by omega), g31g]
        exact ⟨⟨trivial, trivial, trivial, trivial, rfl⟩, rg.1, rg.2.1, rg.2.2.1, rg.2.2.2.1, rg.2.2.2.2, hc0, hcc, Int.le_refl _⟩
      · simp only [e, if_false]
        have hh := gg i i0 (by omega)
        rw [e31 i (by omega), e31 (i + 1) (by omega)]
        exact ⟨hh.1, hh.2.1, hh.2.2.1, hh.2.2.2.1, hh.2.2.2.2.1, hh.2.2.2.2.2.1, hh.2.2.2.2.2.2.1, hh.2.2.2.2.2.2.2.1, Int.le_trans hh.2.2.2.2.2.2.2.2 hcc⟩
    · rw [e31 0 (by omega)]
      exact g310
  have hC' : ChR (iu2 (iu1 W3 24 (g + 1)) 31 (g + 1) c3) (addR J3 7 c3) c3 := hC3.fr rfl (fun k q1 q2 => by funext x; exact eo k x (by omega)) (fun i q1 q2 => by rw [addR_s, if_neg (by omega)]) (fun i q1 q2 => by funext x; exact fo i x (by omega))
  exact ⟨hF3.trans ((FrG.m (by omega)).trans (FrG.a (by omega))), hQ3.trans (FrQ.add (by omega)), Or.inl ⟨rfl, j3, c3, (hM3.m (by omega)).a (by decide), hJ3.f (FrQ.add (by omega)) rfl, hG', hC', by omega, hc3, hj3⟩⟩
theorem gMo.fr {f l r a b : Int} {W2 W3 : IS} (h : gMo W W2 g f l r a b) (h24 : W3.1 24 = W2.1 24) (hk : ∀ k, 26 ≤ k → k ≤ 31 → W3.2 k = W2.2 k) : gMo W W3 g f l r a b := by
  unfold gMo at h ⊢
  rw [h24, hk 26 (by omega) (by omega), hk 27 (by omega) (by omega), hk 28 (by omega) (by omega), hk 29 (by omega) (by omega), hk 30 (by omega) (by omega), hk 31 (by omega) (by omega)]
  exact h
theorem gCl.fr {f l r a b : Int} {J2 J3 : JS} (h : gCl J J2 g f l r a b) (h1 : ∀ i, 3 ≤ i → i ≤ 7 → js J3 1 i = js J2 1 i) (h2 : ∀ i, 3 ≤ i → i ≤ 7 → ja J3 1 i = ja J2 1 i) : gCl J J3 g f l r a b := by
  unfold gCl at h ⊢
  rw [h1 3 (by omega) (by omega), h1 4 (by omega) (by omega), h1 5 (by omega) (by omega), h1 6 (by omega) (by omega), h1 7 (by omega) (by omega), h2 3 (by omega) (by omega), h2 4 (by omega) (by omega), h2 5 (by omega) (by omega), h2 6 (by omega) (by omega), h2 7 (by omega) (by omega)]
  exact h
/-- behind the heads -/
theorem b_gmid (hT : byt T n) {f l r a b : Int} {W2 : IS} {J2 : JS} {j1 : Nat} (hG : GrR W J g c) (hg : 2 * g ≤ j) (hg9 : g < 119) (hc : 2 * c ≤ j) (hc0 : 0 ≤ c) (hF2 : FrG W W2) (hQ2 : FrQ J J2) (hM2 : Mst W2 T n 1 j1) (hJ2 : Cst J2 T n j1) (hC2 : ChR W2 J2 c) (hj1 : j + 2 ≤ j1) (hA : gMo W W2 g f l r a b) (hB : gCl J J2 g f l r a b) (rg : gRg f l r a b) :
    wp (ib (I12_goes 40) fun v1 => ig (R32 v1) <| if v1 = 0 then I12_readGroup_125 else (ib I12_readChanges fun _ => ib (I12_must 41) fun _ => I12_readGroup_125)) (fun _ W' => wp (ib (G7_skips 40) fun v3 => ig (R32 v3) <| if v3 = 0 then G7_readsGroup_159 else (ib G7_readsChangeList fun v4 => ig (R32 v4) <| if v4 = 0 then (jret 0) else (ib (G7_takes 41) fun v5 => ig (R32 v5) <| if v5 = 0 then (jret 0) else G7_readsGroup_159))) (fun v J' => gRes T n W J g j W' v J') J2) W2 := by
  have e24 := hA.1
  by_cases k2 : kdP T n (tkP T n j1) = 40
  · have gw : wp (I12_goes 40) (fun v W3 => v = 1 ∧ FrY W2 W3 ∧ Mst W3 T n 1 (j1 + 1)) W2 := m_goes hT (by decide) hM2 (fun _ W3 q1 q2 => ⟨rfl, q1, q2⟩) (fun k => absurd k2 k)
    obtain ⟨v2, W3, eg, hv2, hY3, hM3⟩ := wp_ex gw
    subst hv2
    have sw : wp (G7_skips 40) (fun v J3 => v = 1 ∧ J3 = ju1 J2 3 0 ((j1 : Int) + 1) ∧ Cst J3 T n (j1 + 1)) J2 := c_skipV hT (by decide) hJ2 (fun _ J3 q1 q2 => ⟨rfl, q1, q2 (by decide)⟩) (fun k => absurd k2 k)
    obtain ⟨v3, J3, es, hv3, e3, hJ3⟩ := wp_ex sw
    subst hv3
    have hQ3 : FrQ J J3 := hQ2.trans (by rw [e3]; exact FrQ.u (by omega))
    have hC3 : ChR W3 J3 c := hC2.fr (hY3.2 25 (by omega)) (fun k _ _ => by rw [hY3.1]) (fun i _ _ => by rw [e3, ju1_s, if_neg (by omega)]) (fun i _ _ => by rw [e3]; rfl)
    have hA3 : gMo W W3 g f l r a b := hA.fr (hY3.2 24 (by omega)) (fun k _ _ => by rw [hY3.1])
    have hB3 : gCl J J3 g f l r a b := hB.fr (fun i _ _ => by rw [e3, ju1_s, if_neg (by omega)]) (fun i _ _ => by rw [e3]; rfl)
    obtain ⟨W4, v, J4, e1, e4, hh⟩ := b_changes hT hM3 hJ3 hC3 (by omega)
    rw [wp_ib, wp_ret eg, wp_ig, wp_ite, if_neg (by decide), wp_ib, wp_ret e1, wp_ib]
    refine ⟨by decide, ?_⟩
    rcases hh with ⟨hv, j4, c4, hF4, hD4, hM4, hJ4, hC4, hc4, hcc, hj4⟩ | ⟨hv, j4, hF4, hD4, hM4, h5⟩
    · subst hv
      have hA4 : gMo W W4 g f l r a b := hA3.fr hF4.2.1 (fun k _ _ => hF4.2.2 k (by omega))
      have hB4 : gCl J J4 g f l r a b := hB3.fr (fun i _ _ => hD4.1 1 i (by omega)) (fun i _ _ => hD4.2.1 1 i (by omega))
      by_cases k5 : kdP T n (tkP T n j4) = 41
      · have tw : wp (G7_takes 41) (fun v J5 => v = 1 ∧ J5 = ju1 (ju1 J4 4 0 (vlP T n (tkP T n j4))) 3 0 ((j4 : Int) + 1) ∧ Cst J5 T n (j4 + 1)) J4 := c_takeV hT (by decide) hJ4 (fun _ J5 q1 q2 => ⟨rfl, q1, q2 (by decide)⟩) (fun k => absurd k5 k)
        obtain ⟨v5, J5, et, hv5, e5, hJ5⟩ := wp_ex tw
        subst hv5
        refine m_must hT (by decide) hM4 (fun k6 W5 hY5 hM5 => ?_) (fun k6 => absurd k5 k6)
        refine wp_mono (b_gtl hG hg hg9 (hF2.trans (hY3.gg.trans (hF4.gg.trans hY5.gg))) (hQ3.trans (hD4.q.trans (by rw [e5]; exact (FrQ.u (by omega)).trans (FrQ.u (by omega))))) hM5 hJ5 (hC4.fr (hY5.2 25 (by omega)) (fun k _ _ => by rw [hY5.1]) (fun i _ _ => by rw [e5, ju1_s, if_neg (by omega), ju1_s, if_neg (by omega)]) (fun i _ _ => by rw [e5]; rfl)) (by omega) (by omega) hc0 (by omega) (hA4.fr (hY5.2 24 (by omega)) (fun k _ _ => by rw [hY5.1])) (hB4.fr (fun i _ _ => by rw [e5, ju1_s, if_neg (by omega), ju1_s, if_neg (by omega)]) (fun i _ _ => by rw [e5]; rfl)) rg) (fun _ W' h => ?_)
        rw [wp_ib, wp_ret es, wp_ig, wp_ite, if_neg (by decide), wp_ib, wp_ret e4, wp_ig, wp_ite, if_neg (by decide), wp_ib, wp_ret et, wp_ig, wp_ite, if_neg (by decide)]
        exact ⟨by decide, by decide, by decide, h⟩
      · have tw : wp (G7_takes 41) (fun v J5 => v = 0 ∧ J5 = ju1 J4 5 0 (tkP T n j4)) J4 := c_takeV hT (by decide) hJ4 (fun k => absurd k k5) (fun _ J5 q1 => ⟨rfl, q1⟩)
        obtain ⟨v5, J5, et, hv5, e5⟩ := wp_ex tw
        subst hv5
        refine m_must hT (by decide) hM4 (fun k6 => absurd k6 k5) (fun k6 W5 hY5 hM5 => ?_)
        have e245 : W5.1 24 = g := by rw [hY5.2 24 (by omega)]; exact hA4.1
        have g0 := hG.1.1
        rw [wp_ret (m_125 (by rw [e245]; exact ⟨g0, by omega⟩)), wp_ib, wp_ret es, wp_ig, wp_ite, if_neg (by decide), wp_ib, wp_ret e4, wp_ig, wp_ite, if_neg (by decide), wp_ib, wp_ret et, wp_ig, wp_ite, if_pos rfl]
        refine ⟨by decide, by decide, by decide, (hF2.trans (hY3.gg.trans (hF4.gg.trans hY5.gg))).trans ((FrG.m (by omega)).trans (FrG.a (by omega))), hQ3.trans (hD4.q.trans (by rw [e5]; exact FrQ.u (by omega))), Or.inr ⟨rfl, j4, (hM5.m (by omega)).a (by decide), by rw [e5]; rfl⟩⟩
    · subst hv
      refine m_must0 hM4 (fun W5 hY5 hM5 => ?_)
      have e245 : W5.1 24 = g := by rw [hY5.2 24 (by omega), hF4.2.1]; exact hA3.1
      have g0 := hG.1.1
      rw [wp_ret (m_125 (by rw [e245]; exact ⟨g0, by omega⟩)), wp_ib, wp_ret es, wp_ig, wp_ite, if_neg (by decide), wp_ib, wp_ret e4, wp_ig, wp_ite, if_pos rfl]
      exact ⟨by decide, by decide, (hF2.trans (hY3.gg.trans (hF4.gg.trans hY5.gg))).trans ((FrG.m (by omega)).trans (FrG.a (by omega))), hQ3.trans hD4.q, Or.inr ⟨rfl, j4, (hM5.m (by omega)).a (by decide), h5⟩⟩
  · have sw : wp (G7_skips 40) (fun v J3 => v = 0 ∧ J3 = J2) J2 := c_skipV hT (by decide) hJ2 (fun k => absurd k k2) (fun _ => ⟨rfl, rfl⟩)
    obtain ⟨v3, J3, es, hv3, e3⟩ := wp_ex sw
    subst hv3
    subst e3
    rw [wp_ib]
    refine m_goes hT (by decide) hM2 (fun k => absurd k k2) (fun _ => ?_)
    rw [wp_ig, wp_ite, if_pos rfl]
    refine ⟨by decide, wp_mono (b_gtl hG hg hg9 hF2 hQ2 hM2 hJ2 hC2 (by omega) (Int.le_refl _) hc0 hj1 hA hB rg) (fun _ W' h => ?_)⟩
    rw [wp_ib, wp_ret es, wp_ig, wp_ite, if_pos rfl]
    exact ⟨by decide, h⟩
theorem b_group (hT : byt T n) (hM : Mst W T n 1 j) (hJ : Cst J T n j) (hG : GrR W J g c) (hC : ChR W J c) (hg : 2 * g ≤ j) (hc : 2 * c ≤ j) : ∃ W' v J', I12_readGroup W = some ((), W') ∧ G7_readsGroup J = some (v, J') ∧ gRes T n W J g j W' v J' := by
  have hj120 := (Cst.le hT hJ).1
  have hc0 := hC.1.1
  have g0 := hG.1.1
  have key : wp I12_readGroup (fun _ W' => wp G7_readsGroup (fun v J' => gRes T n W J g j W' v J') J) W := by
    have hG9 := hG
    obtain ⟨⟨_, g24, g3, g4, g5, g6, g7⟩, _⟩ := hG9
    refine m_head hT ⟨g0, by omega⟩ hM g24 (fun W1 j1 f l r a b hr hF1 hM1 h241 h251 A26 A27 A28 A29 Ar => ?_) (fun W' j' hr hF hM' => ?_)
    · refine wp_comm (c_head hT ⟨g0, by omega⟩ hJ ⟨g3, g4, g5⟩ (fun J1 j1' f' l' r' a' b' hr' hj1 hQ1 hJ1 h4 s1 s1' B3 B4 B5 Br rg => ?_) (fun J' j'' hr' _ _ => by rw [hr] at hr'; cases hr'))
      rw [hr] at hr'
      cases hr'
      have Ao : ∀ k, k ≠ 30 → (iu2 W1 30 g b).2 k = W1.2 k := fun k hk => by
        funext x
        rw [iu2_2, if_neg (fun r => hk r.1)]
      have hA : gMo W (iu2 W1 30 g b) g f l r a b := ⟨h241, fun i => by rw [Ao 26 (by decide)]; exact A26 i, fun i => by rw [Ao 27 (by decide)]; exact A27 i, fun i => by rw [Ao 28 (by decide)]; exact A28 i, fun i => by rw [Ao 29 (by decide)]; exact A29 i, fun i => by rw [iu2_2, Ar 30 (by omega) (by omega)]; simp only [true_and], by rw [Ao 31 (by decide)]; exact Ar 31 (by omega) (by omega)⟩
      have t6 : js J1 1 6 = g := by rw [s1' 6 (by omega) (by omega)]; exact g6
      have hB : gCl J (addR J1 6 b) g f l r a b := by
        refine ⟨⟨s1.1, s1.2.1, s1.2.2, by show js J1 1 6 + 1 = g + 1; rw [t6], by rw [addR_s, if_neg (by omega), s1' 7 (by omega) (by omega)]; exact g7⟩, fun x => ?_, fun x => ?_, fun x => ?_, fun x => ?_, ?_⟩
        · rw [addR_a, if_neg (by omega)]; exact B3 x
        · rw [addR_a, if_neg (by omega)]; exact B4 x
        · rw [addR_a, if_neg (by omega)]; exact B5 x
        · rw [addR_a, t6, Br 6 (by omega) (by omega)]
          simp only [true_and]
        · funext x; rw [addR_a, if_neg (by omega), Br 7 (by omega) (by omega)]
      have hC2 : ChR (iu2 W1 30 g b) (addR J1 6 b) c := hC.fr h251 (fun k q1 q2 => by rw [Ao k (by omega)]; exact Ar k (by omega) q2) (fun i q1 q2 => by rw [addR_s, if_neg (by omega)]; exact s1' i (by omega) q2) (fun i q1 q2 => by funext x; rw [addR_a, if_neg (by omega), Br i (by omega) q2])
      have mid := b_gmid hT hG hg (by omega) hc hc0 (hF1.trans (FrG.a (by omega))) (hQ1.trans (FrQ.add (by omega))) (hM1.a (by decide)) (hJ1.f (FrQ.add (by omega)) rfl) hC2 hj1 hA hB rg
      have mid2 := wp_comm mid
      unfold G7_readsGroup_117
      rw [wp_ib, jG4, h4, wp_ib]
      refine c_addV (by omega) (by omega) (by omega) fun J2 e2 => ?_
      rw [e2]
      refine wp_mono mid2 fun v J' h => ?_
      unfold I12_readGroup_105
      rw [wp_ib, wS30]
      exact ⟨by omega, h⟩
    · refine c_head hT ⟨g0, by omega⟩ hJ ⟨g3, g4, g5⟩ (fun J1 j1' f' l' r' a' b' hr' hj1 hQ1 hJ1 h4 s1 s1' B3 B4 B5 Br rg => by rw [hr] at hr'; cases hr') (fun J' j'' hr' hQ h5 => ?_)
      rw [hr] at hr'
      cases hr'
      exact ⟨hF, hQ, Or.inr ⟨rfl, j', hM', h5⟩⟩
  obtain ⟨u, W', e1, h1⟩ := wp_ex key
  obtain ⟨v, J', e2, h2⟩ := wp_ex h1
  exact ⟨W', v, J', e1, e2, h2⟩
end PR5
