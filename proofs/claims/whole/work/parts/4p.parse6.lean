/-! ===== a text begins and ends; both read a formula ===== -/
section PR6
variable {T : Int → Int} {n : Int} {W : IS} {J : JS} {j : Nat} {g c : Int}
theorem m_begins (hT : byt (W.2 0) (W.1 1)) {Q : Unit → IS → Prop} (hq : ∀ W', W'.2 = W.2 → (∀ k, k < 19 ∨ 23 < k → k ≠ 4 → W'.1 k = W.1 k) → W'.1 4 = 0 → Mst W' (W.2 0) (W.1 1) 1 0 → Q () W') : wp I12_begins Q W := by
  have hn := hT.1
  unfold I12_begins
  simp only [wp_ib, wp_ig, wp_ite, wp_ir, wp_igI, wp_ipI, wp_ipZ, wp_inz, wp_idI, wp_irI, wp_iSl, wp_iSc, wp_iSi, iu1_1, iu1_2, iu2_1, iu2_2, wA0, wS0, wA6, wS6, wA7, wS7, wA8, wS8, wA9, wS9, wA10, wS10, wA11, wS11, wA12, wS12, wA13, wS13, wA14, wS14, wA16, wS16, wA17, wS17, wA18, wS18, wA26, wS26, wA27, wS27, wZ28, wY28, wA29, wS29, wA30, wS30, wA31, wS31, wA32, wS32, wA33, wS33, wA34, wS34, wA35, wS35, wA36, wS36, wA38, wS38, wA39, wS39, wA40, wS40, wZ41, wY41, wA45, wS45, wA46, wS46, wZ47, wY47, wZ48, wY48, Nat.reduceEqDiff, reduceIte, false_and, true_and, and_true, and_self, if_false, if_true, and_false]
  refine ⟨by decide, ?_⟩
  refine m_next (W := iu1 (iu1 (iu1 W 19 0) 23 1) 4 0) hT (by show (0 : Int) ≤ 0; omega) (by show (0 : Int) ≤ W.1 1; omega) fun W' hF hL => ?_
  refine hq W' hF.1 (fun k q1 q2 => ?_) ?_ ⟨by rw [hF.1]; rfl, hF.2 1 (by omega), hF.2 23 (by omega), hL⟩
  · rw [hF.2 k (by omega)]
    show (if k = 4 then 0 else if k = 23 then 1 else if k = 19 then 0 else W.1 k) = W.1 k
    rw [if_neg q2, if_neg (by omega), if_neg (by omega)]
  · rw [hF.2 4 (by omega)]
    rfl
theorem tkM0 {k : Int} (h0 : 0 ≤ k) : tkM k = 0 ↔ k = 0 := by
  unfold tkM
  split
  · omega
  · split
    · omega
    · split
      · omega
      · split <;> omega
theorem m_ends (hT : byt T n) {gd : Int} (hgd : gd = 0 ∨ gd = 1) (hM : Mst W T n gd j) {Q : Int → IS → Prop} (hs : gd = 1 → kdP T n (tkP T n j) = 0 → ∀ W', W'.2 = W.2 → (∀ k, k ≠ 1 → k ≠ 3 → k ≠ 23 → W'.1 k = W.1 k) → W'.1 1 = 0 → W'.1 3 = -9 → Q 1 W') (hf : gd = 0 ∨ kdP T n (tkP T n j) ≠ 0 → ∀ W', W'.2 = W.2 → (∀ k, k ≠ 1 → k ≠ 3 → k ≠ 23 → W'.1 k = W.1 k) → W'.1 1 = 0 → W'.1 3 = tkP T n j → Q 0 W') : wp I12_ends Q W := by
  obtain ⟨h0, h1, h2, h3⟩ := hM
  have hb := tkP_bd (T := T) (n := n) hT.1.1 j
  have hk := kdP_bd hT hb.1
  have hl := h3.kd h0 h1
  have hR := tkR hk.1 hk.2
  have h20 : W.1 20 = tkP T n j := h3.1
  have fr : ∀ (x y : Int), (∀ k, k ≠ 1 → k ≠ 3 → k ≠ 23 → (iu1 (iu1 (iu1 W 23 x) 3 y) 1 0).1 k = W.1 k) := fun x y k q1 q2 q3 => by
    show (if k = 1 then 0 else if k = 3 then y else if k = 23 then x else W.1 k) = W.1 k
    rw [if_neg q1, if_neg q2, if_neg q3]
  have bad : gd = 0 ∨ kdP T n (tkP T n j) ≠ 0 → wp (I12_ends_20 0) Q W := fun h => by
    unfold I12_ends_20
    simp only [wp_ib, wp_ig, wp_ite, wp_ir, wp_igI, wp_ipI, wp_ipZ, wp_inz, wp_idI, wp_irI, wp_iSl, wp_iSc, wp_iSi, iu1_1, iu1_2, iu2_1, iu2_2, wA0, wS0, wA6, wS6, wA7, wS7, wA8, wS8, wA9, wS9, wA10, wS10, wA11, wS11, wA12, wS12, wA13, wS13, wA14, wS14, wA16, wS16, wA17, wS17, wA18, wS18, wA26, wS26, wA27, wS27, wZ28, wY28, wA29, wS29, wA30, wS30, wA31, wS31, wA32, wS32, wA33, wS33, wA34, wS34, wA35, wS35, wA36, wS36, wA38, wS38, wA39, wS39, wA40, wS40, wZ41, wY41, wA45, wS45, wA46, wS46, wZ47, wY47, wZ48, wY48, Nat.reduceEqDiff, reduceIte, false_and, true_and, and_true, and_self, if_false, if_true, and_false]
    rw [h20]
    have := hf h (iu1 (iu1 (iu1 W 23 0) 3 (tkP T n j)) 1 0) rfl (fr 0 (tkP T n j)) rfl rfl
    exact ⟨by decide, by decide, by simp, this⟩
  unfold I12_ends I12_ends_19
  simp only [wp_ib, wp_ig, wp_ite, wp_ir, wp_igI, wp_ipI, wp_ipZ, wp_inz, wp_idI, wp_irI, wp_iSl, wp_iSc, wp_iSi, iu1_1, iu1_2, iu2_1, iu2_2, wA0, wS0, wA6, wS6, wA7, wS7, wA8, wS8, wA9, wS9, wA10, wS10, wA11, wS11, wA12, wS12, wA13, wS13, wA14, wS14, wA16, wS16, wA17, wS17, wA18, wS18, wA26, wS26, wA27, wS27, wZ28, wY28, wA29, wS29, wA30, wS30, wA31, wS31, wA32, wS32, wA33, wS33, wA34, wS34, wA35, wS35, wA36, wS36, wA38, wS38, wA39, wS39, wA40, wS40, wZ41, wY41, wA45, wS45, wA46, wS46, wZ47, wY47, wZ48, wY48, Nat.reduceEqDiff, reduceIte, false_and, true_and, and_true, and_self, if_false, if_true, and_false]
  rw [h2]
  refine ⟨by omega, ?_⟩
  by_cases c1 : gd = 0
  · rw [if_pos c1]
    exact bad (Or.inl c1)
  · rw [if_neg c1, hl.1]
    refine ⟨hR, ?_⟩
    by_cases c2 : kdP T n (tkP T n j) = 0
    · rw [if_pos ((tkM0 hk.1).mpr c2)]
      unfold I12_ends_20
      simp only [wp_ib, wp_ig, wp_ite, wp_ir, wp_igI, wp_ipI, wp_ipZ, wp_inz, wp_idI, wp_irI, wp_iSl, wp_iSc, wp_iSi, iu1_1, iu1_2, iu2_1, iu2_2, wA0, wS0, wA6, wS6, wA7, wS7, wA8, wS8, wA9, wS9, wA10, wS10, wA11, wS11, wA12, wS12, wA13, wS13, wA14, wS14, wA16, wS16, wA17, wS17, wA18, wS18, wA26, wS26, wA27, wS27, wZ28, wY28, wA29, wS29, wA30, wS30, wA31, wS31, wA32, wS32, wA33, wS33, wA34, wS34, wA35, wS35, wA36, wS36, wA38, wS38, wA39, wS39, wA40, wS40, wZ41, wY41, wA45, wS45, wA46, wS46, wZ47, wY47, wZ48, wY48, Nat.reduceEqDiff, reduceIte, false_and, true_and, and_true, and_self, if_false, if_true, and_false]
      have := hs (by omega) c2 (iu1 (iu1 (iu1 W 23 1) 3 (-9)) 1 0) rfl (fr 1 (-9)) rfl rfl
      refine ⟨by decide, by decide, ?_⟩
      rw [if_neg (by decide)]
      exact ⟨by decide, this⟩
    · rw [if_neg (fun q => c2 ((tkM0 hk.1).mp q))]
      exact bad (Or.inr c2)
/-- the class begins a text -/
def FrR (J J' : JS) : Prop := (∀ t i, ¬ (t = 3 ∨ t = 4 ∨ t = 5 ∨ (t = 1 ∧ i ≤ 11)) → js J' t i = js J t i) ∧ (∀ t i, ¬ (t = 1 ∧ i ≤ 11) → ja J' t i = ja J t i) ∧ J'.2.2 = J.2.2
theorem FrR.trans {J1 J2 J3 : JS} (h : FrR J1 J2) (h' : FrR J2 J3) : FrR J1 J3 := ⟨fun t i q => (h'.1 t i q).trans (h.1 t i q), fun t i q => (h'.2.1 t i q).trans (h.2.1 t i q), h'.2.2.trans h.2.2⟩
theorem FrQ.r {J' : JS} (h : FrQ J J') : FrR J J' := ⟨fun t i q => h.1 t i (by omega), fun t i q => h.2.1 t i (by omega), h.2.2⟩
theorem FrT.r {J' : JS} (h : FrT J J') : FrR J J' := ⟨fun t i q => h.1 t i (by omega), fun t i q => h.2.1 t i (by omega), h.2.2⟩
def Ck (J : JS) (k : Nat) (J1 : JS) : Prop := FrR J J1 ∧ js J1 5 0 = -9 ∧ js J1 3 0 = 0 ∧ ∀ i, 3 ≤ i → i < k → js J1 1 i = 0
theorem Ck.s {k : Nat} {J1 : JS} (h1 : 3 ≤ k) (h2 : k ≤ 11) (h : Ck J k J1) : Ck J (k + 1) (ju1 J1 1 k 0) := by
  obtain ⟨a, b, c, d⟩ := h
  refine ⟨a.trans ⟨fun t i q => ?_, fun t i q => rfl, rfl⟩, ?_, ?_, fun i q1 q2 => ?_⟩
  · rw [ju1_s, if_neg (by omega)]
  · rw [ju1_s, if_neg (by omega)]; exact b
  · rw [ju1_s, if_neg (by omega)]; exact c
  · rw [ju1_s]
    by_cases e : i = k
    · rw [if_pos ⟨rfl, e⟩]
    · rw [if_neg (fun r => e r.2)]; exact d i q1 (by omega)
theorem Ck.z : Ck J 3 (ju1 (ju1 J 3 0 0) 5 0 (-9)) := by
  refine ⟨⟨fun t i q => ?_, fun t i q => rfl, rfl⟩, ?_, ?_, fun i q1 q2 => by omega⟩
  · rw [ju1_s, if_neg (by omega), ju1_s, if_neg (by omega)]
  · rw [ju1_s, if_pos ⟨rfl, rfl⟩]
  · rw [ju1_s, if_neg (by omega), ju1_s, if_pos ⟨rfl, rfl⟩]
theorem c_clr (k : Nat) {J1 : JS} {f : Unit → JM Unit} {Q : Unit → JS → Prop} (h1 : 3 ≤ k) (h2 : k ≤ 11) (h : Ck J k J1) (hq : ∀ J2, Ck J (k + 1) J2 → wp (f ()) Q J2) : wp (ib (G8_clear k) f) Q J1 := by
  rw [wp_ib, wp_ret (c_clear (Or.inl (by omega)))]
  exact hq _ (h.s h1 h2)
theorem c_clr4 {J1 : JS} {f : Unit → JM Unit} {Q : Unit → JS → Prop} (h : Ck J 3 J1) (hq : ∀ J2, Ck J 8 J2 → wp (f ()) Q J2) : wp (ib G4_clear f) Q J1 := by
  rw [wp_ib]
  unfold G4_clear
  refine c_clr 3 (by omega) (by omega) h fun J2 h => ?_
  refine c_clr 4 (by omega) (by omega) h fun J2 h => ?_
  refine c_clr 5 (by omega) (by omega) h fun J2 h => ?_
  refine c_clr 6 (by omega) (by omega) h fun J2 h => ?_
  refine c_clr 7 (by omega) (by omega) h fun J2 h => ?_
  exact hq _ h
theorem c_clr5 {J1 : JS} {f : Unit → JM Unit} {Q : Unit → JS → Prop} (h : Ck J 8 J1) (hq : ∀ J2, Ck J 12 J2 → wp (f ()) Q J2) : wp (ib G5_clear f) Q J1 := by
  rw [wp_ib]
  unfold G5_clear
  refine c_clr 8 (by omega) (by omega) h fun J2 h => ?_
  refine c_clr 9 (by omega) (by omega) h fun J2 h => ?_
  refine c_clr 10 (by omega) (by omega) h fun J2 h => ?_
  refine c_clr 11 (by omega) (by omega) h fun J2 h => ?_
  exact hq _ h
theorem c_begin (hC : CT J) (hT : TpR J T n) {Q : Unit → JS → Prop} (hq : ∀ J', FrR J J' → Cst J' T n 0 → js J' 5 0 = -9 → (∀ i, 3 ≤ i → i ≤ 11 → js J' 1 i = 0) → Q () J') : wp G7_begin Q J := by
  unfold G7_begin
  rw [wp_ib, jP3, wp_ib, jP5]
  refine c_clr4 Ck.z fun J1 h1 => ?_
  refine c_clr5 h1 fun J2 h2 => ?_
  obtain ⟨eF, e5, e30, e3⟩ := h2
  have hT1 : TpR J2 T n := by
    unfold TpR
    rw [eF.1 2 0 (by omega), eF.2.1 2 0 (by omega)]
    exact hT
  rw [wp_ib]
  refine c_cutIntoPieces (hC.r eF.2.2) hT1 fun J' N hF h1 h2 h3 => ?_
  exact hq J' (eF.trans hF.r) ⟨⟨N, h1, h2, h3⟩, by rw [hF.1 3 0 (by omega)]; exact e30, fun i hi => by omega⟩ (by rw [hF.1 5 0 (by omega)]; exact e5) (fun i q1 q2 => by rw [hF.1 1 i (by omega)]; exact e3 i q1 (by omega))
/-- all groups, from one's beginning on -/
theorem b_groups (hT : byt T n) {W0 : IS} {J0 : JS} : ∀ (d : Nat) (W : IS) (J : JS) (j m m' : Nat) (g c x : Int), 120 - j < d → d ≤ m → d ≤ m' → 0 ≤ x → x ≤ g → FrG W0 W → FrQ J0 J → Mst W T n 1 j → Cst J T n j → GrR W J g c → ChR W J c → 2 * g ≤ j → 2 * c ≤ j →
    ∃ W' v J', (∀ Q, wp I12_book_46 Q W' → wp (ib I12_readGroup fun _ => I12_book_25 m) Q W) ∧ G7_readsFormula_6 m' x J = some (v, J') ∧ FrG W0 W' ∧ FrQ J0 J' ∧ ((v = 1 ∧ ∃ j' g' c', Mst W' T n 1 j' ∧ kdP T n (tkP T n j') = 0 ∧ GrR W' J' g' c' ∧ ChR W' J' c' ∧ (1 ≤ g' ∧ g' ≤ 60) ∧ c' ≤ 60) ∨ (v = 0 ∧ ∃ j' gd, (gd = 0 ∨ (gd = 1 ∧ kdP T n (tkP T n j') ≠ 0)) ∧ Mst W' T n gd j' ∧ js J' 5 0 = tkP T n j')) := by
  intro d
  induction d with
  | zero =>
    intro W J j m m' g c x hd
    omega
  | succ d ih =>
    intro W J j m m' g c x hd hm hm' hx hxg hF hQ hM hJ hG hC hg hc
    have hj120 := (Cst.le hT hJ).1
    cases m with
    | zero => omega
    | succ m =>
      cases m' with
      | zero => omega
      | succ m' =>
        obtain ⟨W1, v, J1, e1, e2, hF1, hQ1, hh⟩ := b_group hT hM hJ hG hC hg hc
        have hl : ∀ (F : Int → JS → Prop), (R32 v ∧ if v = 0 then F 0 J1 else wp (G7_skips 0) (fun v2 s' => R32 v2 ∧ if v2 = 0 then wp (G7_readsFormula_6 m' (x + 1)) F s' else F 1 s') J1) → wp (G7_readsFormula_6 (m' + 1) x) F J := by
          intro F hF
          unfold G7_readsFormula_6 G7_readsFormula_6_st
          simp only [wp_ib, wp_ig, wp_ite, jp_ret, jp_nz, jp_dI, jp_rI, jp_g9, jp_E, jpN1, jp_Bk, jp_Ck, jp_W, jp_R, jp_Tx, jp_Sl, jp_Sc, jp_Si, jp_Sq, jp_Xl, jp_X0, jp_Xc, jp_Xs, jp_Xi, jp_Tos, jp_NB, jp_NC, kj_1, kj_2, kj_3, kj_4, jpA1, jpS1, jp_con, ju1_s, ju1_a, ju2_s, ju2_a, juA_s, juA_a, jux_s, jux_a, jux_x, jux_t, ju1_jB, ju2_jB, juA_jB, ju1_jC, ju2_jC, juA_jC, ju1_jT, ju2_jT, juA_jT, ju1_jb, ju2_jb, juA_jb, ju1_jd, ju2_jd, juA_jd, ju1_jt, ju2_jt, juA_jt, ju1_jx, ju2_jx, juA_jx, ju1_jw, ju2_jw, juA_jw, ju1_jr, ju2_jr, juA_jr, ju1_jn, ju2_jn, juA_jn, jux_jB, jux_jC, jux_jT, jux_jb, jux_jd, jux_jw, jux_jr, jux_jn, jG2, jP2, jG3, jP3, jG4, jP4, jG5, jP5, jG8, jP8, jG9, jP9, jG10, jP10, jG11, jP11, jG1, jP1, jG6, jP6, jG7, jP7, jG12, jP12, wj2, wk2, wn2, wj3, wk3, wn3, wj4, wk4, wn4, wj5, wk5, wn5, wj6, wk6, wn6, wj7, wk7, wn7, wj8, wk8, wn8, wj9, wk9, wn9, wj10, wk10, wn10, Nat.reduceEqDiff, reduceIte, false_and, true_and, and_true, and_self, if_false, if_true, and_false]
          rw [if_neg (by omega), wp_ret e2]
          exact ⟨by omega, hF⟩
        rcases hh with ⟨hv, j1, c1, hM1, hJ1, hG1, hC1, hg1, hc1, hj1⟩ | ⟨hv, j1, hM1, h5⟩
        · have hj1120 := (Cst.le hT hJ1).1
          have hb1 := tkP_bd (T := T) (n := n) hT.1.1 j1
          have hk1 := kdP_bd hT hb1.1
          have hl1 := hM1.2.2.2.kd hM1.1 hM1.2.1
          have hR1 := tkR hk1.1 hk1.2
          have h23 : W1.1 23 = 1 := hM1.2.2.1
          by_cases ce : kdP T n (tkP T n j1) = 0
          · -- the end
            have sw : wp (G7_skips 0) (fun v J2 => v = 1 ∧ J2 = ju1 J1 3 0 ((j1 : Int) + 1)) J1 := c_skips hT (by decide) hJ1 (fun _ => ⟨rfl, rfl⟩) (fun k => absurd ce k)
            obtain ⟨v2, J2, es, hv2, e3⟩ := wp_ex sw
            have hw : wp (G7_readsFormula_6 (m' + 1) x) (fun v J' => v = 1 ∧ J' = J2) J := by
              refine hl _ ⟨by omega, ?_⟩
              rw [if_neg (by omega), wp_ret es]
              refine ⟨by omega, ?_⟩
              rw [if_neg (by omega)]
              exact ⟨rfl, rfl⟩
            refine ⟨W1, 1, J2, fun Q hq => ?_, wp_eq hw, hF.trans hF1, (hQ.trans hQ1).trans (by rw [e3]; exact FrQ.u (by omega)), Or.inl ⟨rfl, j1, g + 1, c1, hM1, ce, ?_, ?_, by have := hG1.1.1; omega, by omega⟩⟩
            · rw [wp_ib, wp_ret e1]
              unfold I12_book_25 I12_book_25_st
              simp only [wp_ib, wp_ig, wp_ite, wp_ir, wp_igI, wp_ipI, wp_ipZ, wp_inz, wp_idI, wp_irI, wp_iSl, wp_iSc, wp_iSi, iu1_1, iu1_2, iu2_1, iu2_2, wA0, wS0, wA6, wS6, wA7, wS7, wA8, wS8, wA9, wS9, wA10, wS10, wA11, wS11, wA12, wS12, wA13, wS13, wA14, wS14, wA16, wS16, wA17, wS17, wA18, wS18, wA26, wS26, wA27, wS27, wZ28, wY28, wA29, wS29, wA30, wS30, wA31, wS31, wA32, wS32, wA33, wS33, wA34, wS34, wA35, wS35, wA36, wS36, wA38, wS38, wA39, wS39, wA40, wS40, wZ41, wY41, wA45, wS45, wA46, wS46, wZ47, wY47, wZ48, wY48, Nat.reduceEqDiff, reduceIte, false_and, true_and, and_true, and_self, if_false, if_true, and_false]
              rw [h23, if_neg (by decide), hl1.1, if_pos ((tkM0 hk1.1).mpr ce)]
              exact ⟨by decide, hR1, hq⟩
            · unfold GrR at hG1 ⊢
              rw [e3, ju1_s, ju1_s, ju1_s, ju1_s, ju1_s, if_neg (by omega), if_neg (by omega), if_neg (by omega), if_neg (by omega), if_neg (by omega)]
              exact hG1
            · exact hC1.fr rfl (fun _ _ _ => rfl) (fun i _ _ => by rw [e3, ju1_s, if_neg (by omega)]) (fun i _ _ => by rw [e3]; rfl)
          · -- one more
            have sw : wp (G7_skips 0) (fun v J2 => v = 0 ∧ J2 = J1) J1 := c_skips hT (by decide) hJ1 (fun k => absurd k ce) (fun _ => ⟨rfl, rfl⟩)
            obtain ⟨v2, J2, es, hv2, e3⟩ := wp_ex sw
            rw [e3] at es
            obtain ⟨W', v', J', a1, a2, a3, a4, a5⟩ := ih W1 J1 j1 m m' (g + 1) c1 (x + 1) (by omega) (by omega) (by omega) (by omega) (by omega) (hF.trans hF1) (hQ.trans hQ1) hM1 hJ1 hG1 hC1 hg1 hc1
            have hw : wp (G7_readsFormula_6 (m' + 1) x) (fun v J9 => v = v' ∧ J9 = J') J := by
              refine hl _ ⟨by omega, ?_⟩
              rw [if_neg (by omega), wp_ret es]
              refine ⟨by omega, ?_⟩
              rw [if_pos hv2, wp_ret a2]
              exact ⟨rfl, rfl⟩
            refine ⟨W', v', J', fun Q hq => ?_, wp_eq hw, a3, a4, a5⟩
            have := a1 Q hq
            rw [wp_ib, wp_ret e1]
            unfold I12_book_25 I12_book_25_st
            simp only [wp_ib, wp_ig, wp_ite, wp_igI] at this ⊢
            rw [h23, if_neg (by decide), hl1.1, if_neg (fun q => ce ((tkM0 hk1.1).mp q))]
            exact ⟨by decide, hR1, this⟩
        · have h23 : W1.1 23 = 0 := hM1.2.2.1
          have hw : wp (G7_readsFormula_6 (m' + 1) x) (fun v J' => v = 0 ∧ J' = J1) J := by
            refine hl _ ⟨by omega, ?_⟩
            rw [if_pos hv]
            exact ⟨rfl, rfl⟩
          refine ⟨W1, 0, J1, fun Q hq => ?_, wp_eq hw, hF.trans hF1, hQ.trans hQ1, Or.inr ⟨rfl, j1, 0, Or.inl rfl, hM1, h5⟩⟩
          rw [wp_ib, wp_ret e1]
          unfold I12_book_25 I12_book_25_st
          simp only [wp_ib, wp_ig, wp_ite, wp_ir, wp_igI, wp_ipI, wp_ipZ, wp_inz, wp_idI, wp_irI, wp_iSl, wp_iSc, wp_iSi, iu1_1, iu1_2, iu2_1, iu2_2, wA0, wS0, wA6, wS6, wA7, wS7, wA8, wS8, wA9, wS9, wA10, wS10, wA11, wS11, wA12, wS12, wA13, wS13, wA14, wS14, wA16, wS16, wA17, wS17, wA18, wS18, wA26, wS26, wA27, wS27, wZ28, wY28, wA29, wS29, wA30, wS30, wA31, wS31, wA32, wS32, wA33, wS33, wA34, wS34, wA35, wS35, wA36, wS36, wA38, wS38, wA39, wS39, wA40, wS40, wZ41, wY41, wA45, wS45, wA46, wS46, wZ47, wY47, wZ48, wY48, Nat.reduceEqDiff, reduceIte, false_and, true_and, and_true, and_self, if_false, if_true, and_false]
          rw [h23, if_pos rfl]
          exact ⟨by decide, hq⟩
/-- a formula: the model stands before its faults, the class has read -/
theorem b_formula (hC : CT J) (hT : TpR J (W.2 0) (W.1 1)) : ∃ W' v J', (∀ Q, wp I12_book_46 Q W' → wp I12_book Q W) ∧ G7_readsFormula J = some (v, J') ∧ ((∀ k, k < 19 ∨ 25 < k → k ≠ 4 → W'.1 k = W.1 k) ∧ W'.1 4 = 0 ∧ ∀ k, k < 26 ∨ 35 < k → W'.2 k = W.2 k) ∧ FrR J J' ∧ ((v = 1 ∧ js J' 5 0 = -9 ∧ ∃ j' g' c', Mst W' (W.2 0) (W.1 1) 1 j' ∧ kdP (W.2 0) (W.1 1) (tkP (W.2 0) (W.1 1) j') = 0 ∧ GrR W' J' g' c' ∧ ChR W' J' c' ∧ (1 ≤ g' ∧ g' ≤ 60) ∧ c' ≤ 60) ∨ (v = 0 ∧ ∃ j' gd, (gd = 0 ∨ (gd = 1 ∧ kdP (W.2 0) (W.1 1) (tkP (W.2 0) (W.1 1) j') ≠ 0)) ∧ Mst W' (W.2 0) (W.1 1) gd j' ∧ js J' 5 0 = tkP (W.2 0) (W.1 1) j')) := by
  have hb := hT.2.1
  obtain ⟨u, W1, e1, q1, q2, q3, hM⟩ := wp_ex (m_begins (Q := fun _ W' => W'.2 = W.2 ∧ (∀ k, k < 19 ∨ 23 < k → k ≠ 4 → W'.1 k = W.1 k) ∧ W'.1 4 = 0 ∧ Mst W' (W.2 0) (W.1 1) 1 0) hb (fun W' a b c d => ⟨a, b, c, d⟩))
  obtain ⟨u2, J1, e2, r1, r2, r3, r4⟩ := wp_ex (c_begin (Q := fun _ J' => FrR J J' ∧ Cst J' (W.2 0) (W.1 1) 0 ∧ js J' 5 0 = -9 ∧ (∀ i, 3 ≤ i → i ≤ 11 → js J' 1 i = 0)) hC hT (fun J' a b c d => ⟨a, b, c, d⟩))
  have hM2 : Mst (iu2 (iu1 (iu1 W1 24 0) 25 0) 31 0 0) (W.2 0) (W.1 1) 1 0 := ((hM.m (by omega)).m (by omega)).a (by decide)
  have hG : GrR (iu2 (iu1 (iu1 W1 24 0) 25 0) 31 0 0) J1 0 0 := ⟨⟨Int.le_refl _, rfl, r4 3 (by omega) (by omega), r4 4 (by omega) (by omega), r4 5 (by omega) (by omega), r4 6 (by omega) (by omega), r4 7 (by omega) (by omega)⟩, fun i i0 i1 => by omega, by rw [iu2_2, if_pos ⟨rfl, rfl⟩], by rw [iu2_2, if_pos ⟨rfl, rfl⟩]⟩
  have hCh : ChR (iu2 (iu1 (iu1 W1 24 0) 25 0) 31 0 0) J1 0 := ⟨⟨Int.le_refl _, rfl, r4 8 (by omega) (by omega), r4 9 (by omega) (by omega), r4 10 (by omega) (by omega), r4 11 (by omega) (by omega)⟩, fun i i0 i1 => by omega⟩
  obtain ⟨W', v, J', a1, a2, a3, a4, a5⟩ := b_groups (W0 := iu2 (iu1 (iu1 W1 24 0) 25 0) 31 0 0) (J0 := J1) hb 121 _ J1 0 LFU LFU 0 0 0 (by omega) (by unfold LFU; omega) (by unfold LFU; omega) (Int.le_refl _) (Int.le_refl _) FrG.refl FrQ.refl hM2 r2 hG hCh (by omega) (by omega)
  have hf : G7_readsFormula J = some (v, J') := by
    refine wp_eq ?_
    unfold G7_readsFormula
    rw [wp_ib, wp_ret e2, wp_ret a2]
    exact ⟨rfl, rfl⟩
  refine ⟨W', v, J', fun Q hq => ?_, hf, ⟨fun k k1 k2 => ?_, ?_, fun k k1 => ?_⟩, r1.trans a4.r, ?_⟩
  · have := a1 Q hq
    rw [wp_ib] at this
    unfold I12_book
    simp only [wp_ib, wp_ig, wp_ite, wp_ir, wp_igI, wp_ipI, wp_ipZ, wp_inz, wp_idI, wp_irI, wp_iSl, wp_iSc, wp_iSi, iu1_1, iu1_2, iu2_1, iu2_2, wA0, wS0, wA6, wS6, wA7, wS7, wA8, wS8, wA9, wS9, wA10, wS10, wA11, wS11, wA12, wS12, wA13, wS13, wA14, wS14, wA16, wS16, wA17, wS17, wA18, wS18, wA26, wS26, wA27, wS27, wZ28, wY28, wA29, wS29, wA30, wS30, wA31, wS31, wA32, wS32, wA33, wS33, wA34, wS34, wA35, wS35, wA36, wS36, wA38, wS38, wA39, wS39, wA40, wS40, wZ41, wY41, wA45, wS45, wA46, wS46, wZ47, wY47, wZ48, wY48, Nat.reduceEqDiff, reduceIte, false_and, true_and, and_true, and_self, if_false, if_true, and_false]
    rw [wp_ret e1]
    exact ⟨by decide, this⟩
  · rw [a3.1 k k1]
    show (if k = 25 then 0 else if k = 24 then 0 else W1.1 k) = W.1 k
    rw [if_neg (by omega), if_neg (by omega)]
    exact q2 k (by omega) k2
  · rw [a3.1 4 (by omega)]
    exact q3
  · rw [a3.2 k k1]
    funext x
    rw [iu2_2, if_neg (by omega)]
    show W1.2 k x = _
    rw [q1]
  · rcases a5 with ⟨hv, rest⟩ | ⟨hv, rest⟩
    · refine Or.inl ⟨hv, ?_, rest⟩
      rw [pz_formula LFU 0 J1 v J' a2 (by omega)]
      exact r3
    · exact Or.inr ⟨hv, rest⟩
end PR6
