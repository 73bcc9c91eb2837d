/-! ===== both readers read a group ===== -/
def rdH (T : Int → Int) (n : Int) (j : Nat) : Nat × Option (Int × Int × Int × Int × Int) :=
  if kdP T n (tkP T n j) ≠ 1 then (j, none)
  else if kdP T n (tkP T n (j + 1)) = 45 then
    (if kdP T n (tkP T n (j + 2)) ≠ 1 then (j + 2, none) else if kdP T n (tkP T n (j + 3)) ≠ 2 then (j + 3, none)
     else if kdP T n (tkP T n (j + 4)) = 44 then
       (if kdP T n (tkP T n (j + 5)) ≠ 2 then (j + 5, none) else (j + 6, some (vlP T n (tkP T n j), vlP T n (tkP T n (j + 2)), 1, vlP T n (tkP T n (j + 3)), vlP T n (tkP T n (j + 5)))))
     else (j + 4, some (vlP T n (tkP T n j), vlP T n (tkP T n (j + 2)), 1, vlP T n (tkP T n (j + 3)), vlP T n (tkP T n (j + 3)))))
  else (if kdP T n (tkP T n (j + 1)) ≠ 2 then (j + 1, none) else (j + 2, some (vlP T n (tkP T n j), vlP T n (tkP T n j), 0, vlP T n (tkP T n (j + 1)), vlP T n (tkP T n (j + 1)))))
def FrG (W W' : IS) : Prop := (∀ k, k < 19 ∨ 25 < k → W'.1 k = W.1 k) ∧ (∀ k, k < 26 ∨ 35 < k → W'.2 k = W.2 k)
section PR3
variable {T : Int → Int} {n : Int} {W : IS} {J : JS} {j : Nat} {g c : Int}
theorem FrG.trans {W1 W2 W3 : IS} (h : FrG W1 W2) (h' : FrG W2 W3) : FrG W1 W3 := ⟨fun k q => (h'.1 k q).trans (h.1 k q), fun k q => (h'.2 k q).trans (h.2 k q)⟩
theorem FrG.refl : FrG W W := ⟨fun _ _ => rfl, fun _ _ => rfl⟩
theorem FrY.gg {W' : IS} (h : FrY W W') : FrG W W' := ⟨fun k q => h.2 k (by omega), fun k _ => by rw [h.1]⟩
theorem FrC2.gg {W' : IS} (h : FrC2 W W') : FrG W W' := ⟨fun k q => h.1 k (by omega), fun k q => h.2.2 k (by omega)⟩
theorem FrG.a {k : Nat} {i x : Int} (h : 26 ≤ k ∧ k ≤ 35) : FrG W (iu2 W k i x) := ⟨fun _ _ => rfl, fun k' q => by funext l; rw [iu2_2, if_neg (by omega)]⟩
theorem FrG.m {k : Nat} {x : Int} (h : k = 24 ∨ k = 25) : FrG W (iu1 W k x) := ⟨fun k' q => if_neg (by omega), fun _ _ => rfl⟩
/-- the end of a group that is wrong -/
theorem m_105f {b : Int} (hg : 0 ≤ g ∧ g < 119) (hM : Mst W T n 0 j) (h24 : W.1 24 = g) {Q : Unit → IS → Prop} (hq : ∀ W', FrG W W' → Mst W' T n 0 j → Q () W') : wp (I12_readGroup_105 b g 30) Q W := by
  unfold I12_readGroup_105 I12_readGroup_125
  simp only [wp_ib, wp_ig, wp_ite, wp_ir, wp_igI, wp_ipI, wp_ipZ, wp_inz, wp_idI, wp_irI, wp_iSl, wp_iSc, wp_iSi, iu1_1, iu1_2, iu2_1, iu2_2, wA0, wS0, wA6, wS6, wA7, wS7, wA8, wS8, wA9, wS9, wA10, wS10, wA11, wS11, wA12, wS12, wA13, wS13, wA14, wS14, wA16, wS16, wA17, wS17, wA18, wS18, wA26, wS26, wA27, wS27, wZ28, wY28, wA29, wS29, wA30, wS30, wA31, wS31, wA32, wS32, wA33, wS33, wA34, wS34, wA35, wS35, wA36, wS36, wA38, wS38, wA39, wS39, wA40, wS40, wZ41, wY41, wA45, wS45, wA46, wS46, wZ47, wY47, wZ48, wY48, Nat.reduceEqDiff, reduceIte, false_and, true_and, and_true, and_self, if_false, if_true, and_false]
  refine ⟨by omega, m_goes0 (hM.a (by decide)) ?_⟩
  have e24 : (iu2 W 30 g b).1 24 = g := h24
  rw [if_pos rfl, e24]
  refine ⟨by decide, by omega, hq _ ((FrG.a (by omega)).trans ((FrG.m (by omega)).trans (FrG.a (by omega)))) (((hM.a (by decide)).m (by omega)).a (by decide))⟩
theorem m_56f {y : Int} (hg : 0 ≤ g ∧ g < 119) (hM : Mst W T n 0 j) (h24 : W.1 24 = g) (h28 : W.2 28 g = 0 ∨ W.2 28 g = 1) {Q : Unit → IS → Prop} (hq : ∀ W', FrG W W' → Mst W' T n 0 j → Q () W') : wp (I12_readGroup_56 g y g 27) Q W := by
  unfold I12_readGroup_56 I12_readGroup_99
  simp only [wp_ib, wp_ig, wp_ite, wp_ir, wp_igI, wp_ipI, wp_ipZ, wp_inz, wp_idI, wp_irI, wp_iSl, wp_iSc, wp_iSi, iu1_1, iu1_2, iu2_1, iu2_2, wA0, wS0, wA6, wS6, wA7, wS7, wA8, wS8, wA9, wS9, wA10, wS10, wA11, wS11, wA12, wS12, wA13, wS13, wA14, wS14, wA16, wS16, wA17, wS17, wA18, wS18, wA26, wS26, wA27, wS27, wZ28, wY28, wA29, wS29, wA30, wS30, wA31, wS31, wA32, wS32, wA33, wS33, wA34, wS34, wA35, wS35, wA36, wS36, wA38, wS38, wA39, wS39, wA40, wS40, wZ41, wY41, wA45, wS45, wA46, wS46, wZ47, wY47, wZ48, wY48, Nat.reduceEqDiff, reduceIte, false_and, true_and, and_true, and_self, if_false, if_true, and_false]
  refine ⟨by omega, m_take0 (hM.a (by decide)) fun W2 hY2 hM2 => ?_⟩
  have e28 : W2.2 28 g = W.2 28 g := by rw [hY2.1, iu2_2, if_neg (by omega)]
  have hM3 : Mst (iu2 W2 29 g 0) T n 0 j := hM2.a (by decide)
  have h243 : (iu2 W2 29 g 0).1 24 = g := by show W2.1 24 = g; rw [hY2.2 24 (by omega)]; exact h24
  have hF3 : FrG W (iu2 W2 29 g 0) := (FrG.a (by omega)).trans (hY2.gg.trans (FrG.a (by omega)))
  have end' : ∀ v, wp (I12_readGroup_105 v g 30) Q (iu2 W2 29 g 0) := fun v => m_105f hg hM3 h243 fun W' hF hM' => hq W' (hF3.trans hF) hM'
  rw [e28]
  refine ⟨by omega, by omega, by omega, ?_⟩
  by_cases c : W.2 28 g = 0
  · rw [if_pos c]
    exact ⟨by omega, end' _⟩
  · rw [if_neg c]
    refine m_goes0 hM3 ?_
    rw [if_pos rfl]
    exact ⟨by decide, by omega, end' _⟩
/-- the model reads a group's head -/
theorem m_head (hT : byt T n) (hg : 0 ≤ g ∧ g < 119) (hM : Mst W T n 1 j) (h24 : W.1 24 = g) {Q : Unit → IS → Prop}
    (hs : ∀ W' j' f l r a b, rdH T n j = (j', some (f, l, r, a, b)) → FrG W W' → Mst W' T n 1 j' → W'.1 24 = g → W'.1 25 = W.1 25 → (∀ i, W'.2 26 i = if i = g then f else W.2 26 i) → (∀ i, W'.2 27 i = if i = g then l else W.2 27 i) → (∀ i, W'.2 28 i = if i = g then r else W.2 28 i) → (∀ i, W'.2 29 i = if i = g then a else W.2 29 i) → (∀ k, 30 ≤ k → k ≤ 35 → W'.2 k = W.2 k) → wp (I12_readGroup_105 b g 30) Q W')
    (hf : ∀ W' j', rdH T n j = (j', none) → FrG W W' → Mst W' T n 0 j' → Q () W') : wp I12_readGroup Q W := by
  unfold rdH at hs hf
  unfold I12_readGroup
  simp only [wp_ib, wp_ig, wp_ite, wp_ir, wp_igI, wp_ipI, wp_ipZ, wp_inz, wp_idI, wp_irI, wp_iSl, wp_iSc, wp_iSi, iu1_1, iu1_2, iu2_1, iu2_2, wA0, wS0, wA6, wS6, wA7, wS7, wA8, wS8, wA9, wS9, wA10, wS10, wA11, wS11, wA12, wS12, wA13, wS13, wA14, wS14, wA16, wS16, wA17, wS17, wA18, wS18, wA26, wS26, wA27, wS27, wZ28, wY28, wA29, wS29, wA30, wS30, wA31, wS31, wA32, wS32, wA33, wS33, wA34, wS34, wA35, wS35, wA36, wS36, wA38, wS38, wA39, wS39, wA40, wS40, wZ41, wY41, wA45, wS45, wA46, wS46, wZ47, wY47, wZ48, wY48, Nat.reduceEqDiff, reduceIte, false_and, true_and, and_true, and_self, if_false, if_true, and_false]
  rw [h24]
  refine m_take hT (Or.inl ⟨rfl, rfl⟩) hM (fun k1 W1 hY1 hM1 => ?_) (fun k1 W1 hY1 hM1 => ?_)
  · rw [if_neg (fun q => q k1)] at hs hf
    refine ⟨by omega, ?_⟩
    have hM2 : Mst (iu2 W1 26 g (vlP T n (tkP T n j))) T n 1 (j + 1) := hM1.a (by decide)
    refine m_goes hT (by decide) hM2 (fun k2 W3 hY3 hM3 => ?_) (fun k2 => ?_)
    · rw [if_pos k2] at hs hf
      have hM4 : Mst (iu2 W3 28 g 1) T n 1 (j + 2) := hM3.a (by decide)
      refine ⟨⟨by omega, by decide⟩, by omega, by decide, ?_⟩
      rw [if_neg (by decide)]
      refine m_take hT (Or.inl ⟨rfl, rfl⟩) hM4 (fun k3 W5 hY5 hM5 => ?_) (fun k3 W5 hY5 hM5 => ?_)
      · rw [if_neg (fun q => q k3)] at hs hf
        unfold I12_readGroup_56 I12_readGroup_99
        simp only [wp_ib, wp_ig, wp_ite, wp_ir, wp_igI, wp_ipI, wp_ipZ, wp_inz, wp_idI, wp_irI, wp_iSl, wp_iSc, wp_iSi, iu1_1, iu1_2, iu2_1, iu2_2, wA0, wS0, wA6, wS6, wA7, wS7, wA8, wS8, wA9, wS9, wA10, wS10, wA11, wS11, wA12, wS12, wA13, wS13, wA14, wS14, wA16, wS16, wA17, wS17, wA18, wS18, wA26, wS26, wA27, wS27, wZ28, wY28, wA29, wS29, wA30, wS30, wA31, wS31, wA32, wS32, wA33, wS33, wA34, wS34, wA35, wS35, wA36, wS36, wA38, wS38, wA39, wS39, wA40, wS40, wZ41, wY41, wA45, wS45, wA46, wS46, wZ47, wY47, wZ48, wY48, Nat.reduceEqDiff, reduceIte, false_and, true_and, and_true, and_self, if_false, if_true, and_false]
        have hM6 : Mst (iu2 W5 27 g (vlP T n (tkP T n (j + 2)))) T n 1 (j + 3) := hM5.a (by decide)
        refine ⟨by omega, m_take hT (Or.inr ⟨rfl, rfl⟩) hM6 (fun k4 W7 hY7 hM7 => ?_) (fun k4 W7 hY7 hM7 => ?_)⟩
        · rw [if_neg (fun q => q k4)] at hs hf
          have hM8 : Mst (iu2 W7 29 g (vlP T n (tkP T n (j + 3)))) T n 1 (j + 4) := hM7.a (by decide)
          have e28 : W7.2 28 g = 1 := by simp only [hY7.1, iu2_2, hY5.1, Nat.reduceEqDiff, false_and, if_false, and_self, if_true]
          have e24 : W7.1 24 = g := by rw [hY7.2 24 (by omega)]; show W5.1 24 = g; rw [hY5.2 24 (by omega)]; show W3.1 24 = g; rw [hY3.2 24 (by omega)]; show W1.1 24 = g; rw [hY1.2 24 (by omega)]; exact h24
          have e25 : W7.1 25 = W.1 25 := by rw [hY7.2 25 (by omega)]; show W5.1 25 = _; rw [hY5.2 25 (by omega)]; show W3.1 25 = _; rw [hY3.2 25 (by omega)]; show W1.1 25 = _; rw [hY1.2 25 (by omega)]
          have hF8 : FrG W (iu2 W7 29 g (vlP T n (tkP T n (j + 3)))) := hY1.gg.trans ((FrG.a (by omega)).trans (hY3.gg.trans ((FrG.a (by omega)).trans (hY5.gg.trans ((FrG.a (by omega)).trans (hY7.gg.trans (FrG.a (by omega))))))))
          have A : (∀ i, (iu2 W7 29 g (vlP T n (tkP T n (j + 3)))).2 26 i = if i = g then vlP T n (tkP T n j) else W.2 26 i) ∧ (∀ i, (iu2 W7 29 g (vlP T n (tkP T n (j + 3)))).2 27 i = if i = g then vlP T n (tkP T n (j + 2)) else W.2 27 i) ∧ (∀ i, (iu2 W7 29 g (vlP T n (tkP T n (j + 3)))).2 28 i = if i = g then 1 else W.2 28 i) ∧ (∀ i, (iu2 W7 29 g (vlP T n (tkP T n (j + 3)))).2 29 i = if i = g then vlP T n (tkP T n (j + 3)) else W.2 29 i) ∧ (∀ k, 30 ≤ k → k ≤ 35 → (iu2 W7 29 g (vlP T n (tkP T n (j + 3)))).2 k = W.2 k) := by
            refine ⟨fun i => ?_, fun i => ?_, fun i => ?_, fun i => ?_, fun k q1 q2 => ?_⟩
            · simp only [iu2_2, hY7.1, hY5.1, hY3.1, hY1.1, Nat.reduceEqDiff, false_and, true_and, if_false]
            · simp only [iu2_2, hY7.1, hY5.1, hY3.1, hY1.1, Nat.reduceEqDiff, false_and, true_and, if_false]
            · simp only [iu2_2, hY7.1, hY5.1, hY3.1, hY1.1, Nat.reduceEqDiff, false_and, true_and, if_false]
            · simp only [iu2_2, hY7.1, hY5.1, hY3.1, hY1.1, Nat.reduceEqDiff, false_and, true_and, if_false]
            · funext l
              rw [iu2_2, if_neg (by omega), hY7.1, iu2_2, if_neg (by omega), hY5.1, iu2_2, if_neg (by omega), hY3.1, iu2_2, if_neg (by omega), hY1.1]
          rw [e28]
          refine ⟨by omega, by omega, by decide, ?_⟩
          rw [if_neg (by decide)]
          refine m_goes hT (by decide) hM8 (fun k5 W9 hY9 hM9 => ?_) (fun k5 => ?_)
          · rw [if_pos k5] at hs hf
            rw [if_neg (by decide)]
            refine ⟨by decide, m_take hT (Or.inr ⟨rfl, rfl⟩) hM9 (fun k6 WA hYA hMA => ?_) (fun k6 WA hYA hMA => ?_)⟩
            · rw [if_neg (fun q => q k6)] at hs
              refine hs WA _ _ _ _ _ _ rfl (hF8.trans (hY9.gg.trans hYA.gg)) hMA (by rw [hYA.2 24 (by omega), hY9.2 24 (by omega)]; exact e24) (by rw [hYA.2 25 (by omega), hY9.2 25 (by omega)]; exact e25) (fun i => ?_) (fun i => ?_) (fun i => ?_) (fun i => ?_) (fun k q1 q2 => ?_)
              · rw [hYA.1, hY9.1]; exact A.1 i
              · rw [hYA.1, hY9.1]; exact A.2.1 i
              · rw [hYA.1, hY9.1]; exact A.2.2.1 i
              · rw [hYA.1, hY9.1]; exact A.2.2.2.1 i
              · rw [hYA.1, hY9.1]; exact A.2.2.2.2 k q1 q2
            · rw [if_pos k6] at hf
              exact m_105f hg hMA (by rw [hYA.2 24 (by omega), hY9.2 24 (by omega)]; exact e24) fun W' hF hM' => hf W' _ rfl ((hF8.trans (hY9.gg.trans hYA.gg)).trans hF) hM'
          · rw [if_neg k5] at hs hf
            rw [if_pos rfl]
            have e29 : (iu2 W7 29 g (vlP T n (tkP T n (j + 3)))).2 29 g = vlP T n (tkP T n (j + 3)) := by rw [iu2_2, if_pos ⟨rfl, rfl⟩]
            rw [e29]
            exact ⟨by decide, by omega, hs _ _ _ _ _ _ _ rfl hF8 hM8 e24 e25 A.1 A.2.1 A.2.2.1 A.2.2.2.1 A.2.2.2.2⟩
        · rw [if_pos k4] at hf
          have hM8 : Mst (iu2 W7 29 g 0) T n 0 (j + 3) := hM7.a (by decide)
          have e28 : W7.2 28 g = 1 := by simp only [hY7.1, iu2_2, hY5.1, Nat.reduceEqDiff, false_and, if_false, and_self, if_true]
          have e24 : W7.1 24 = g := by rw [hY7.2 24 (by omega)]; show W5.1 24 = g; rw [hY5.2 24 (by omega)]; show W3.1 24 = g; rw [hY3.2 24 (by omega)]; show W1.1 24 = g; rw [hY1.2 24 (by omega)]; exact h24
          have hF8 : FrG W (iu2 W7 29 g 0) := hY1.gg.trans ((FrG.a (by omega)).trans (hY3.gg.trans ((FrG.a (by omega)).trans (hY5.gg.trans ((FrG.a (by omega)).trans (hY7.gg.trans (FrG.a (by omega))))))))
          rw [e28]
          refine ⟨by omega, by omega, by decide, ?_⟩
          rw [if_neg (by decide)]
          refine m_goes0 hM8 ?_
          rw [if_pos rfl]
          refine ⟨by decide, by omega, m_105f hg hM8 e24 fun W' hF hM' => hf W' _ rfl (hF8.trans hF) hM'⟩
      · rw [if_pos k3] at hf
        have e28 : W5.2 28 g = 1 := by simp only [hY5.1, iu2_2, Nat.reduceEqDiff, false_and, if_false, and_self, if_true]
        have e24 : W5.1 24 = g := by rw [hY5.2 24 (by omega)]; show W3.1 24 = g; rw [hY3.2 24 (by omega)]; show W1.1 24 = g; rw [hY1.2 24 (by omega)]; exact h24
        exact m_56f hg hM5 e24 (Or.inr e28) fun W' hF hM' => hf W' _ rfl ((hY1.gg.trans ((FrG.a (by omega)).trans (hY3.gg.trans ((FrG.a (by omega)).trans hY5.gg)))).trans hF) hM'
    · rw [if_neg k2] at hs hf
      have hM4 : Mst (iu2 (iu2 W1 26 g (vlP T n (tkP T n j))) 28 g 0) T n 1 (j + 1) := hM2.a (by decide)
      refine ⟨⟨by omega, by decide⟩, by omega, by decide, ?_⟩
      rw [if_pos rfl]
      unfold I12_readGroup_56 I12_readGroup_99
      simp only [wp_ib, wp_ig, wp_ite, wp_ir, wp_igI, wp_ipI, wp_ipZ, wp_inz, wp_idI, wp_irI, wp_iSl, wp_iSc, wp_iSi, iu1_1, iu1_2, iu2_1, iu2_2, wA0, wS0, wA6, wS6, wA7, wS7, wA8, wS8, wA9, wS9, wA10, wS10, wA11, wS11, wA12, wS12, wA13, wS13, wA14, wS14, wA16, wS16, wA17, wS17, wA18, wS18, wA26, wS26, wA27, wS27, wZ28, wY28, wA29, wS29, wA30, wS30, wA31, wS31, wA32, wS32, wA33, wS33, wA34, wS34, wA35, wS35, wA36, wS36, wA38, wS38, wA39, wS39, wA40, wS40, wZ41, wY41, wA45, wS45, wA46, wS46, wZ47, wY47, wZ48, wY48, Nat.reduceEqDiff, reduceIte, false_and, true_and, and_true, and_self, if_false, if_true, and_false]
      have hM6 : Mst (iu2 (iu2 (iu2 W1 26 g (vlP T n (tkP T n j))) 28 g 0) 27 g (vlP T n (tkP T n j))) T n 1 (j + 1) := hM4.a (by decide)
      refine ⟨by omega, by omega, m_take hT (Or.inr ⟨rfl, rfl⟩) hM6 (fun k4 W7 hY7 hM7 => ?_) (fun k4 W7 hY7 hM7 => ?_)⟩
      · rw [if_neg (fun q => q k4)] at hs
        have hM8 : Mst (iu2 W7 29 g (vlP T n (tkP T n (j + 1)))) T n 1 (j + 2) := hM7.a (by decide)
        have e28 : W7.2 28 g = 0 := by simp only [hY7.1, iu2_2, Nat.reduceEqDiff, false_and, if_false, and_self, if_true]
        have e24 : W7.1 24 = g := by rw [hY7.2 24 (by omega)]; show W1.1 24 = g; rw [hY1.2 24 (by omega)]; exact h24
        have e25 : W7.1 25 = W.1 25 := by rw [hY7.2 25 (by omega)]; show W1.1 25 = _; rw [hY1.2 25 (by omega)]
        have hF8 : FrG W (iu2 W7 29 g (vlP T n (tkP T n (j + 1)))) := hY1.gg.trans (((FrG.a (by omega)).trans ((FrG.a (by omega)).trans (FrG.a (by omega)))).trans (hY7.gg.trans (FrG.a (by omega))))
        rw [e28]
        refine ⟨by omega, by omega, by decide, ?_⟩
        rw [if_pos rfl]
        refine ⟨by omega, hs _ _ _ _ _ _ _ rfl hF8 hM8 e24 e25 (fun i => ?_) (fun i => ?_) (fun i => ?_) (fun i => ?_) (fun k q1 q2 => ?_)⟩
        · simp only [iu2_2, hY7.1, hY1.1, Nat.reduceEqDiff, false_and, true_and, if_false]
        · simp only [iu2_2, hY7.1, hY1.1, Nat.reduceEqDiff, false_and, true_and, if_false]
        · simp only [iu2_2, hY7.1, hY1.1, Nat.reduceEqDiff, false_and, true_and, if_false]
        · simp only [iu2_2, hY7.1, hY1.1, Nat.reduceEqDiff, false_and, true_and, if_false]
        · funext l
          rw [iu2_2, if_neg (by omega), hY7.1, iu2_2, if_neg (by omega), iu2_2, if_neg (by omega), iu2_2, if_neg (by omega), hY1.1]
      · rw [if_pos k4] at hf
        have hM8 : Mst (iu2 W7 29 g 0) T n 0 (j + 1) := hM7.a (by decide)
        have e28 : W7.2 28 g = 0 := by simp only [hY7.1, iu2_2, Nat.reduceEqDiff, false_and, if_false, and_self, if_true]
        have e24 : W7.1 24 = g := by rw [hY7.2 24 (by omega)]; show W1.1 24 = g; rw [hY1.2 24 (by omega)]; exact h24
        have hF8 : FrG W (iu2 W7 29 g 0) := hY1.gg.trans (((FrG.a (by omega)).trans ((FrG.a (by omega)).trans (FrG.a (by omega)))).trans (hY7.gg.trans (FrG.a (by omega))))
        rw [e28]
        refine ⟨by omega, by omega, by decide, ?_⟩
        rw [if_pos rfl]
        exact ⟨by omega, m_105f hg hM8 e24 fun W' hF hM' => hf W' _ rfl (hF8.trans hF) hM'⟩
  · rw [if_pos k1] at hf
    have hM2 : Mst (iu2 W1 26 g 0) T n 0 j := hM1.a (by decide)
    refine ⟨by omega, m_goes0 hM2 ?_⟩
    have hM4 : Mst (iu2 (iu2 W1 26 g 0) 28 g 0) T n 0 j := hM2.a (by decide)
    refine ⟨⟨by omega, by decide⟩, by omega, by decide, ?_⟩
    rw [if_pos rfl]
    refine ⟨by omega, m_56f hg hM4 (by show W1.1 24 = g; rw [hY1.2 24 (by omega)]; exact h24) (Or.inl (by simp only [iu2_2, and_self, if_true])) fun W' hF hM' => hf W' _ rfl ((hY1.gg.trans ((FrG.a (by omega)).trans (FrG.a (by omega)))).trans hF) hM'⟩
end PR3
