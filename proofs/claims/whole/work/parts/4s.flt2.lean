/-! ===== the model's fault of a formula ===== -/
/-- groups as they were read -/
def grB (R : Nat → Int → Int) (g c : Int) : Prop := (∀ i, 0 ≤ i → i < g → (0 ≤ R 26 i ∧ R 26 i ≤ 70) ∧ (0 ≤ R 27 i ∧ R 27 i ≤ 70) ∧ ((R 28 i = 0 ∧ R 27 i = R 26 i) ∨ R 28 i = 1) ∧ (0 ≤ R 29 i ∧ R 29 i ≤ 999) ∧ (0 ≤ R 30 i ∧ R 30 i ≤ 999) ∧ 0 ≤ R 31 i ∧ R 31 i ≤ R 31 (i + 1) ∧ R 31 (i + 1) ≤ c) ∧ R 31 0 = 0 ∧ R 31 g = c
section FLT2
variable {W : IS} {J : JS}
theorem GrR.b {g c : Int} (h : GrR W J g c) : grB W.2 g c := ⟨fun i i0 i1 => (h.2.1 i i0 i1).2, h.2.2.1, h.2.2.2⟩
theorem gH_bd {R : Nat → Int → Int} {g c : Int} (hB : grB R g c) : ∀ k : Nat, (k : Int) ≤ g → -1 ≤ gH R k ∧ gH R k ≤ 70
  | 0, _ => by unfold gH; omega
  | k + 1, h => by
    have := gH_bd hB k (by omega)
    have h1 := hB.1 k (by omega) (by omega)
    unfold gH
    split <;> omega
theorem gX_bd {R : Nat → Int → Int} : ∀ k : Nat, gX R k = 0 ∨ gX R k = 1
  | 0 => Or.inl rfl
  | k + 1 => by
    have := gX_bd (R := R) k
    unfold gX
    split <;> omega
theorem m_fg114 {g n k f l : Int} (hg : g ≤ 60) (hn : n ≤ 60) (hB : chB W.2 n) (hG : grB W.2 g n) (hk : 0 ≤ k ∧ k < g) (hf : 0 ≤ f ∧ f ≤ 70) (hl : 0 ≤ l ∧ l ≤ 70) {Q : Int → IS → Prop} (hq : ∀ v, FT W.2 f l (W.2 29 k) (W.2 30 k) (W.2 31 k) (W.2 31 (k + 1)) v → Q v W) : wp (I12_faultOfGroup_114 LFU k f l (W.2 31 k)) Q W := by
  have hk1 := hG.1 k hk.1 hk.2
  have lp : ∀ (d m : Nat) (c : Int), d < m → W.2 31 k ≤ c → c + d = W.2 31 (k + 1) → (∀ x, W.2 31 k ≤ x → x < c → G4 W.2 f l (W.2 29 k) (W.2 30 k) x) → wp (I12_faultOfGroup_114 m k f l c) Q W := by
    intro d
    induction d with
    | zero =>
      intro m c hm h1 h2 hp
      cases m with
      | zero => omega
      | succ m =>
        have ec : c = W.2 31 (k + 1) := by omega
        have n4 : ¬ P4 W.2 f l (W.2 29 k) (W.2 30 k) (W.2 31 k) (W.2 31 (k + 1)) := fun ⟨x, q1, q2, q3⟩ => q3 (hp x q1 (by omega))
        unfold I12_faultOfGroup_114 I12_faultOfGroup_114_st I12_faultOfGroup_195
        simp only [wp_ib, wp_ig, wp_ite, wp_ir, wp_igI, wp_ipI, wp_ipZ, wp_inz, wp_idI, wp_irI, wp_iSl, wp_iSc, wp_iSi, iu1_1, iu1_2, iu2_1, iu2_2, wA0, wS0, wA6, wS6, wA7, wS7, wA8, wS8, wA9, wS9, wA10, wS10, wA11, wS11, wA12, wS12, wA13, wS13, wA14, wS14, wA16, wS16, wA17, wS17, wA18, wS18, wA26, wS26, wA27, wS27, wZ28, wY28, wA29, wS29, wA30, wS30, wA31, wS31, wA32, wS32, wA33, wS33, wA34, wS34, wA35, wS35, wA36, wS36, wA38, wS38, wA39, wS39, wA40, wS40, wZ41, wY41, wA45, wS45, wA46, wS46, wZ47, wY47, wZ48, wY48, Nat.reduceEqDiff, reduceIte, false_and, true_and, and_true, and_self, if_false, if_true, and_false]
        rw [if_pos (by omega)]
        refine ⟨by omega, by omega, by omega, by omega, by omega, ?_⟩
        refine m_isFewPut (n := n) (by omega) hB (by omega) (by omega) (by omega) (fun n5 => ?_) (fun c5 => ?_)
        · rw [if_neg (by decide)]
          refine ⟨by decide, by omega, by omega, ?_⟩
          refine m_isTwice (n := n) (by omega) hB (by omega) (by omega) (by omega) (fun c6 => ?_) (fun n6 => ?_)
          · rw [if_neg (by decide)]
            exact ⟨by decide, hq 6 (Or.inr ⟨n4, Or.inr ⟨n5, Or.inl ⟨rfl, c6⟩⟩⟩)⟩
          · rw [if_pos rfl]
            exact ⟨by decide, hq 0 (Or.inr ⟨n4, Or.inr ⟨n5, Or.inr ⟨rfl, n6⟩⟩⟩)⟩
        · rw [if_pos rfl]
          exact ⟨by decide, hq 5 (Or.inr ⟨n4, Or.inl ⟨rfl, c5⟩⟩)⟩
    | succ d ih =>
      intro m c hm h1 h2 hp
      cases m with
      | zero => omega
      | succ m =>
        have bc := hB c (by omega) (by omega)
        have bad : ¬ G4 W.2 f l (W.2 29 k) (W.2 30 k) c → Q 4 W := fun q => hq 4 (Or.inl ⟨rfl, c, h1, by omega, q⟩)
        have good : G4 W.2 f l (W.2 29 k) (W.2 30 k) c → wp (I12_faultOfGroup_114 m k f l (c + 1)) Q W := fun q => ih m (c + 1) (by omega) (by omega) (by omega) fun x q1 q2 => by
          by_cases e : x = c
          · rw [e]; exact q
          · exact hp x q1 (by omega)
        unfold G4 at bad good
        unfold I12_faultOfGroup_114 I12_faultOfGroup_114_st I12_faultOfGroup_181
        simp only [wp_ib, wp_ig, wp_ite, wp_ir, wp_igI, wp_ipI, wp_ipZ, wp_inz, wp_idI, wp_irI, wp_iSl, wp_iSc, wp_iSi, iu1_1, iu1_2, iu2_1, iu2_2, wA0, wS0, wA6, wS6, wA7, wS7, wA8, wS8, wA9, wS9, wA10, wS10, wA11, wS11, wA12, wS12, wA13, wS13, wA14, wS14, wA16, wS16, wA17, wS17, wA18, wS18, wA26, wS26, wA27, wS27, wZ28, wY28, wA29, wS29, wA30, wS30, wA31, wS31, wA32, wS32, wA33, wS33, wA34, wS34, wA35, wS35, wA36, wS36, wA38, wS38, wA39, wS39, wA40, wS40, wZ41, wY41, wA45, wS45, wA46, wS46, wZ47, wY47, wZ48, wY48, Nat.reduceEqDiff, reduceIte, false_and, true_and, and_true, and_self, if_false, if_true, and_false]
        rw [if_neg (show ¬ W.2 31 (k + 1) ≤ c by omega)]
        refine ⟨by omega, by omega, by omega, by omega, ?_⟩
        rw [wp_ret (m_isIn (by omega) (by omega) (by omega))]
        refine ⟨ifR, ?_⟩
        by_cases c1 : f ≤ W.2 33 c ∧ W.2 33 c ≤ l
        · rw [if_pos c1, if_neg (by decide), par2 (by omega)]
          refine ⟨by omega, ⟨by decide, by omega, by omega, by decide⟩, by omega, ?_⟩
          by_cases c2 : (W.2 33 c - f) % 2 = 0
          · rw [if_pos c2] at bad good ⊢
            refine ⟨by omega, ?_⟩
            rw [wp_ret (m_isIn (by omega) (by decide) (by omega))]
            refine ⟨ifR, ?_⟩
            by_cases c3 : 1 ≤ W.2 34 c ∧ W.2 34 c ≤ W.2 29 k
            · rw [if_pos c3, if_neg (by decide)]
              exact good ⟨c1, c3⟩
            · rw [if_neg c3, if_pos rfl]
              exact bad fun q => c3 q.2
          · rw [if_neg c2] at bad good ⊢
            refine ⟨by omega, ?_⟩
            rw [wp_ret (m_isIn (by omega) (by decide) (by omega))]
            refine ⟨ifR, ?_⟩
            by_cases c3 : 1 ≤ W.2 34 c ∧ W.2 34 c ≤ W.2 30 k
            · rw [if_pos c3, if_neg (by decide)]
              exact good ⟨c1, c3⟩
            · rw [if_neg c3, if_pos rfl]
              exact bad fun q => c3 q.2
        · rw [if_neg c1, if_pos rfl]
          exact bad fun q => c1 q.1
  exact lp (W.2 31 (k + 1) - W.2 31 k).toNat LFU (W.2 31 k) (by unfold LFU; omega) (Int.le_refl _) (by omega) (fun x q1 q2 => by omega)
theorem m_faultOfGroup {g n k hi x : Int} (hg : g ≤ 60) (hn : n ≤ 60) (hB : chB W.2 n) (hG : grB W.2 g n) (hk : 0 ≤ k ∧ k < g) (hh : -1 ≤ hi ∧ hi ≤ 70) (hx : x = 0 ∨ x = 1) {Q : Int → IS → Prop} (hq : ∀ v, FG W.2 k hi x v → Q v W) : wp (I12_faultOfGroup k hi x) Q W := by
  obtain ⟨b26, b27, b28, b29, b30, b31, b32, b33⟩ := hG.1 k hk.1 hk.2
  unfold FG at hq
  have r80 : ¬ bad1 W.2 k → ¬ bad2 W.2 k hi x → wp (I12_faultOfGroup_80 k (W.2 26 k) (W.2 27 k)) Q W := by
    intro n1 n2
    unfold I12_faultOfGroup_80
    simp only [wp_ib, wp_ig, wp_ite, wp_ir, wp_igI, wp_ipI, wp_ipZ, wp_inz, wp_idI, wp_irI, wp_iSl, wp_iSc, wp_iSi, iu1_1, iu1_2, iu2_1, iu2_2, wA0, wS0, wA6, wS6, wA7, wS7, wA8, wS8, wA9, wS9, wA10, wS10, wA11, wS11, wA12, wS12, wA13, wS13, wA14, wS14, wA16, wS16, wA17, wS17, wA18, wS18, wA26, wS26, wA27, wS27, wZ28, wY28, wA29, wS29, wA30, wS30, wA31, wS31, wA32, wS32, wA33, wS33, wA34, wS34, wA35, wS35, wA36, wS36, wA38, wS38, wA39, wS39, wA40, wS40, wZ41, wY41, wA45, wS45, wA46, wS46, wZ47, wY47, wZ48, wY48, Nat.reduceEqDiff, reduceIte, false_and, true_and, and_true, and_self, if_false, if_true, and_false]
    refine ⟨by omega, m_isSize b29 (fun z1 => ?_) (fun z1 => ?_)⟩
    · rw [if_neg (by decide)]
      refine ⟨by decide, by omega, m_isSize b30 (fun z2 => ?_) (fun z2 => ?_)⟩
      · rw [if_neg (by decide)]
        have n3 : ¬ bad3 W.2 k := fun q => by rcases q with q | q; exact q z1; exact q z2
        exact ⟨by decide, by omega, m_fg114 hg hn hB hG hk b26 b27 fun v hv => hq v (Or.inr ⟨n1, Or.inr ⟨n2, Or.inr ⟨n3, hv⟩⟩⟩)⟩
      · rw [if_pos rfl]
        exact ⟨by decide, hq 3 (Or.inr ⟨n1, Or.inr ⟨n2, Or.inl ⟨rfl, Or.inr z2⟩⟩⟩)⟩
    · rw [if_pos rfl]
      exact ⟨by decide, hq 3 (Or.inr ⟨n1, Or.inr ⟨n2, Or.inl ⟨rfl, Or.inl z1⟩⟩⟩)⟩
  have r58 : ¬ bad1 W.2 k → wp (I12_faultOfGroup_58 k hi x (W.2 26 k) (W.2 27 k)) Q W := by
    intro n1
    have b2 : bad2 W.2 k hi x → Q 2 W := fun q => hq 2 (Or.inr ⟨n1, Or.inl ⟨rfl, q⟩⟩)
    have r80 := r80 n1
    unfold bad2 at b2 r80
    unfold I12_faultOfGroup_58
    simp only [wp_ib, wp_ig, wp_ite, wp_ir, wp_igI, wp_ipI, wp_ipZ, wp_inz, wp_idI, wp_irI, wp_iSl, wp_iSc, wp_iSi, iu1_1, iu1_2, iu2_1, iu2_2, wA0, wS0, wA6, wS6, wA7, wS7, wA8, wS8, wA9, wS9, wA10, wS10, wA11, wS11, wA12, wS12, wA13, wS13, wA14, wS14, wA16, wS16, wA17, wS17, wA18, wS18, wA26, wS26, wA27, wS27, wZ28, wY28, wA29, wS29, wA30, wS30, wA31, wS31, wA32, wS32, wA33, wS33, wA34, wS34, wA35, wS35, wA36, wS36, wA38, wS38, wA39, wS39, wA40, wS40, wZ41, wY41, wA45, wS45, wA46, wS46, wZ47, wY47, wZ48, wY48, Nat.reduceEqDiff, reduceIte, false_and, true_and, and_true, and_self, if_false, if_true, and_false]
    refine ⟨by omega, ?_⟩
    by_cases c1 : W.2 26 k = 70
    · rw [if_pos c1]
      refine ⟨by omega, ?_⟩
      by_cases c2 : x = 0
      · rw [if_pos c2]; exact r80 (by omega)
      · rw [if_neg c2]; exact b2 (by omega)
    · rw [if_neg c1]
      refine ⟨by omega, ?_⟩
      by_cases c2 : hi < W.2 26 k
      · rw [if_pos c2]; exact r80 (by omega)
      · rw [if_neg c2]; exact b2 (by omega)
  have b1 : bad1 W.2 k → Q 1 W := fun q => hq 1 (Or.inl ⟨rfl, q⟩)
  unfold bad1 at b1 r58
  unfold I12_faultOfGroup
  simp only [wp_ib, wp_ig, wp_ite, wp_ir, wp_igI, wp_ipI, wp_ipZ, wp_inz, wp_idI, wp_irI, wp_iSl, wp_iSc, wp_iSi, iu1_1, iu1_2, iu2_1, iu2_2, wA0, wS0, wA6, wS6, wA7, wS7, wA8, wS8, wA9, wS9, wA10, wS10, wA11, wS11, wA12, wS12, wA13, wS13, wA14, wS14, wA16, wS16, wA17, wS17, wA18, wS18, wA26, wS26, wA27, wS27, wZ28, wY28, wA29, wS29, wA30, wS30, wA31, wS31, wA32, wS32, wA33, wS33, wA34, wS34, wA35, wS35, wA36, wS36, wA38, wS38, wA39, wS39, wA40, wS40, wZ41, wY41, wA45, wS45, wA46, wS46, wZ47, wY47, wZ48, wY48, Nat.reduceEqDiff, reduceIte, false_and, true_and, and_true, and_self, if_false, if_true, and_false]
  refine ⟨by omega, by omega, by omega, by omega, ?_⟩
  by_cases c1 : W.2 28 k = 0
  · rw [if_pos c1]; exact r58 (by omega)
  · rw [if_neg c1]
    refine ⟨by omega, ?_⟩
    by_cases c2 : W.2 26 k = 0
    · rw [if_pos c2]; exact b1 (by omega)
    · rw [if_neg c2]
      by_cases c3 : W.2 26 k = 70
      · rw [if_pos c3]; exact b1 (by omega)
      · rw [if_neg c3]
        refine ⟨by omega, ?_⟩
        by_cases c4 : W.2 27 k = 0
        · rw [if_pos c4]; exact b1 (by omega)
        · rw [if_neg c4]
          by_cases c5 : W.2 27 k = 70
          · rw [if_pos c5]; exact b1 (by omega)
          · rw [if_neg c5]
            by_cases c6 : W.2 26 k < W.2 27 k
            · rw [if_pos c6]; exact r58 (by omega)
            · rw [if_neg c6]; exact b1 (by omega)
theorem FG_bd {R : Nat → Int → Int} {k hi x v : Int} (h : FG R k hi x v) : 0 ≤ v ∧ v ≤ 6 := by
  unfold FG FT at h
  omega
theorem m_faultOfAll {g : Nat} {n : Int} (hg : (g : Int) ≤ 60) (hn : n ≤ 60) (hB : chB W.2 n) (hG : grB W.2 g n) (h24 : W.1 24 = g) {Q : Int → IS → Prop} (hq : ∀ v, FA W.2 g v → 0 ≤ v ∧ v ≤ 6 → Q v W) : wp I12_faultOfAll Q W := by
  have lp : ∀ (d m k : Nat), d < m → k + d = g → (∀ i : Nat, i < k → FG W.2 i (gH W.2 i) (gX W.2 i) 0) → wp (I12_faultOfAll_6 m (gH W.2 k) (gX W.2 k) k) Q W := by
    intro d
    induction d with
    | zero =>
      intro m k hm h1 hp
      cases m with
      | zero => omega
      | succ m =>
        unfold I12_faultOfAll_6 I12_faultOfAll_6_st
        simp only [wp_ib, wp_ig, wp_ite, wp_ir, wp_igI, wp_ipI, wp_ipZ, wp_inz, wp_idI, wp_irI, wp_iSl, wp_iSc, wp_iSi, iu1_1, iu1_2, iu2_1, iu2_2, wA0, wS0, wA6, wS6, wA7, wS7, wA8, wS8, wA9, wS9, wA10, wS10, wA11, wS11, wA12, wS12, wA13, wS13, wA14, wS14, wA16, wS16, wA17, wS17, wA18, wS18, wA26, wS26, wA27, wS27, wZ28, wY28, wA29, wS29, wA30, wS30, wA31, wS31, wA32, wS32, wA33, wS33, wA34, wS34, wA35, wS35, wA36, wS36, wA38, wS38, wA39, wS39, wA40, wS40, wZ41, wY41, wA45, wS45, wA46, wS46, wZ47, wY47, wZ48, wY48, Nat.reduceEqDiff, reduceIte, false_and, true_and, and_true, and_self, if_false, if_true, and_false]
        rw [h24, if_pos (by omega)]
        exact ⟨by omega, by omega, hq 0 (Or.inl ⟨rfl, fun i hi => hp i (by omega)⟩) (by omega)⟩
    | succ d ih =>
      intro m k hm h1 hp
      cases m with
      | zero => omega
      | succ m =>
        obtain ⟨b26, b27, _⟩ := hG.1 k (by omega) (by omega)
        have hkk : (0 : Int) ≤ (k : Int) ∧ (k : Int) < (g : Int) := by omega
        have hh := gH_bd hG k (by omega)
        have hx := gX_bd (R := W.2) k
        obtain ⟨ki, hki⟩ : ∃ ki : Int, ki = (k : Int) := ⟨_, rfl⟩
        rw [← hki] at hkk
        obtain ⟨v, W', eg, eW, hv⟩ := wp_ex (m_faultOfGroup (W := W) (Q := fun v W' => W' = W ∧ FG W.2 ki (gH W.2 k) (gX W.2 k) v) hg hn hB hG hkk hh hx fun v hv => ⟨rfl, hv⟩)
        rw [hki] at eg hv
        rw [eW] at eg
        have hb := FG_bd hv
        unfold I12_faultOfAll_6 I12_faultOfAll_6_st I12_faultOfAll_54
        simp only [wp_ib, wp_ig, wp_ite, wp_ir, wp_igI, wp_ipI, wp_ipZ, wp_inz, wp_idI, wp_irI, wp_iSl, wp_iSc, wp_iSi, iu1_1, iu1_2, iu2_1, iu2_2, wA0, wS0, wA6, wS6, wA7, wS7, wA8, wS8, wA9, wS9, wA10, wS10, wA11, wS11, wA12, wS12, wA13, wS13, wA14, wS14, wA16, wS16, wA17, wS17, wA18, wS18, wA26, wS26, wA27, wS27, wZ28, wY28, wA29, wS29, wA30, wS30, wA31, wS31, wA32, wS32, wA33, wS33, wA34, wS34, wA35, wS35, wA36, wS36, wA38, wS38, wA39, wS39, wA40, wS40, wZ41, wY41, wA45, wS45, wA46, wS46, wZ47, wY47, wZ48, wY48, Nat.reduceEqDiff, reduceIte, false_and, true_and, and_true, and_self, if_false, if_true, and_false]
        rw [h24, if_neg (by omega)]
        refine ⟨by omega, by omega, ?_⟩
        rw [wp_ret eg]
        refine ⟨by omega, ?_⟩
        by_cases c : v ≤ 0
        · have e0 : v = 0 := by omega
          subst e0
          rw [if_pos (by decide)]
          have nx := ih m (k + 1) (by omega) (by omega) (fun i hi => by
            by_cases e : i = k
            · rw [e]; exact hv
            · exact hp i (by omega))
          have ek : ((k + 1 : Nat) : Int) = (k : Int) + 1 := by omega
          rw [ek] at nx
          unfold gH gX at nx
          refine ⟨by omega, by omega, ?_⟩
          by_cases c7 : W.2 26 k = 70
          · rw [if_pos c7, if_pos c7] at nx
            rw [if_pos c7]
            exact nx
          · rw [if_neg c7, if_neg c7] at nx
            rw [if_neg c7]
            exact ⟨by omega, nx⟩
        · rw [if_neg c]
          exact hq v (Or.inr ⟨by omega, k, by omega, hp, hv⟩) hb
  exact lp g LFU 0 (by unfold LFU; omega) (by omega) (fun i hi => by omega)
end FLT2
