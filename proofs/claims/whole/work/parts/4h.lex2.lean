/-! ===== the model's next() ===== -/
section LXN
variable {W : IS}
theorem m_isSp {a : Nat} (ha : a < 19) {p n : Int} (hp0 : 0 ≤ p) (hn : n ≤ 120) (hT : ∀ i, 0 ≤ i → i < n → 0 ≤ W.2 0 i ∧ W.2 0 i ≤ 255) (hp : W.1 20 = p) (hl : p + (txt a).length ≤ n) {Q : Int → IS → Prop} : ∀ (d m k : Nat) (s : Int), d < m → k + d = (txt a).length → (s = 0 ∨ s = 1) → (∀ v, (v = 0 ∨ v = 1) → (v = 1 ↔ s = 1 ∧ ∀ j : Nat, k ≤ j → j < (txt a).length → W.2 0 (p + j) = ((txt a).getD j 0 : Nat)) → Q v W) → wp (I12_isSpelled_24 m a s k) Q W := by
  have hx := txt_le a ha
  intro d
  induction d with
  | zero =>
    intro m k s hm hk hs hq
    cases m with
    | zero => omega
    | succ m =>
      unfold I12_isSpelled_24 I12_isSpelled_24_st
      simp only [wp_ib, wp_ig, wp_ite, wp_ir, wp_igI, wp_ipI, wp_ipZ, wp_inz, wp_idI, wp_irI, wp_iSl, wp_iSc, wp_iSi, iu1_1, iu1_2, iu2_1, iu2_2, wA0, wS0, wA6, wS6, wA7, wS7, wA8, wS8, wA9, wS9, wA10, wS10, wA11, wS11, wA12, wS12, wA13, wS13, wA14, wS14, wA16, wS16, wA17, wS17, wA18, wS18, wA26, wS26, wA27, wS27, wZ28, wY28, wA29, wS29, wA30, wS30, wA31, wS31, wA32, wS32, wA33, wS33, wA34, wS34, wA35, wS35, wA36, wS36, wA38, wS38, wA39, wS39, wA40, wS40, wZ41, wY41, wA45, wS45, wA46, wS46, wZ47, wY47, wZ48, wY48, Nat.reduceEqDiff, reduceIte, false_and, true_and, and_true, and_self, if_false, if_true, and_false]
      rw [if_pos (by omega)]
      exact ⟨ha, by omega, by omega, hs, hq s hs ⟨fun q => ⟨q, fun j q1 q2 => by omega⟩, fun q => q.1⟩⟩
  | succ d ih =>
    intro m k s hm hk hs hq
    cases m with
    | zero => omega
    | succ m =>
      have hb := hT (p + k) (by omega) (by omega)
      have ht : ∀ j, (txt a).getD j 0 < 256 := by
        intro j
        have key : ∀ i : Fin 19, ∀ x ∈ txt i.1, x < 256 := by decide +kernel
        by_cases hj : j < (txt a).length
        · have e : (txt a).getD j 0 = (txt a)[j] := by rw [List.getD_eq_getElem?_getD, List.getElem?_eq_getElem hj]; rfl
          rw [e]
          exact key ⟨a, ha⟩ _ (List.getElem_mem hj)
        · rw [List.getD_eq_getElem?_getD, List.getElem?_eq_none (by omega)]
          decide
      have htk := ht k
      unfold I12_isSpelled_24 I12_isSpelled_24_st I12_isSpelled_60
      simp only [wp_ib, wp_ig, wp_ite, wp_ir, wp_igI, wp_ipI, wp_ipZ, wp_inz, wp_idI, wp_irI, wp_iSl, wp_iSc, wp_iSi, iu1_1, iu1_2, iu2_1, iu2_2, wA0, wS0, wA6, wS6, wA7, wS7, wA8, wS8, wA9, wS9, wA10, wS10, wA11, wS11, wA12, wS12, wA13, wS13, wA14, wS14, wA16, wS16, wA17, wS17, wA18, wS18, wA26, wS26, wA27, wS27, wZ28, wY28, wA29, wS29, wA30, wS30, wA31, wS31, wA32, wS32, wA33, wS33, wA34, wS34, wA35, wS35, wA36, wS36, wA38, wS38, wA39, wS39, wA40, wS40, wZ41, wY41, wA45, wS45, wA46, wS46, wZ47, wY47, wZ48, wY48, Nat.reduceEqDiff, reduceIte, false_and, true_and, and_true, and_self, if_false, if_true, and_false]
      rw [hp, if_neg (by omega)]
      have ek : ((k : Int)).toNat = k := by omega
      rw [ek]
      refine ⟨ha, by omega, by omega, by omega, ?_⟩
      by_cases c : s = 0
      · rw [if_pos c]
        exact ⟨hs, hq s hs ⟨fun q => by omega, fun q => by omega⟩⟩
      · rw [if_neg c]
        refine ⟨by omega, by omega, by omega, by omega, ?_⟩
        have e1 : (k : Int) + 1 = ((k + 1 : Nat) : Int) := by omega
        rw [e1]
        by_cases c2 : W.2 0 (p + k) = ((txt a).getD k 0 : Nat)
        · rw [if_pos c2]
          refine ih m (k + 1) 1 (by omega) (by omega) (by omega) fun v hv hv2 => hq v hv ⟨fun q => ⟨by omega, fun j q1 q2 => ?_⟩, fun q => hv2.mpr ⟨rfl, fun j q1 q2 => q.2 j (by omega) q2⟩⟩
          by_cases e : j = k
          · rw [e]; exact c2
          · exact (hv2.mp q).2 j (by omega) q2
        · rw [if_neg c2]
          refine ih m (k + 1) 0 (by omega) (by omega) (by omega) fun v hv hv2 => hq v hv ⟨fun q => by have := (hv2.mp q).1; omega, fun q => absurd (q.2 k (Nat.le_refl _) (by omega)) c2⟩
theorem m_isSpelled {a : Nat} (ha : a < 19) {p e n : Int} (hp0 : 0 ≤ p) (hpe : p ≤ e) (he : e ≤ n) (hn : n ≤ 120) (hT : ∀ i, 0 ≤ i → i < n → 0 ≤ W.2 0 i ∧ W.2 0 i ≤ 255) (hp : W.1 20 = p) (h19 : W.1 19 = e) {Q : Int → IS → Prop} (hq : ∀ v, (v = 0 ∨ v = 1) → (v = 1 ↔ e - p = (txt a).length ∧ ∀ j : Nat, j < (txt a).length → W.2 0 (p + j) = ((txt a).getD j 0 : Nat)) → Q v W) : wp (I12_isSpelled a) Q W := by
  have hx := txt_le a ha
  unfold I12_isSpelled I12_isSpelled_21
  simp only [wp_ib, wp_ig, wp_ite, wp_ir, wp_igI, wp_ipI, wp_ipZ, wp_inz, wp_idI, wp_irI, wp_iSl, wp_iSc, wp_iSi, iu1_1, iu1_2, iu2_1, iu2_2, wA0, wS0, wA6, wS6, wA7, wS7, wA8, wS8, wA9, wS9, wA10, wS10, wA11, wS11, wA12, wS12, wA13, wS13, wA14, wS14, wA16, wS16, wA17, wS17, wA18, wS18, wA26, wS26, wA27, wS27, wZ28, wY28, wA29, wS29, wA30, wS30, wA31, wS31, wA32, wS32, wA33, wS33, wA34, wS34, wA35, wS35, wA36, wS36, wA38, wS38, wA39, wS39, wA40, wS40, wZ41, wY41, wA45, wS45, wA46, wS46, wZ47, wY47, wZ48, wY48, Nat.reduceEqDiff, reduceIte, false_and, true_and, and_true, and_self, if_false, if_true, and_false]
  rw [hp, h19]
  refine ⟨ha, by omega, by omega, ?_⟩
  by_cases c : e - p = (txt a).length
  · rw [if_pos c]
    exact m_isSp ha hp0 hn hT hp (by omega) (txt a).length LFU 0 1 (by unfold LFU; omega) (by omega) (by omega) fun v hv hv2 => hq v hv ⟨fun q => ⟨c, fun j q1 => (hv2.mp q).2 j (by omega) q1⟩, fun q => hv2.mpr ⟨rfl, fun j _ q2 => q.2 j q2⟩⟩
  · rw [if_neg c]
    have step : wp (I12_isSpelled_24 LFU a 0 0) Q W := by
      rw [show LFU = 19999 + 1 by decide]
      unfold I12_isSpelled_24 I12_isSpelled_24_st
      simp only [wp_ib, wp_ig, wp_ite, wp_ir, wp_igI, wp_ipI, wp_ipZ, wp_inz, wp_idI, wp_irI, wp_iSl, wp_iSc, wp_iSi, iu1_1, iu1_2, iu2_1, iu2_2, wA0, wS0, wA6, wS6, wA7, wS7, wA8, wS8, wA9, wS9, wA10, wS10, wA11, wS11, wA12, wS12, wA13, wS13, wA14, wS14, wA16, wS16, wA17, wS17, wA18, wS18, wA26, wS26, wA27, wS27, wZ28, wY28, wA29, wS29, wA30, wS30, wA31, wS31, wA32, wS32, wA33, wS33, wA34, wS34, wA35, wS35, wA36, wS36, wA38, wS38, wA39, wS39, wA40, wS40, wZ41, wY41, wA45, wS45, wA46, wS46, wZ47, wY47, wZ48, wY48, Nat.reduceEqDiff, reduceIte, false_and, true_and, and_true, and_self, if_false, if_true, and_false]
      have q0 := hq 0 (by omega) ⟨fun q => by omega, fun q => absurd q.1 c⟩
      refine ⟨ha, by omega, by omega, ?_⟩
      by_cases c3 : ((txt a).length : Int) ≤ 0
      · rw [if_pos c3]; exact ⟨by simp, q0⟩
      · rw [if_neg c3]; exact ⟨by decide, by simp, q0⟩
    exact step
theorem m_signHere_53 {p e n l : Int} (hp0 : 0 ≤ p) (he : e ≤ n) (hn : n ≤ 120) (hT : ∀ i, 0 ≤ i → i < n → 0 ≤ W.2 0 i ∧ W.2 0 i ≤ 255) (hp : W.1 20 = p) (h19 : W.1 19 = e) (hpe : p < e) (hl : -1 ≤ l ∧ l ≤ 22) {Q : Int → IS → Prop} (h1 : (∀ k, p ≤ k → k < e → W.2 0 k = W.2 0 p) → Q (if 0 ≤ l ∧ e - p ≤ 3 then (e - p - 1) * 23 + l + 1 else -1) W) (h2 : ¬ (∀ k, p ≤ k → k < e → W.2 0 k = W.2 0 p) → Q (-1) W) : ∀ (d m : Nat) (k : Int), d < m → p ≤ k → k + d = e → (∀ q, p ≤ q → q < k → W.2 0 q = W.2 0 p) → wp (I12_signHere_53 m l (e - p) k) Q W := by
  intro d
  induction d with
  | zero =>
    intro m k hm hk hd ho
    cases m with
    | zero => omega
    | succ m =>
      unfold I12_signHere_53 I12_signHere_53_st I12_signHere_87
      simp only [wp_ib, wp_ig, wp_ite, wp_ir, wp_igI, wp_ipI, wp_ipZ, wp_inz, wp_idI, wp_irI, wp_iSl, wp_iSc, wp_iSi, iu1_1, iu1_2, iu2_1, iu2_2, wA0, wS0, wA6, wS6, wA7, wS7, wA8, wS8, wA9, wS9, wA10, wS10, wA11, wS11, wA12, wS12, wA13, wS13, wA14, wS14, wA16, wS16, wA17, wS17, wA18, wS18, wA26, wS26, wA27, wS27, wZ28, wY28, wA29, wS29, wA30, wS30, wA31, wS31, wA32, wS32, wA33, wS33, wA34, wS34, wA35, wS35, wA36, wS36, wA38, wS38, wA39, wS39, wA40, wS40, wZ41, wY41, wA45, wS45, wA46, wS46, wZ47, wY47, wZ48, wY48, Nat.reduceEqDiff, reduceIte, false_and, true_and, and_true, and_self, if_false, if_true, and_false]
      rw [h19, if_pos (by omega)]
      refine ⟨by omega, by omega, by omega, ?_⟩
      have q := h1 fun q q1 q2 => ho q q1 (by omega)
      by_cases c : l < 0
      · rw [if_pos c]
        rw [if_neg (by omega)] at q
        exact q
      · rw [if_neg c]
        refine ⟨by omega, ?_⟩
        by_cases c2 : e - p ≤ 3
        · rw [if_pos c2]
          rw [if_pos (by omega)] at q
          rw [show 1 + 23 * (e - p - 1) + l = (e - p - 1) * 23 + l + 1 by omega]
          exact q
        · rw [if_neg c2]
          rw [if_neg (by omega)] at q
          exact q
  | succ d ih =>
    intro m k hm hk hd ho
    cases m with
    | zero => omega
    | succ m =>
      have b1 := hT k (by omega) (by omega)
      have b2 := hT p (by omega) (by omega)
      unfold I12_signHere_53 I12_signHere_53_st
      simp only [wp_ib, wp_ig, wp_ite, wp_ir, wp_igI, wp_ipI, wp_ipZ, wp_inz, wp_idI, wp_irI, wp_iSl, wp_iSc, wp_iSi, iu1_1, iu1_2, iu2_1, iu2_2, wA0, wS0, wA6, wS6, wA7, wS7, wA8, wS8, wA9, wS9, wA10, wS10, wA11, wS11, wA12, wS12, wA13, wS13, wA14, wS14, wA16, wS16, wA17, wS17, wA18, wS18, wA26, wS26, wA27, wS27, wZ28, wY28, wA29, wS29, wA30, wS30, wA31, wS31, wA32, wS32, wA33, wS33, wA34, wS34, wA35, wS35, wA36, wS36, wA38, wS38, wA39, wS39, wA40, wS40, wZ41, wY41, wA45, wS45, wA46, wS46, wZ47, wY47, wZ48, wY48, Nat.reduceEqDiff, reduceIte, false_and, true_and, and_true, and_self, if_false, if_true, and_false]
      rw [h19, hp, if_neg (by omega)]
      refine ⟨by omega, by omega, by omega, by omega, by omega, by omega, ?_⟩
      by_cases c : W.2 0 k = W.2 0 p
      · rw [if_pos c]
        refine ih m (k + 1) (by omega) (by omega) (by omega) fun q q1 q2 => ?_
        by_cases e9 : q = k
        · rw [e9]; exact c
        · exact ho q q1 (by omega)
      · rw [if_neg c]
        exact h2 fun q => c (q k hk (by omega))
theorem all3 {T : Int → Int} {p e : Int} (h : e - p ≤ 3) : (∀ k, p ≤ k → k < e → T k = T p) ↔ ((2 ≤ e - p → T (p + 1) = T p) ∧ (3 ≤ e - p → T (p + 2) = T p)) := by
  refine ⟨fun q => ⟨fun h2 => q _ (by omega) (by omega), fun h3 => q _ (by omega) (by omega)⟩, fun q k h1 h2 => ?_⟩
  have h3 : k = p ∨ k = p + 1 ∨ k = p + 2 := by omega
  rcases h3 with e1 | e1 | e1
  · rw [e1]
  · rw [e1]; exact q.1 (by omega)
  · rw [e1]; exact q.2 (by omega)
theorem m_signHere {p e n : Int} (hp0 : 0 ≤ p) (hpe : p < e) (he : e ≤ n) (hn : n ≤ 120) (hT : ∀ i, 0 ≤ i → i < n → 0 ≤ W.2 0 i ∧ W.2 0 i ≤ 255) (hp : W.1 20 = p) (h19 : W.1 19 = e) {Q : Int → IS → Prop} (hq : Q (sgW (W.2 0) p (e - p)) W) : wp I12_signHere Q W := by
  have b2 := hT p (by omega) (by omega)
  have hl := idxZ_bd (W.2 0 p).toNat
  unfold I12_signHere
  simp only [wp_ib, wp_ig, wp_ite, wp_ir, wp_igI, wp_ipI, wp_ipZ, wp_inz, wp_idI, wp_irI, wp_iSl, wp_iSc, wp_iSi, iu1_1, iu1_2, iu2_1, iu2_2, wA0, wS0, wA6, wS6, wA7, wS7, wA8, wS8, wA9, wS9, wA10, wS10, wA11, wS11, wA12, wS12, wA13, wS13, wA14, wS14, wA16, wS16, wA17, wS17, wA18, wS18, wA26, wS26, wA27, wS27, wZ28, wY28, wA29, wS29, wA30, wS30, wA31, wS31, wA32, wS32, wA33, wS33, wA34, wS34, wA35, wS35, wA36, wS36, wA38, wS38, wA39, wS39, wA40, wS40, wZ41, wY41, wA45, wS45, wA46, wS46, wZ47, wY47, wZ48, wY48, Nat.reduceEqDiff, reduceIte, false_and, true_and, and_true, and_self, if_false, if_true, and_false]
  refine m_isSpelled (by decide) hp0 (by omega) he hn hT hp h19 fun v hv hv2 => ?_
  have i1 : v = 1 ↔ e - p = 2 ∧ W.2 0 p = 112 ∧ W.2 0 (p + 1) = 105 := by
    rw [hv2, txt10]
    refine ⟨fun q => ⟨q.1, by have := q.2 0 (by decide); simpa using this, by have := q.2 1 (by decide); simpa using this⟩, fun q => ⟨q.1, fun j hj => ?_⟩⟩
    have h3 : j = 0 ∨ j = 1 := by have : j < 2 := hj; omega
    rcases h3 with e1 | e1 <;> subst e1
    · simpa using q.2.1
    · simpa using q.2.2
  refine ⟨by omega, ?_⟩
  by_cases c1 : v = 0
  · rw [if_pos c1]
    have n1 : ¬ (e - p = 2 ∧ W.2 0 p = 112 ∧ W.2 0 (p + 1) = 105) := fun q => by have := i1.mpr q; omega
    refine m_isSpelled (by decide) hp0 (by omega) he hn hT hp h19 fun v' hv' hv2' => ?_
    have i2 : v' = 1 ↔ e - p = 3 ∧ W.2 0 p = 99 ∧ W.2 0 (p + 1) = 104 ∧ W.2 0 (p + 2) = 105 := by
      rw [hv2', txt11]
      refine ⟨fun q => ⟨q.1, by have := q.2 0 (by decide); simpa using this, by have := q.2 1 (by decide); simpa using this, by have := q.2 2 (by decide); simpa using this⟩, fun q => ⟨q.1, fun j hj => ?_⟩⟩
      have h3 : j = 0 ∨ j = 1 ∨ j = 2 := by have : j < 3 := hj; omega
      rcases h3 with e1 | e1 | e1 <;> subst e1
      · simpa using q.2.1
      · simpa using q.2.2.1
      · simpa using q.2.2.2
    refine ⟨by omega, ?_⟩
    by_cases c2 : v' = 0
    · rw [if_pos c2, hp, h19]
      have n2 : ¬ (e - p = 3 ∧ W.2 0 p = 99 ∧ W.2 0 (p + 1) = 104 ∧ W.2 0 (p + 2) = 105) := fun q => by have := i2.mpr q; omega
      refine ⟨by omega, ⟨by decide, by omega, by omega⟩, ?_⟩
      unfold sgW at hq
      rw [if_neg n1, if_neg n2] at hq
      refine m_signHere_53 hp0 he hn hT hp h19 hpe hl (fun q => ?_) (fun q => ?_) (e - p).toNat LFU p (by unfold LFU; omega) (by omega) (by omega) (fun q q1 q2 => by omega)
      · by_cases c3 : 0 ≤ idxZ (txt 12) (W.2 0 p).toNat ∧ e - p ≤ 3
        · rw [if_pos c3]
          rw [if_pos ⟨c3.1, c3.2, (all3 c3.2).mp q⟩] at hq
          exact hq
        · rw [if_neg c3]
          rw [if_neg (fun r => c3 ⟨r.1, r.2.1⟩)] at hq
          exact hq
      · rw [if_neg (fun r => q ((all3 r.2.1).mpr r.2.2))] at hq
        exact hq
    · rw [if_neg c2]
      have e2 := i2.mp (by omega)
      unfold sgW at hq
      rw [if_neg n1, if_pos e2] at hq
      exact hq
  · rw [if_neg c1]
    have e1 := i1.mp (by omega)
    unfold sgW at hq
    rw [if_pos e1] at hq
    exact hq
theorem valN_sn {T : Int → Int} : ∀ (d : Nat) (p a : Int), valN T (d + 1) p a = 10 * valN T d p a + T (p + d) - 48
  | 0, p, a => by simp [valN]
  | d + 1, p, a => by
    show valN T (d + 1) (p + 1) (10 * a + T p - 48) = 10 * valN T d (p + 1) (10 * a + T p - 48) + T (p + ((d + 1 : Nat) : Int)) - 48
    rw [valN_sn d, show p + 1 + (d : Int) = p + ((d + 1 : Nat) : Int) by omega]
theorem m_next_170 {p : Int} {Q : Unit → IS → Prop} (hT : byt (W.2 0) (W.1 1)) (hp : W.1 20 = p) (hp0 : 0 ≤ p) (hk : ∀ W', FrX W W' → W'.1 20 = p → W'.1 19 = spD (W.2 0) (W.1 1 - p).toNat p → W'.1 22 = valN (W.2 0) (if W'.1 19 - p < 3 then W'.1 19 - p else 3).toNat p 0 → wp I12_next_250 Q W') : ∀ (d m : Nat) (W1 : IS), d < m → FrX W W1 → W1.1 20 = p → p ≤ W1.1 19 → W1.1 19 + d = W.1 1 → W1.1 22 = valN (W.2 0) (if W1.1 19 - p < 3 then W1.1 19 - p else 3).toNat p 0 → spD (W.2 0) d (W1.1 19) = spD (W.2 0) (W.1 1 - p).toNat p → wp (I12_next_170 m) Q W1 := by
  intro d
  induction d with
  | zero =>
    intro m W1 hm hF h20 h19 hd hv hs
    cases m with
    | zero => omega
    | succ m =>
      unfold I12_next_170 I12_next_170_st
      have e1 : W1.1 1 = W.1 1 := hF.2 1 (by omega)
      simp only [wp_ib, wp_ig, wp_ite, wp_ir, wp_igI, wp_ipI, wp_ipZ, wp_inz, wp_idI, wp_irI, wp_iSl, wp_iSc, wp_iSi, iu1_1, iu1_2, iu2_1, iu2_2, wA0, wS0, wA6, wS6, wA7, wS7, wA8, wS8, wA9, wS9, wA10, wS10, wA11, wS11, wA12, wS12, wA13, wS13, wA14, wS14, wA16, wS16, wA17, wS17, wA18, wS18, wA26, wS26, wA27, wS27, wZ28, wY28, wA29, wS29, wA30, wS30, wA31, wS31, wA32, wS32, wA33, wS33, wA34, wS34, wA35, wS35, wA36, wS36, wA38, wS38, wA39, wS39, wA40, wS40, wZ41, wY41, wA45, wS45, wA46, wS46, wZ47, wY47, wZ48, wY48, Nat.reduceEqDiff, reduceIte, false_and, true_and, and_true, and_self, if_false, if_true, and_false]
      rw [e1, if_pos (by omega)]
      have hn := hT.1
      exact ⟨by omega, by omega, hk W1 hF h20 hs hv⟩
  | succ d ih =>
    intro m W1 hm hF h20 h19 hd hv hs
    cases m with
    | zero => omega
    | succ m =>
      have e1 : W1.1 1 = W.1 1 := hF.2 1 (by omega)
      have hn := hT.1
      have hb := hT.2 (W1.1 19) (by omega) (by omega)
      have es : spD (W.2 0) (d + 1) (W1.1 19) = if isDg (W.2 0 (W1.1 19)) then spD (W.2 0) d (W1.1 19 + 1) else W1.1 19 := rfl
      rw [es] at hs
      unfold I12_next_170 I12_next_170_st I12_next_237
      simp only [wp_ib, wp_ig, wp_ite, wp_ir, wp_igI, wp_ipI, wp_ipZ, wp_inz, wp_idI, wp_irI, wp_iSl, wp_iSc, wp_iSi, iu1_1, iu1_2, iu2_1, iu2_2, wA0, wS0, wA6, wS6, wA7, wS7, wA8, wS8, wA9, wS9, wA10, wS10, wA11, wS11, wA12, wS12, wA13, wS13, wA14, wS14, wA16, wS16, wA17, wS17, wA18, wS18, wA26, wS26, wA27, wS27, wZ28, wY28, wA29, wS29, wA30, wS30, wA31, wS31, wA32, wS32, wA33, wS33, wA34, wS34, wA35, wS35, wA36, wS36, wA38, wS38, wA39, wS39, wA40, wS40, wZ41, wY41, wA45, wS45, wA46, wS46, wZ47, wY47, wZ48, wY48, Nat.reduceEqDiff, reduceIte, false_and, true_and, and_true, and_self, if_false, if_true, and_false]
      rw [e1, if_neg (by omega), hF.1, wp_ret (m_isIn (by omega) (by decide) (by decide)), h20]
      refine ⟨by omega, by omega, by omega, ifR, ?_⟩
      by_cases c : isDg (W.2 0 (W1.1 19))
      · rw [if_pos c] at hs
        rw [if_pos c, if_neg (by decide)]
        refine ⟨by omega, ?_⟩
        by_cases c3 : 3 ≤ W1.1 19 - p
        · rw [if_pos c3]
          refine ih m (iu1 W1 19 (W1.1 19 + 1)) (by omega) (hF.trans (FrX.u (by omega))) h20 (by show p ≤ W1.1 19 + 1; omega) (by show W1.1 19 + 1 + d = _; omega) ?_ hs
          show W1.1 22 = valN (W.2 0) (if W1.1 19 + 1 - p < 3 then W1.1 19 + 1 - p else 3).toNat p 0
          rw [if_neg (by omega)] at hv
          rw [if_neg (by omega)]
          exact hv
        · rw [if_neg c3]
          refine ⟨by omega, ?_⟩
          rw [hF.1]
          refine ih m (iu1 (iu1 W1 22 (10 * W1.1 22 + W.2 0 (W1.1 19) - 48)) 19 (W1.1 19 + 1)) (by omega) ((hF.trans (FrX.u (by omega))).trans (FrX.u (by omega))) h20 (by show p ≤ W1.1 19 + 1; omega) (by show W1.1 19 + 1 + d = _; omega) ?_ hs
          show 10 * W1.1 22 + W.2 0 (W1.1 19) - 48 = valN (W.2 0) (if W1.1 19 + 1 - p < 3 then W1.1 19 + 1 - p else 3).toNat p 0
          rw [if_pos (by omega)] at hv
          have e3 : (if W1.1 19 + 1 - p < 3 then W1.1 19 + 1 - p else 3).toNat = (W1.1 19 - p).toNat + 1 := by split <;> omega
          rw [e3, valN_sn, hv, show p + ((W1.1 19 - p).toNat : Int) = W1.1 19 by omega]
      · rw [if_neg c] at hs
        rw [if_neg c, if_pos rfl]
        exact hk W1 hF h20 hs hv
/-- the piece that begins at the place where the reader stands -/
theorem m_next_38 {p : Int} {Q : Unit → IS → Prop} (hT : byt (W.2 0) (W.1 1)) (hp : W.1 19 = p) (hp0 : 0 ≤ p) (hpn : p ≤ W.1 1) (hk : ∀ W', FrX W W' → LxP W' p → Q () W') : wp I12_next_38 Q W := by
  have hn := hT.1
  unfold I12_next_38
  simp only [wp_ib, wp_ig, wp_ite, wp_ir, wp_igI, wp_ipI, wp_ipZ, wp_inz, wp_idI, wp_irI, wp_iSl, wp_iSc, wp_iSi, iu1_1, iu1_2, iu2_1, iu2_2, wA0, wS0, wA6, wS6, wA7, wS7, wA8, wS8, wA9, wS9, wA10, wS10, wA11, wS11, wA12, wS12, wA13, wS13, wA14, wS14, wA16, wS16, wA17, wS17, wA18, wS18, wA26, wS26, wA27, wS27, wZ28, wY28, wA29, wS29, wA30, wS30, wA31, wS31, wA32, wS32, wA33, wS33, wA34, wS34, wA35, wS35, wA36, wS36, wA38, wS38, wA39, wS39, wA40, wS40, wZ41, wY41, wA45, wS45, wA46, wS46, wZ47, wY47, wZ48, wY48, Nat.reduceEqDiff, reduceIte, false_and, true_and, and_true, and_self, if_false, if_true, and_false]
  rw [hp]
  refine ⟨by omega, by omega, ?_⟩
  by_cases c : p = W.1 1
  · rw [if_pos c]
    refine hk _ (((FrX.u (by omega)).trans (FrX.u (by omega))).trans (FrX.u (by omega))) ⟨rfl, ?_, ?_, ?_, ?_⟩
    · show W.1 19 = enP (W.2 0) (W.1 1) p
      unfold enP
      rw [if_pos (by omega), hp]
    · show (0 : Int) = tkM (kdP (W.2 0) (W.1 1) p)
      unfold kdP
      rw [if_pos (by omega)]
      rfl
    · intro h
      exfalso
      revert h
      show kdP (W.2 0) (W.1 1) p = 1 ∨ kdP (W.2 0) (W.1 1) p = 2 → False
      unfold kdP
      rw [if_pos (by omega)]
      omega
    · intro h
      exfalso
      revert h
      show 4 ≤ kdP (W.2 0) (W.1 1) p → False
      unfold kdP
      rw [if_pos (by omega)]
      omega
  · rw [if_neg c]
    have hb := hT.2 p hp0 (by omega)
    have hw := wen_bd (T := W.2 0) (n := W.1 1) (p := p) (by omega)
    have hnp : ¬ W.1 1 ≤ p := by omega
    have hen : enP (W.2 0) (W.1 1) p = wen (W.2 0) (W.1 1) p := if_neg hnp
    have hF0 : FrX W (iu1 (iu1 (iu1 W 20 p) 21 0) 22 0) := ((FrX.u (by omega)).trans (FrX.u (by omega))).trans (FrX.u (by omega))
    rw [wp_ret (m_isIn (by omega) (by decide) (by decide))]
    refine ⟨by omega, ifR, ?_⟩
    by_cases cl : 97 ≤ W.2 0 p ∧ W.2 0 p ≤ 122
    · -- a word
      have ewen : wen (W.2 0) (W.1 1) p = spL (W.2 0) (W.1 1 - p).toNat p := if_pos cl
      have hsg := sgW_bd (T := W.2 0) p (wen (W.2 0) (W.1 1) p - p) (by omega)
      rw [if_pos cl, if_neg (by decide)]
      refine m_next_89 (W := iu1 (iu1 (iu1 W 20 p) 21 0) 22 0) hT (fun W' hF h20 h19 => ?_) (W.1 1 - p).toNat LFU _ (by unfold LFU; omega) FrX.refl rfl (by show 0 ≤ W.1 19; omega) (by show W.1 19 + _ = W.1 1; omega) (by show spL (W.2 0) (W.1 1 - p).toNat (W.1 19) = spL (W.2 0) (W.1 1 - W.1 19).toNat (W.1 19); rw [hp])
      have h19' : W'.1 19 = wen (W.2 0) (W.1 1) p := by
        rw [h19, ewen]
        show spL (W.2 0) (W.1 1 - W.1 19).toNat (W.1 19) = _
        rw [hp]
      have h20' : W'.1 20 = p := h20
      have hF' := hF0.trans hF
      have eT : W'.2 0 = W.2 0 := by rw [hF'.1]
      have e1 : W'.1 1 = W.1 1 := hF'.2 1 (by omega)
      unfold I12_next_132
      simp only [wp_ib, wp_ig, wp_ite, wp_ir, wp_igI, wp_ipI, wp_ipZ, wp_inz, wp_idI, wp_irI, wp_iSl, wp_iSc, wp_iSi, iu1_1, iu1_2, iu2_1, iu2_2, wA0, wS0, wA6, wS6, wA7, wS7, wA8, wS8, wA9, wS9, wA10, wS10, wA11, wS11, wA12, wS12, wA13, wS13, wA14, wS14, wA16, wS16, wA17, wS17, wA18, wS18, wA26, wS26, wA27, wS27, wZ28, wY28, wA29, wS29, wA30, wS30, wA31, wS31, wA32, wS32, wA33, wS33, wA34, wS34, wA35, wS35, wA36, wS36, wA38, wS38, wA39, wS39, wA40, wS40, wZ41, wY41, wA45, wS45, wA46, wS46, wZ47, wY47, wZ48, wY48, Nat.reduceEqDiff, reduceIte, false_and, true_and, and_true, and_self, if_false, if_true, and_false]
      refine m_signHere hp0 (by omega) hw.2 hn.2 (by rw [eT]; exact hT.2) h20' h19' ?_
      rw [eT]
      have ekd : kdP (W.2 0) (W.1 1) p = if sgW (W.2 0) p (wen (W.2 0) (W.1 1) p - p) < 0 then 3 else 1 := by unfold kdP; rw [if_neg hnp, if_pos cl]
      have evl : vlP (W.2 0) (W.1 1) p = sgW (W.2 0) p (wen (W.2 0) (W.1 1) p - p) := by unfold vlP; rw [if_neg hnp, if_pos cl]
      refine ⟨by omega, ?_⟩
      by_cases c0 : 0 ≤ sgW (W.2 0) p (wen (W.2 0) (W.1 1) p - p)
      · rw [if_pos c0]
        rw [if_neg (by omega)] at ekd
        refine hk _ ((hF'.trans (FrX.u (by omega))).trans (FrX.u (by omega))) ⟨h20', ?_, ?_, ?_, ?_⟩
        · show W'.1 19 = enP (W'.2 0) (W'.1 1) p
          rw [eT, e1, hen, h19']
        · show (2 : Int) = tkM (kdP (W'.2 0) (W'.1 1) p)
          rw [eT, e1, ekd]
          rfl
        · intro _
          show sgW (W.2 0) p (wen (W.2 0) (W.1 1) p - p) = vlP (W'.2 0) (W'.1 1) p
          rw [eT, e1, evl]
        · intro h
          exfalso
          revert h
          show 4 ≤ kdP (W'.2 0) (W'.1 1) p → False
          rw [eT, e1, ekd]
          omega
      · rw [if_neg c0]
        rw [if_pos (by omega)] at ekd
        refine hk _ ((hF'.trans (FrX.u (by omega))).trans (FrX.u (by omega))) ⟨h20', ?_, ?_, ?_, ?_⟩
        · show W'.1 19 = enP (W'.2 0) (W'.1 1) p
          rw [eT, e1, hen, h19']
        · show (1 : Int) = tkM (kdP (W'.2 0) (W'.1 1) p)
          rw [eT, e1, ekd]
          rfl
        · intro h
          exfalso
          revert h
          show kdP (W'.2 0) (W'.1 1) p = 1 ∨ kdP (W'.2 0) (W'.1 1) p = 2 → False
          rw [eT, e1, ekd]
          omega
        · intro h
          exfalso
          revert h
          show 4 ≤ kdP (W'.2 0) (W'.1 1) p → False
          rw [eT, e1, ekd]
          omega
    · rw [if_neg cl, if_pos rfl, wp_ret (m_isIn (by omega) (by decide) (by decide))]
      refine ⟨ifR, ?_⟩
      by_cases cd : 48 ≤ W.2 0 p ∧ W.2 0 p ≤ 57
      · -- a number
        have ewen : wen (W.2 0) (W.1 1) p = spD (W.2 0) (W.1 1 - p).toNat p := by unfold wen; rw [if_neg cl, if_pos cd]
        rw [if_pos cd, if_neg (by decide)]
        refine m_next_170 (W := iu1 (iu1 (iu1 W 20 p) 21 0) 22 0) (p := p) hT rfl hp0 (fun W' hF h20 h19 h22 => ?_) (W.1 1 - p).toNat LFU _ (by unfold LFU; omega) FrX.refl rfl (by show p ≤ W.1 19; omega) (by show W.1 19 + _ = W.1 1; omega) (by show (0 : Int) = valN (W.2 0) (if W.1 19 - p < 3 then W.1 19 - p else 3).toNat p 0; rw [hp, show (if p - p < 3 then p - p else 3).toNat = 0 by rw [if_pos (by omega)]; omega]; rfl) (by show spD (W.2 0) (W.1 1 - p).toNat (W.1 19) = _; rw [hp]; rfl)
        have h19' : W'.1 19 = wen (W.2 0) (W.1 1) p := by rw [h19, ewen]; rfl
        have hF' := hF0.trans hF
        have eT : W'.2 0 = W.2 0 := by rw [hF'.1]
        have e1 : W'.1 1 = W.1 1 := hF'.2 1 (by omega)
        have ekd : kdP (W.2 0) (W.1 1) p = if wen (W.2 0) (W.1 1) p - p ≤ 3 then 2 else 3 := by unfold kdP; rw [if_neg hnp, if_neg cl, if_pos cd]
        unfold I12_next_250
        simp only [wp_ib, wp_ig, wp_ite, wp_ir, wp_igI, wp_ipI, wp_ipZ, wp_inz, wp_idI, wp_irI, wp_iSl, wp_iSc, wp_iSi, iu1_1, iu1_2, iu2_1, iu2_2, wA0, wS0, wA6, wS6, wA7, wS7, wA8, wS8, wA9, wS9, wA10, wS10, wA11, wS11, wA12, wS12, wA13, wS13, wA14, wS14, wA16, wS16, wA17, wS17, wA18, wS18, wA26, wS26, wA27, wS27, wZ28, wY28, wA29, wS29, wA30, wS30, wA31, wS31, wA32, wS32, wA33, wS33, wA34, wS34, wA35, wS35, wA36, wS36, wA38, wS38, wA39, wS39, wA40, wS40, wZ41, wY41, wA45, wS45, wA46, wS46, wZ47, wY47, wZ48, wY48, Nat.reduceEqDiff, reduceIte, false_and, true_and, and_true, and_self, if_false, if_true, and_false]
        rw [h19', h20]
        refine ⟨by omega, ?_⟩
        by_cases c3 : wen (W.2 0) (W.1 1) p - p ≤ 3
        · rw [if_pos c3]
          rw [if_pos c3] at ekd
          refine hk _ (hF'.trans (FrX.u (by omega))) ⟨h20, ?_, ?_, ?_, ?_⟩
          · show W'.1 19 = enP (W'.2 0) (W'.1 1) p
            rw [eT, e1, hen, h19']
          · show (3 : Int) = tkM (kdP (W'.2 0) (W'.1 1) p)
            rw [eT, e1, ekd]
            rfl
          · intro _
            show W'.1 22 = vlP (W'.2 0) (W'.1 1) p
            have evl : vlP (W.2 0) (W.1 1) p = valN (W.2 0) (wen (W.2 0) (W.1 1) p - p).toNat p 0 := by
              unfold vlP
              rw [if_neg hnp, if_neg cl]
              exact if_pos ⟨cd, c3⟩
            have e3 : (if wen (W.2 0) (W.1 1) p - p < 3 then wen (W.2 0) (W.1 1) p - p else 3).toNat = (wen (W.2 0) (W.1 1) p - p).toNat := by split <;> omega
            rw [eT, e1, h22, evl, h19', e3]
            rfl
          · intro h
            exfalso
            revert h
            show 4 ≤ kdP (W'.2 0) (W'.1 1) p → False
            rw [eT, e1, ekd]
            omega
        · rw [if_neg c3]
          rw [if_neg c3] at ekd
          refine hk _ (hF'.trans (FrX.u (by omega))) ⟨h20, ?_, ?_, ?_, ?_⟩
          · show W'.1 19 = enP (W'.2 0) (W'.1 1) p
            rw [eT, e1, hen, h19']
          · show (1 : Int) = tkM (kdP (W'.2 0) (W'.1 1) p)
            rw [eT, e1, ekd]
            rfl
          · intro h
            exfalso
            revert h
            show kdP (W'.2 0) (W'.1 1) p = 1 ∨ kdP (W'.2 0) (W'.1 1) p = 2 → False
            rw [eT, e1, ekd]
            omega
          · intro h
            exfalso
            revert h
            show 4 ≤ kdP (W'.2 0) (W'.1 1) p → False
            rw [eT, e1, ekd]
            omega
      · -- a mark, or nothing
        rw [if_neg cd, if_pos rfl]
        have ewen : wen (W.2 0) (W.1 1) p = p + 1 := by unfold wen; rw [if_neg cl, if_neg cd]
        have ekd : kdP (W.2 0) (W.1 1) p = if isMk (W.2 0 p) then W.2 0 p else 3 := by unfold kdP; rw [if_neg hnp, if_neg cl, if_neg cd]
        have hF3 : ∀ x, FrX W (iu1 (iu1 (iu1 (iu1 (iu1 (iu1 W 20 p) 21 0) 22 0) 19 (p + 1)) 22 (W.2 0 p)) 21 x) := fun x => ((hF0.trans (FrX.u (by omega))).trans (FrX.u (by omega))).trans (FrX.u (by omega))
        have mk : isMk (W.2 0 p) → Q () (iu1 (iu1 (iu1 (iu1 (iu1 (iu1 W 20 p) 21 0) 22 0) 19 (p + 1)) 22 (W.2 0 p)) 21 4) := fun hm => by
          rw [if_pos hm] at ekd
          refine hk _ (hF3 4) ⟨rfl, ?_, ?_, ?_, ?_⟩
          · show p + 1 = enP (W.2 0) (W.1 1) p
            rw [hen, ewen]
          · show (4 : Int) = tkM (kdP (W.2 0) (W.1 1) p)
            rw [ekd]
            unfold tkM
            rw [if_neg (by omega), if_neg (by omega), if_neg (by omega), if_neg (by omega)]
          · intro h
            exfalso
            revert h
            show kdP (W.2 0) (W.1 1) p = 1 ∨ kdP (W.2 0) (W.1 1) p = 2 → False
            rw [ekd]
            omega
          · intro _
            show W.2 0 p = kdP (W.2 0) (W.1 1) p
            rw [ekd]
        have no : ¬ isMk (W.2 0 p) → Q () (iu1 (iu1 (iu1 (iu1 (iu1 (iu1 W 20 p) 21 0) 22 0) 19 (p + 1)) 22 (W.2 0 p)) 21 1) := fun hm => by
          rw [if_neg hm] at ekd
          refine hk _ (hF3 1) ⟨rfl, ?_, ?_, ?_, ?_⟩
          · show p + 1 = enP (W.2 0) (W.1 1) p
            rw [hen, ewen]
          · show (1 : Int) = tkM (kdP (W.2 0) (W.1 1) p)
            rw [ekd]
            rfl
          · intro h
            exfalso
            revert h
            show kdP (W.2 0) (W.1 1) p = 1 ∨ kdP (W.2 0) (W.1 1) p = 2 → False
            rw [ekd]
            omega
          · intro h
            exfalso
            revert h
            show 4 ≤ kdP (W.2 0) (W.1 1) p → False
            rw [ekd]
            omega
        refine ⟨by omega, ?_⟩
        rw [show (iu1 (iu1 (iu1 W 20 p) 21 0) 22 0).1 19 = p from hp]
        by_cases m1 : W.2 0 p = 40
        · rw [if_pos m1]; exact mk (Or.inl m1)
        · rw [if_neg m1]
          by_cases m2 : W.2 0 p = 41
          · rw [if_pos m2]; exact mk (by omega)
          · rw [if_neg m2]
            by_cases m3 : W.2 0 p = 44
            · rw [if_pos m3]; exact mk (by omega)
            · rw [if_neg m3]
              by_cases m4 : W.2 0 p = 45
              · rw [if_pos m4]; exact mk (by omega)
              · rw [if_neg m4]
                by_cases m5 : W.2 0 p = 43
                · rw [if_pos m5]; exact mk (by omega)
                · rw [if_neg m5]
                  by_cases m6 : W.2 0 p = 61
                  · rw [if_pos m6]; exact mk (by omega)
                  · rw [if_neg m6]; exact no (by omega)
theorem m_next_0 {p : Int} {Q : Unit → IS → Prop} (hT : byt (W.2 0) (W.1 1)) (hk : ∀ W', FrX W W' → LxP W' p → Q () W') : ∀ (d m : Nat) (W1 : IS), d < m → FrX W W1 → 0 ≤ W1.1 19 → W1.1 19 + d = W.1 1 → bl (W.2 0) (W.1 1) (W1.1 19) = p → wp (I12_next_0 m) Q W1 := by
  have hn := hT.1
  intro d
  induction d with
  | zero =>
    intro m W1 hm hF h19 hd hs
    cases m with
    | zero => omega
    | succ m =>
      have e1 : W1.1 1 = W.1 1 := hF.2 1 (by omega)
      have eT : W1.2 0 = W.2 0 := by rw [hF.1]
      have hp : W1.1 19 = p := by rw [← hs]; exact (bl_no (by omega)).symm
      unfold I12_next_0 I12_next_0_st
      simp only [wp_ib, wp_ig, wp_ite, wp_ir, wp_igI, wp_ipI, wp_ipZ, wp_inz, wp_idI, wp_irI, wp_iSl, wp_iSc, wp_iSi, iu1_1, iu1_2, iu2_1, iu2_2, wA0, wS0, wA6, wS6, wA7, wS7, wA8, wS8, wA9, wS9, wA10, wS10, wA11, wS11, wA12, wS12, wA13, wS13, wA14, wS14, wA16, wS16, wA17, wS17, wA18, wS18, wA26, wS26, wA27, wS27, wZ28, wY28, wA29, wS29, wA30, wS30, wA31, wS31, wA32, wS32, wA33, wS33, wA34, wS34, wA35, wS35, wA36, wS36, wA38, wS38, wA39, wS39, wA40, wS40, wZ41, wY41, wA45, wS45, wA46, wS46, wZ47, wY47, wZ48, wY48, Nat.reduceEqDiff, reduceIte, false_and, true_and, and_true, and_self, if_false, if_true, and_false]
      rw [e1, if_pos (by omega)]
      exact ⟨by omega, by omega, m_next_38 (by rw [eT, e1]; exact hT) hp (by omega) (by omega) fun W' hF' hL => hk W' (hF.trans hF') hL⟩
  | succ d ih =>
    intro m W1 hm hF h19 hd hs
    cases m with
    | zero => omega
    | succ m =>
      have e1 : W1.1 1 = W.1 1 := hF.2 1 (by omega)
      have eT : W1.2 0 = W.2 0 := by rw [hF.1]
      have hb := hT.2 (W1.1 19) h19 (by omega)
      unfold I12_next_0 I12_next_0_st
      simp only [wp_ib, wp_ig, wp_ite, wp_ir, wp_igI, wp_ipI, wp_ipZ, wp_inz, wp_idI, wp_irI, wp_iSl, wp_iSc, wp_iSi, iu1_1, iu1_2, iu2_1, iu2_2, wA0, wS0, wA6, wS6, wA7, wS7, wA8, wS8, wA9, wS9, wA10, wS10, wA11, wS11, wA12, wS12, wA13, wS13, wA14, wS14, wA16, wS16, wA17, wS17, wA18, wS18, wA26, wS26, wA27, wS27, wZ28, wY28, wA29, wS29, wA30, wS30, wA31, wS31, wA32, wS32, wA33, wS33, wA34, wS34, wA35, wS35, wA36, wS36, wA38, wS38, wA39, wS39, wA40, wS40, wZ41, wY41, wA45, wS45, wA46, wS46, wZ47, wY47, wZ48, wY48, Nat.reduceEqDiff, reduceIte, false_and, true_and, and_true, and_self, if_false, if_true, and_false]
      rw [e1, if_neg (by omega), eT]
      refine ⟨by omega, by omega, by omega, by omega, ?_⟩
      by_cases c : W.2 0 (W1.1 19) = 32
      · rw [if_pos c]
        refine ih m (iu1 W1 19 (W1.1 19 + 1)) (by omega) (hF.trans (FrX.u (by omega))) (by show 0 ≤ W1.1 19 + 1; omega) (by show W1.1 19 + 1 + d = _; omega) ?_
        show bl (W.2 0) (W.1 1) (W1.1 19 + 1) = p
        rw [← bl_sp (by omega) c, hs]
      · rw [if_neg c]
        have hp : W1.1 19 = p := by rw [← hs]; exact (bl_no (fun _ => c)).symm
        exact m_next_38 (by rw [eT, e1]; exact hT) hp (by omega) (by omega) fun W' hF' hL => hk W' (hF.trans hF') hL
theorem m_next {Q : Unit → IS → Prop} (hT : byt (W.2 0) (W.1 1)) (h0 : 0 ≤ W.1 19) (h1 : W.1 19 ≤ W.1 1) (hk : ∀ W', FrX W W' → LxP W' (bl (W.2 0) (W.1 1) (W.1 19)) → Q () W') : wp I12_next Q W := by
  have hn := hT.1
  unfold I12_next
  exact m_next_0 hT hk (W.1 1 - W.1 19).toNat LFU W (by unfold LFU; omega) FrX.refl h0 (by omega) rfl
end LXN
