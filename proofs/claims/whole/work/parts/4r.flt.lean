/-! ===== faults of groups: what they are, what the model says ===== -/
def okZ (v : Int) : Prop := v = 1 ∨ (v % 2 = 0 ∧ 2 ≤ v ∧ v ≤ 12)
/-- of the first groups: the leaves of a sign, the highest sign, whether chi was -/
def gS (R : Nat → Int → Int) : Nat → Int → Int
  | 0, _ => 0
  | k + 1, s => if R 26 k ≤ s ∧ s ≤ R 27 k then (if (s - R 26 k) % 2 = 0 then R 29 k else R 30 k) else gS R k s
def gH (R : Nat → Int → Int) : Nat → Int
  | 0 => -1
  | k + 1 => if R 26 k = 70 then gH R k else R 27 k
def gX (R : Nat → Int → Int) : Nat → Int
  | 0 => 0
  | k + 1 => if R 26 k = 70 then 1 else gX R k
def tw (R : Nat → Int → Int) (c d : Int) : Prop := R 33 c = R 33 d ∧ R 34 c = R 34 d ∧ (R 32 c = 43 ↔ R 32 d = 43)
def G4 (R : Nat → Int → Int) (f l a b c : Int) : Prop := (f ≤ R 33 c ∧ R 33 c ≤ l) ∧ 1 ≤ R 34 c ∧ R 34 c ≤ (if (R 33 c - f) % 2 = 0 then a else b)
def P4 (R : Nat → Int → Int) (f l a b e e' : Int) : Prop := ∃ c, e ≤ c ∧ c < e' ∧ ¬ G4 R f l a b c
def P5 (R : Nat → Int → Int) (e e' : Int) : Prop := ∃ c, e ≤ c ∧ c < e' ∧ R 32 c = 43 ∧ ¬ (1 ≤ R 35 c ∧ R 35 c ≤ 4)
def P6 (R : Nat → Int → Int) (e e' : Int) : Prop := ∃ c d, e ≤ d ∧ d < c ∧ c < e' ∧ tw R c d
def bad1 (R : Nat → Int → Int) (k : Int) : Prop := R 28 k = 1 ∧ ¬ (R 26 k ≠ 0 ∧ R 26 k ≠ 70 ∧ R 27 k ≠ 0 ∧ R 27 k ≠ 70 ∧ R 26 k < R 27 k)
def bad2 (R : Nat → Int → Int) (k hi x : Int) : Prop := (R 26 k = 70 ∧ x ≠ 0) ∨ (R 26 k ≠ 70 ∧ R 26 k ≤ hi)
def bad3 (R : Nat → Int → Int) (k : Int) : Prop := ¬ okZ (R 29 k) ∨ ¬ okZ (R 30 k)
def FT (R : Nat → Int → Int) (f l a b e e' v : Int) : Prop := (v = 4 ∧ P4 R f l a b e e') ∨ (¬ P4 R f l a b e e' ∧ ((v = 5 ∧ P5 R e e') ∨ (¬ P5 R e e' ∧ ((v = 6 ∧ P6 R e e') ∨ (v = 0 ∧ ¬ P6 R e e')))))
def FG (R : Nat → Int → Int) (k hi x v : Int) : Prop := (v = 1 ∧ bad1 R k) ∨ (¬ bad1 R k ∧ ((v = 2 ∧ bad2 R k hi x) ∨ (¬ bad2 R k hi x ∧ ((v = 3 ∧ bad3 R k) ∨ (¬ bad3 R k ∧ FT R (R 26 k) (R 27 k) (R 29 k) (R 30 k) (R 31 k) (R 31 (k + 1)) v)))))
def FA (R : Nat → Int → Int) (n : Nat) (v : Int) : Prop := (v = 0 ∧ ∀ i : Nat, i < n → FG R i (gH R i) (gX R i) 0) ∨ (v ≠ 0 ∧ ∃ k : Nat, k < n ∧ (∀ i : Nat, i < k → FG R i (gH R i) (gX R i) 0) ∧ FG R k (gH R k) (gX R k) v)
theorem FT_u {R : Nat → Int → Int} {f l a b e e' v v' : Int} (h : FT R f l a b e e' v) (h' : FT R f l a b e e' v') : v = v' := by
  unfold FT at h h'
  by_cases c4 : P4 R f l a b e e' <;> by_cases c5 : P5 R e e' <;> by_cases c6 : P6 R e e' <;> simp only [c4, c5, c6, not_true, not_false_iff, and_true, and_false, true_and, false_and, or_false, false_or] at h h' <;> omega
theorem FG_u {R : Nat → Int → Int} {k hi x v v' : Int} (h : FG R k hi x v) (h' : FG R k hi x v') : v = v' := by
  unfold FG at h h'
  rcases h with ⟨h, c1⟩ | ⟨c1, h⟩ <;> rcases h' with ⟨h', c1'⟩ | ⟨c1', h'⟩
  · omega
  · exact absurd c1 c1'
  · exact absurd c1' c1
  rcases h with ⟨h, c2⟩ | ⟨c2, h⟩ <;> rcases h' with ⟨h', c2'⟩ | ⟨c2', h'⟩
  · omega
  · exact absurd c2 c2'
  · exact absurd c2' c2
  rcases h with ⟨h, c3⟩ | ⟨c3, h⟩ <;> rcases h' with ⟨h', c3'⟩ | ⟨c3', h'⟩
  · omega
  · exact absurd c3 c3'
  · exact absurd c3' c3
  exact FT_u h h'
theorem FA_u {R : Nat → Int → Int} {n : Nat} {v v' : Int} (h : FA R n v) (h' : FA R n v') : v = v' := by
  rcases h with ⟨e, h⟩ | ⟨e, k, hk, h1, h2⟩ <;> rcases h' with ⟨e', h'⟩ | ⟨e', k', hk', h1', h2'⟩
  · omega
  · exact absurd (FG_u h2' (h k' hk')) e'
  · exact absurd (FG_u h2 (h' k hk)) e
  · by_cases c : k < k'
    · exact absurd (FG_u h2 (h1' k c)) e
    · by_cases c' : k' < k
      · exact absurd (FG_u h2' (h1 k' c')) e'
      · have : k = k' := by omega
        subst this
        exact FG_u h2 h2'
theorem par2 {x : Int} (h : 0 ≤ x) : x - x.tdiv 2 * 2 = x % 2 := by
  rw [Int.tdiv_eq_ediv_of_nonneg h]; omega
def chB (R : Nat → Int → Int) (c : Int) : Prop := ∀ i, 0 ≤ i → i < c → (R 32 i = 43 ∨ R 32 i = 45 ∨ R 32 i = 61) ∧ (0 ≤ R 33 i ∧ R 33 i ≤ 70) ∧ (0 ≤ R 34 i ∧ R 34 i ≤ 999) ∧ (0 ≤ R 35 i ∧ R 35 i ≤ 999)
section FLT
variable {W : IS} {J : JS}
theorem ChR.b {c : Int} (h : ChR W J c) : chB W.2 c := fun i i0 i1 => (h.2 i i0 i1).2
theorem m_isSize {v : Int} (hv : 0 ≤ v ∧ v ≤ 999) {Q : Int → IS → Prop} (h1 : okZ v → Q 1 W) (h0 : ¬ okZ v → Q 0 W) : wp (I12_isSize v) Q W := by
  unfold okZ at h1 h0
  unfold I12_isSize
  simp only [wp_ib, wp_ig, wp_ite, wp_ir, wp_igI, wp_ipI, wp_ipZ, wp_inz, wp_idI, wp_irI, wp_iSl, wp_iSc, wp_iSi, iu1_1, iu1_2, iu2_1, iu2_2, wA0, wS0, wA6, wS6, wA7, wS7, wA8, wS8, wA9, wS9, wA10, wS10, wA11, wS11, wA12, wS12, wA13, wS13, wA14, wS14, wA16, wS16, wA17, wS17, wA18, wS18, wA26, wS26, wA27, wS27, wZ28, wY28, wA29, wS29, wA30, wS30, wA31, wS31, wA32, wS32, wA33, wS33, wA34, wS34, wA35, wS35, wA36, wS36, wA38, wS38, wA39, wS39, wA40, wS40, wZ41, wY41, wA45, wS45, wA46, wS46, wZ47, wY47, wZ48, wY48, Nat.reduceEqDiff, reduceIte, false_and, true_and, and_true, and_self, if_false, if_true, and_false]
  refine ⟨by omega, ?_⟩
  by_cases c1 : v = 1
  · rw [if_pos c1]; exact h1 (Or.inl c1)
  · rw [if_neg c1, par2 hv.1]
    refine ⟨⟨by decide, by omega, by omega, by decide⟩, by omega, ?_⟩
    by_cases c2 : v % 2 = 0
    · rw [if_pos c2, wp_ret (m_isIn (by omega) (by decide) (by decide))]
      refine ⟨ifR, ?_⟩
      by_cases c3 : 2 ≤ v ∧ v ≤ 12
      · rw [if_pos c3, if_neg (by decide)]; exact h1 (Or.inr ⟨c2, c3⟩)
      · rw [if_neg c3, if_pos rfl]; exact h0 (by omega)
    · rw [if_neg c2]; exact h0 (by omega)
theorem m_tw14 {e e' x4 n : Int} (hn : n ≤ 120) (hB : chB W.2 n) (he : 0 ≤ e) (h4 : e ≤ x4 ∧ x4 < e') (he' : e' ≤ n) {k5 : Int → Int → Int → Int → IM Int} {Q : Int → IS → Prop} (hk : ∀ x3, (x3 = 0 ∨ x3 = 1) → (x3 = 1 ↔ ∃ c d, e ≤ d ∧ d < c ∧ c < x4 + 1 ∧ tw W.2 c d) → wp (k5 e e' x3 (x4 + 1)) Q W) : ∀ (d m : Nat) (x3 x5 : Int), d < m → e ≤ x5 → x5 + d = x4 → (x3 = 0 ∨ x3 = 1) → (x3 = 1 ↔ ∃ c d, e ≤ d ∧ d < c ∧ (c < x4 ∨ (c = x4 ∧ d < x5)) ∧ tw W.2 c d) → wp (I12_isTwice_14 k5 m e e' x3 x4 x5) Q W := by
  intro d
  induction d with
  | zero =>
    intro m x3 x5 hm h5 h54 h3 hx
    cases m with
    | zero => omega
    | succ m =>
      unfold I12_isTwice_14 I12_isTwice_14_st I12_isTwice_108
      simp only [wp_ib, wp_ig, wp_ite, wp_ir, wp_igI, wp_ipI, wp_ipZ, wp_inz, wp_idI, wp_irI, wp_iSl, wp_iSc, wp_iSi, iu1_1, iu1_2, iu2_1, iu2_2, wA0, wS0, wA6, wS6, wA7, wS7, wA8, wS8, wA9, wS9, wA10, wS10, wA11, wS11, wA12, wS12, wA13, wS13, wA14, wS14, wA16, wS16, wA17, wS17, wA18, wS18, wA26, wS26, wA27, wS27, wZ28, wY28, wA29, wS29, wA30, wS30, wA31, wS31, wA32, wS32, wA33, wS33, wA34, wS34, wA35, wS35, wA36, wS36, wA38, wS38, wA39, wS39, wA40, wS40, wZ41, wY41, wA45, wS45, wA46, wS46, wZ47, wY47, wZ48, wY48, Nat.reduceEqDiff, reduceIte, false_and, true_and, and_true, and_self, if_false, if_true, and_false]
      rw [if_pos (by omega)]
      refine ⟨by omega, by omega, hk x3 h3 (hx.trans ⟨?_, ?_⟩)⟩
      · rintro ⟨c, d, q1, q2, q3, q4⟩
        exact ⟨c, d, q1, q2, by omega, q4⟩
      · rintro ⟨c, d, q1, q2, q3, q4⟩
        exact ⟨c, d, q1, q2, by omega, q4⟩
  | succ d ih =>
    intro m x3 x5 hm h5 h54 h3 hx
    cases m with
    | zero => omega
    | succ m =>
      have go : ∀ y, (y = 0 ∨ y = 1) → (y = 1 ↔ (x3 = 1 ∨ tw W.2 x4 x5)) → wp (I12_isTwice_14 k5 m e e' y x4 (x5 + 1)) Q W := by
        intro y hy hyx
        refine ih m y (x5 + 1) (by omega) (by omega) (by omega) hy (hyx.trans ⟨?_, ?_⟩)
        · rintro (q | q)
          · obtain ⟨c, d, q1, q2, q3, q4⟩ := hx.mp q
            exact ⟨c, d, q1, q2, by omega, q4⟩
          · exact ⟨x4, x5, h5, by omega, by omega, q⟩
        · rintro ⟨c, d, q1, q2, q3, q4⟩
          by_cases q : c = x4 ∧ d = x5
          · right
            rw [← q.1, ← q.2]
            exact q4
          · exact Or.inl (hx.mpr ⟨c, d, q1, q2, by omega, q4⟩)
      have b4 := hB x4 (by omega) (by omega)
      have b5 := hB x5 (by omega) (by omega)
      unfold I12_isTwice_14 I12_isTwice_14_st I12_isTwice_96 I12_isTwice_100 I12_isTwice_76 I12_isTwice_93 I12_isTwice_96 I12_isTwice_100 I12_isTwice_101
      simp only [wp_ib, wp_ig, wp_ite, wp_ir, wp_igI, wp_ipI, wp_ipZ, wp_inz, wp_idI, wp_irI, wp_iSl, wp_iSc, wp_iSi, iu1_1, iu1_2, iu2_1, iu2_2, wA0, wS0, wA6, wS6, wA7, wS7, wA8, wS8, wA9, wS9, wA10, wS10, wA11, wS11, wA12, wS12, wA13, wS13, wA14, wS14, wA16, wS16, wA17, wS17, wA18, wS18, wA26, wS26, wA27, wS27, wZ28, wY28, wA29, wS29, wA30, wS30, wA31, wS31, wA32, wS32, wA33, wS33, wA34, wS34, wA35, wS35, wA36, wS36, wA38, wS38, wA39, wS39, wA40, wS40, wZ41, wY41, wA45, wS45, wA46, wS46, wZ47, wY47, wZ48, wY48, Nat.reduceEqDiff, reduceIte, false_and, true_and, and_true, and_self, if_false, if_true, and_false]
      rw [if_neg (show ¬ x4 ≤ x5 by omega)]
      refine ⟨by omega, by omega, by omega, ?_⟩
      by_cases c3 : x3 = 0
      · rw [if_pos c3]
        refine ⟨by omega, by omega, by omega, by omega, ?_⟩
        by_cases c33 : W.2 33 x4 = W.2 33 x5
        · rw [if_pos c33]
          refine ⟨by omega, by omega, by omega, by omega, ?_⟩
          by_cases c34 : W.2 34 x4 = W.2 34 x5
          · rw [if_pos c34]
            refine ⟨by omega, by omega, ?_⟩
            by_cases k4 : W.2 32 x4 = 43
            · rw [if_pos k4]
              refine ⟨by omega, by omega, ?_⟩
              by_cases k5 : W.2 32 x5 = 43
              · rw [if_pos k5]
                refine ⟨by decide, by decide, ?_⟩
                exact go 1 (Or.inr rfl) ⟨fun _ => Or.inr ⟨c33, c34, ⟨fun _ => k5, fun _ => k4⟩⟩, fun _ => rfl⟩
              · rw [if_neg k5]
                refine ⟨by decide, by decide, ?_⟩
                rw [if_neg (by decide)]
                exact go 0 (Or.inl rfl) ⟨fun q => absurd q (by decide), fun q => by rcases q with q | q; omega; exact absurd (q.2.2.mp k4) k5⟩
            · rw [if_neg k4]
              refine ⟨by omega, by omega, ?_⟩
              by_cases k5 : W.2 32 x5 = 43
              · rw [if_pos k5]
                refine ⟨by decide, by decide, ?_⟩
                rw [if_neg (by decide)]
                exact go 0 (Or.inl rfl) ⟨fun q => absurd q (by decide), fun q => by rcases q with q | q; omega; exact absurd (q.2.2.mpr k5) k4⟩
              · rw [if_neg k5]
                refine ⟨by decide, by decide, ?_⟩
                exact go 1 (Or.inr rfl) ⟨fun _ => Or.inr ⟨c33, c34, ⟨fun q => absurd q k4, fun q => absurd q k5⟩⟩, fun _ => rfl⟩
          · rw [if_neg c34]
            exact go 0 (Or.inl rfl) ⟨fun q => absurd q (by decide), fun q => by rcases q with q | q; omega; exact absurd q.2.1 c34⟩
        · rw [if_neg c33]
          exact go 0 (Or.inl rfl) ⟨fun q => absurd q (by decide), fun q => by rcases q with q | q; omega; exact absurd q.1 c33⟩
      · rw [if_neg c3]
        exact go 1 (Or.inr rfl) ⟨fun _ => Or.inl (by omega), fun _ => rfl⟩
theorem m_isTwice {e e' n : Int} (hn : n ≤ 120) (hB : chB W.2 n) (he : 0 ≤ e) (hee : e ≤ e') (he' : e' ≤ n) {Q : Int → IS → Prop} (h1 : P6 W.2 e e' → Q 1 W) (h0 : ¬ P6 W.2 e e' → Q 0 W) : wp (I12_isTwice e e') Q W := by
  have lp : ∀ (d m : Nat) (x3 x4 : Int), d < m → e ≤ x4 → x4 + d = e' → (x3 = 0 ∨ x3 = 1) → (x3 = 1 ↔ ∃ c d, e ≤ d ∧ d < c ∧ c < x4 ∧ tw W.2 c d) → wp (I12_isTwice_5 m e e' x3 x4) Q W := by
    intro d
    induction d with
    | zero =>
      intro m x3 x4 hm h4 h44 h3 hx
      cases m with
      | zero => omega
      | succ m =>
        unfold I12_isTwice_5 I12_isTwice_5_st
        simp only [wp_ib, wp_ig, wp_ite, wp_ir, wp_igI, wp_ipI, wp_ipZ, wp_inz, wp_idI, wp_irI, wp_iSl, wp_iSc, wp_iSi, iu1_1, iu1_2, iu2_1, iu2_2, wA0, wS0, wA6, wS6, wA7, wS7, wA8, wS8, wA9, wS9, wA10, wS10, wA11, wS11, wA12, wS12, wA13, wS13, wA14, wS14, wA16, wS16, wA17, wS17, wA18, wS18, wA26, wS26, wA27, wS27, wZ28, wY28, wA29, wS29, wA30, wS30, wA31, wS31, wA32, wS32, wA33, wS33, wA34, wS34, wA35, wS35, wA36, wS36, wA38, wS38, wA39, wS39, wA40, wS40, wZ41, wY41, wA45, wS45, wA46, wS46, wZ47, wY47, wZ48, wY48, Nat.reduceEqDiff, reduceIte, false_and, true_and, and_true, and_self, if_false, if_true, and_false]
        rw [if_pos (by omega)]
        refine ⟨by omega, by omega, h3, ?_⟩
        have e4 : x4 = e' := by omega
        rw [e4] at hx
        rcases h3 with q | q
        · rw [q]; exact h0 (fun r => by have := hx.mpr r; omega)
        · rw [q]; exact h1 (hx.mp q)
    | succ d ih =>
      intro m x3 x4 hm h4 h44 h3 hx
      cases m with
      | zero => omega
      | succ m =>
        unfold I12_isTwice_5 I12_isTwice_5_st
        simp only [wp_ib, wp_ig, wp_ite, wp_ir, wp_igI, wp_ipI, wp_ipZ, wp_inz, wp_idI, wp_irI, wp_iSl, wp_iSc, wp_iSi, iu1_1, iu1_2, iu2_1, iu2_2, wA0, wS0, wA6, wS6, wA7, wS7, wA8, wS8, wA9, wS9, wA10, wS10, wA11, wS11, wA12, wS12, wA13, wS13, wA14, wS14, wA16, wS16, wA17, wS17, wA18, wS18, wA26, wS26, wA27, wS27, wZ28, wY28, wA29, wS29, wA30, wS30, wA31, wS31, wA32, wS32, wA33, wS33, wA34, wS34, wA35, wS35, wA36, wS36, wA38, wS38, wA39, wS39, wA40, wS40, wZ41, wY41, wA45, wS45, wA46, wS46, wZ47, wY47, wZ48, wY48, Nat.reduceEqDiff, reduceIte, false_and, true_and, and_true, and_self, if_false, if_true, and_false]
        rw [if_neg (by omega)]
        refine ⟨by omega, by omega, ?_⟩
        refine m_tw14 (n := n) hn hB he ⟨h4, by omega⟩ he' (fun y hy hyx => ih m y (x4 + 1) (by omega) (by omega) (by omega) hy hyx) (x4 - e).toNat LFU x3 e (by unfold LFU; omega) (Int.le_refl _) (by omega) h3 (hx.trans ⟨?_, ?_⟩)
        · rintro ⟨c, d, q1, q2, q3, q4⟩
          exact ⟨c, d, q1, q2, by omega, q4⟩
        · rintro ⟨c, d, q1, q2, q3, q4⟩
          exact ⟨c, d, q1, q2, by omega, q4⟩
  exact lp (e' - e).toNat LFU 0 e (by unfold LFU; omega) (Int.le_refl _) (by omega) (Or.inl rfl) ⟨fun q => by omega, fun ⟨c, d, q1, q2, q3, _⟩ => by omega⟩
theorem m_isFewPut {e e' n : Int} (hn : n ≤ 120) (hB : chB W.2 n) (he : 0 ≤ e) (hee : e ≤ e') (he' : e' ≤ n) {Q : Int → IS → Prop} (h1 : ¬ P5 W.2 e e' → Q 1 W) (h0 : P5 W.2 e e' → Q 0 W) : wp (I12_isFewPut e e') Q W := by
  have lp : ∀ (d m : Nat) (x3 x4 : Int), d < m → e ≤ x4 → x4 + d = e' → (x3 = 0 ∨ x3 = 1) → (x3 = 0 ↔ P5 W.2 e x4) → wp (I12_isFewPut_5 m e' x3 x4) Q W := by
    intro d
    induction d with
    | zero =>
      intro m x3 x4 hm h4 h44 h3 hx
      cases m with
      | zero => omega
      | succ m =>
        unfold I12_isFewPut_5 I12_isFewPut_5_st
        simp only [wp_ib, wp_ig, wp_ite, wp_ir, wp_igI, wp_ipI, wp_ipZ, wp_inz, wp_idI, wp_irI, wp_iSl, wp_iSc, wp_iSi, iu1_1, iu1_2, iu2_1, iu2_2, wA0, wS0, wA6, wS6, wA7, wS7, wA8, wS8, wA9, wS9, wA10, wS10, wA11, wS11, wA12, wS12, wA13, wS13, wA14, wS14, wA16, wS16, wA17, wS17, wA18, wS18, wA26, wS26, wA27, wS27, wZ28, wY28, wA29, wS29, wA30, wS30, wA31, wS31, wA32, wS32, wA33, wS33, wA34, wS34, wA35, wS35, wA36, wS36, wA38, wS38, wA39, wS39, wA40, wS40, wZ41, wY41, wA45, wS45, wA46, wS46, wZ47, wY47, wZ48, wY48, Nat.reduceEqDiff, reduceIte, false_and, true_and, and_true, and_self, if_false, if_true, and_false]
        rw [if_pos (by omega)]
        refine ⟨by omega, by omega, h3, ?_⟩
        have e4 : x4 = e' := by omega
        rw [e4] at hx
        rcases h3 with q | q
        · rw [q]; exact h0 (hx.mp q)
        · rw [q]; exact h1 (fun r => by have := hx.mpr r; omega)
    | succ d ih =>
      intro m x3 x4 hm h4 h44 h3 hx
      cases m with
      | zero => omega
      | succ m =>
        have b4 := hB x4 (by omega) (by omega)
        have go : ∀ y, (y = 0 ∨ y = 1) → (y = 0 ↔ (x3 = 0 ∨ (W.2 32 x4 = 43 ∧ ¬ (1 ≤ W.2 35 x4 ∧ W.2 35 x4 ≤ 4)))) → wp (I12_isFewPut_5 m e' y (x4 + 1)) Q W := by
          intro y hy hyx
          refine ih m y (x4 + 1) (by omega) (by omega) (by omega) hy (hyx.trans ⟨?_, ?_⟩)
          · rintro (q | q)
            · obtain ⟨c, q1, q2, q3⟩ := hx.mp q
              exact ⟨c, q1, by omega, q3⟩
            · exact ⟨x4, h4, by omega, q⟩
          · rintro ⟨c, q1, q2, q3⟩
            by_cases q : c = x4
            · right
              rw [← q]
              exact q3
            · exact Or.inl (hx.mpr ⟨c, q1, by omega, q3⟩)
        unfold I12_isFewPut_5 I12_isFewPut_5_st I12_isFewPut_46 I12_isFewPut_42 I12_isFewPut_47
        simp only [wp_ib, wp_ig, wp_ite, wp_ir, wp_igI, wp_ipI, wp_ipZ, wp_inz, wp_idI, wp_irI, wp_iSl, wp_iSc, wp_iSi, iu1_1, iu1_2, iu2_1, iu2_2, wA0, wS0, wA6, wS6, wA7, wS7, wA8, wS8, wA9, wS9, wA10, wS10, wA11, wS11, wA12, wS12, wA13, wS13, wA14, wS14, wA16, wS16, wA17, wS17, wA18, wS18, wA26, wS26, wA27, wS27, wZ28, wY28, wA29, wS29, wA30, wS30, wA31, wS31, wA32, wS32, wA33, wS33, wA34, wS34, wA35, wS35, wA36, wS36, wA38, wS38, wA39, wS39, wA40, wS40, wZ41, wY41, wA45, wS45, wA46, wS46, wZ47, wY47, wZ48, wY48, Nat.reduceEqDiff, reduceIte, false_and, true_and, and_true, and_self, if_false, if_true, and_false]
        rw [if_neg (show ¬ e' ≤ x4 by omega)]
        refine ⟨by omega, by omega, by omega, ?_⟩
        by_cases c3 : x3 = 0
        · rw [if_pos c3]
          exact go 0 (Or.inl rfl) ⟨fun _ => Or.inl c3, fun _ => rfl⟩
        · rw [if_neg c3]
          refine ⟨by omega, by omega, ?_⟩
          by_cases k4 : W.2 32 x4 = 43
          · rw [if_pos k4]
            refine ⟨by omega, ?_⟩
            rw [wp_ret (m_isIn (by omega) (by decide) (by decide))]
            refine ⟨ifR, ?_⟩
            by_cases c5 : 1 ≤ W.2 35 x4 ∧ W.2 35 x4 ≤ 4
            · rw [if_pos c5, if_neg (by decide)]
              exact go 1 (Or.inr rfl) ⟨fun q => by omega, fun q => by omega⟩
            · rw [if_neg c5, if_pos rfl]
              exact go 0 (Or.inl rfl) ⟨fun _ => Or.inr ⟨k4, c5⟩, fun _ => rfl⟩
          · rw [if_neg k4]
            exact go 1 (Or.inr rfl) ⟨fun q => by omega, fun q => by omega⟩
  exact lp (e' - e).toNat LFU 1 e (by unfold LFU; omega) (Int.le_refl _) (by omega) (Or.inr rfl) ⟨fun q => by omega, fun ⟨c, q1, q2, _⟩ => by omega⟩
end FLT
