/-! ===== the model counts all leaves, looks for gatherings, places, conjugates ===== -/
section MB2
variable {W : IS}
theorem m_total_31 {b : Int} (hb0 : 0 ≤ b) (hb : b < 8) (hB : BOK (mB W b)) {g : Int} (hg : 0 ≤ g ∧ g < bn (mB W b)) {k4 : Int → Int → Int → IM Int} {Q : Int → IS → Prop} : ∀ (d m : Nat) (a i : Int), d < m → 1 ≤ i → i + d = bz (mB W b) g + 1 → wp (k4 b (a + smz (bm (mB W b) g) d i) (g + 1)) Q W → wp (I12_total_31 k4 m b a g i) Q W := by
  have hzz := (hB.2.1 g hg.1 hg.2).2
  have hn71 := hB.1
  have e : W.2 8 (b * 71 + g) = bz (mB W b) g := rfl
  intro d
  induction d with
  | zero =>
    intro m a i hm hi hd hk
    cases m with
    | zero => omega
    | succ m =>
      unfold I12_total_31 I12_total_31_st I12_total_68
      simp only [wp_ib, wp_ig, wp_ite, wp_ir, wp_igI, wp_ipI, wp_ipZ, wp_inz, wp_idI, wp_irI, wp_iSl, wp_iSc, wp_iSi, iu1_1, iu1_2, iu2_1, iu2_2, wA0, wS0, wA6, wS6, wA7, wS7, wA8, wS8, wA9, wS9, wA10, wS10, wA11, wS11, wA12, wS12, wA13, wS13, wA14, wS14, wA16, wS16, wA17, wS17, wA18, wS18, wA26, wS26, wA27, wS27, wZ28, wY28, wA29, wS29, wA30, wS30, wA31, wS31, wA32, wS32, wA33, wS33, wA34, wS34, wA35, wS35, wA36, wS36, wA38, wS38, wA39, wS39, wA40, wS40, wZ41, wY41, wA45, wS45, wA46, wS46, wZ47, wY47, wZ48, wY48, Nat.reduceEqDiff, reduceIte, false_and, true_and, and_true, and_self, if_false, if_true, and_false]
      rw [e, if_pos (by omega)]
      have e0 : a + smz (bm (mB W b) g) 0 i = a := by simp [smz]
      rw [e0] at hk
      exact ⟨by omega, by omega, by omega, hk⟩
  | succ d ih =>
    intro m a i hm hi hd hk
    cases m with
    | zero => omega
    | succ m =>
      unfold I12_total_31 I12_total_31_st
      have e2 : W.2 10 ((b * 71 + g) * 13 + i) = bm (mB W b) g i := rfl
      simp only [wp_ib, wp_ig, wp_ite, wp_ir, wp_igI, wp_ipI, wp_ipZ, wp_inz, wp_idI, wp_irI, wp_iSl, wp_iSc, wp_iSi, iu1_1, iu1_2, iu2_1, iu2_2, wA0, wS0, wA6, wS6, wA7, wS7, wA8, wS8, wA9, wS9, wA10, wS10, wA11, wS11, wA12, wS12, wA13, wS13, wA14, wS14, wA16, wS16, wA17, wS17, wA18, wS18, wA26, wS26, wA27, wS27, wZ28, wY28, wA29, wS29, wA30, wS30, wA31, wS31, wA32, wS32, wA33, wS33, wA34, wS34, wA35, wS35, wA36, wS36, wA38, wS38, wA39, wS39, wA40, wS40, wZ41, wY41, wA45, wS45, wA46, wS46, wZ47, wY47, wZ48, wY48, Nat.reduceEqDiff, reduceIte, false_and, true_and, and_true, and_self, if_false, if_true, and_false]
      rw [e, if_neg (by omega), wp_ret m_spot, e2]
      refine ⟨by omega, by omega, by omega, by omega, ih m _ (i + 1) (by omega) (by omega) (by omega) ?_⟩
      have e0 : a + smz (bm (mB W b) g) (d + 1) i = a + bm (mB W b) g i + smz (bm (mB W b) g) d (i + 1) := by show a + (_ + _) = _; omega
      rw [e0] at hk
      exact hk
theorem m_total_4 {b : Int} (hb0 : 0 ≤ b) (hb : b < 8) (hB : BOK (mB W b)) : ∀ (d m : Nat) (a g : Int), d < m → 0 ≤ g → g + d = bn (mB W b) → I12_total_4 m b a g W = some (a + smz (fun g => bz (mB W b) g + smz (bm (mB W b) g) (bz (mB W b) g).toNat 1) d g, W) := by
  have hn71 := hB.1
  have e : W.2 6 b = bn (mB W b) := rfl
  intro d
  induction d with
  | zero =>
    intro m a g hm hg hd
    cases m with
    | zero => omega
    | succ m =>
      refine wp_eq ?_
      unfold I12_total_4 I12_total_4_st
      simp only [wp_ib, wp_ig, wp_ite, wp_ir, wp_igI, wp_ipI, wp_ipZ, wp_inz, wp_idI, wp_irI, wp_iSl, wp_iSc, wp_iSi, iu1_1, iu1_2, iu2_1, iu2_2, wA0, wS0, wA6, wS6, wA7, wS7, wA8, wS8, wA9, wS9, wA10, wS10, wA11, wS11, wA12, wS12, wA13, wS13, wA14, wS14, wA16, wS16, wA17, wS17, wA18, wS18, wA26, wS26, wA27, wS27, wZ28, wY28, wA29, wS29, wA30, wS30, wA31, wS31, wA32, wS32, wA33, wS33, wA34, wS34, wA35, wS35, wA36, wS36, wA38, wS38, wA39, wS39, wA40, wS40, wZ41, wY41, wA45, wS45, wA46, wS46, wZ47, wY47, wZ48, wY48, Nat.reduceEqDiff, reduceIte, false_and, true_and, and_true, and_self, if_false, if_true, and_false]
      rw [e, if_pos (by omega)]
      exact ⟨by omega, by omega, by omega, by simp [smz]⟩
  | succ d ih =>
    intro m a g hm hg hd
    cases m with
    | zero => omega
    | succ m =>
      refine wp_eq ?_
      unfold I12_total_4 I12_total_4_st
      have hzz := (hB.2.1 g hg (by omega)).2
      have e2 : W.2 8 (b * 71 + g) = bz (mB W b) g := rfl
      simp only [wp_ib, wp_ig, wp_ite, wp_ir, wp_igI, wp_ipI, wp_ipZ, wp_inz, wp_idI, wp_irI, wp_iSl, wp_iSc, wp_iSi, iu1_1, iu1_2, iu2_1, iu2_2, wA0, wS0, wA6, wS6, wA7, wS7, wA8, wS8, wA9, wS9, wA10, wS10, wA11, wS11, wA12, wS12, wA13, wS13, wA14, wS14, wA16, wS16, wA17, wS17, wA18, wS18, wA26, wS26, wA27, wS27, wZ28, wY28, wA29, wS29, wA30, wS30, wA31, wS31, wA32, wS32, wA33, wS33, wA34, wS34, wA35, wS35, wA36, wS36, wA38, wS38, wA39, wS39, wA40, wS40, wZ41, wY41, wA45, wS45, wA46, wS46, wZ47, wY47, wZ48, wY48, Nat.reduceEqDiff, reduceIte, false_and, true_and, and_true, and_self, if_false, if_true, and_false]
      rw [e, if_neg (by omega), e2]
      refine ⟨by omega, by omega, by omega, by omega, m_total_31 hb0 hb hB ⟨hg, by omega⟩ (bz (mB W b) g).toNat LFU _ 1 (by unfold LFU; omega) (by omega) (by omega) ?_⟩
      rw [wp_ret (ih m _ (g + 1) (by omega) (by omega) (by omega))]
      refine ⟨?_, rfl⟩
      show _ = a + (bz (mB W b) g + smz (bm (mB W b) g) (bz (mB W b) g).toNat 1 + _)
      omega
theorem m_total {b : Int} (hb0 : 0 ≤ b) (hb : b < 8) (hB : BOK (mB W b)) : I12_total b W = some (tot (mB W b), W) := by
  have hn71 := hB.1
  unfold I12_total
  rw [m_total_4 hb0 hb hB (bn (mB W b)).toNat LFU 0 0 (by unfold LFU; omega) (by omega) (by omega), Int.zero_add]
  rfl
/-- where a sign's gathering is -/
theorem m_gatheringOf_2 {b s : Int} (hb0 : 0 ≤ b) (hb : b < 8) (hB : BOK (mB W b)) (hs : R32 s) {Q : Int → IS → Prop} (h1 : ∀ g, 0 ≤ g → g < bn (mB W b) → bs (mB W b) g = s → Q g W) (h2 : (∀ g, 0 ≤ g → g < bn (mB W b) → bs (mB W b) g ≠ s) → Q (-1) W) : ∀ (d m : Nat) (g : Int), d < m → 0 ≤ g → g + d = bn (mB W b) → (∀ h, 0 ≤ h → h < g → bs (mB W b) h ≠ s) → wp (I12_gatheringOf_2 m b s g) Q W := by
  have hn71 := hB.1
  have e : W.2 6 b = bn (mB W b) := rfl
  intro d
  induction d with
  | zero =>
    intro m g hm hg hd ho
    cases m with
    | zero => omega
    | succ m =>
      unfold I12_gatheringOf_2 I12_gatheringOf_2_st
      simp only [wp_ib, wp_ig, wp_ite, wp_ir, wp_igI, wp_ipI, wp_ipZ, wp_inz, wp_idI, wp_irI, wp_iSl, wp_iSc, wp_iSi, iu1_1, iu1_2, iu2_1, iu2_2, wA0, wS0, wA6, wS6, wA7, wS7, wA8, wS8, wA9, wS9, wA10, wS10, wA11, wS11, wA12, wS12, wA13, wS13, wA14, wS14, wA16, wS16, wA17, wS17, wA18, wS18, wA26, wS26, wA27, wS27, wZ28, wY28, wA29, wS29, wA30, wS30, wA31, wS31, wA32, wS32, wA33, wS33, wA34, wS34, wA35, wS35, wA36, wS36, wA38, wS38, wA39, wS39, wA40, wS40, wZ41, wY41, wA45, wS45, wA46, wS46, wZ47, wY47, wZ48, wY48, Nat.reduceEqDiff, reduceIte, false_and, true_and, and_true, and_self, if_false, if_true, and_false]
      rw [e, if_pos (by omega)]
      exact ⟨by omega, by omega, by omega, h2 fun g' q1 q2 => ho g' q1 (by omega)⟩
  | succ d ih =>
    intro m g hm hg hd ho
    cases m with
    | zero => omega
    | succ m =>
      unfold I12_gatheringOf_2 I12_gatheringOf_2_st
      have hss := (hB.2.1 g hg (by omega)).1
      have e2 : W.2 7 (b * 71 + g) = bs (mB W b) g := rfl
      simp only [wp_ib, wp_ig, wp_ite, wp_ir, wp_igI, wp_ipI, wp_ipZ, wp_inz, wp_idI, wp_irI, wp_iSl, wp_iSc, wp_iSi, iu1_1, iu1_2, iu2_1, iu2_2, wA0, wS0, wA6, wS6, wA7, wS7, wA8, wS8, wA9, wS9, wA10, wS10, wA11, wS11, wA12, wS12, wA13, wS13, wA14, wS14, wA16, wS16, wA17, wS17, wA18, wS18, wA26, wS26, wA27, wS27, wZ28, wY28, wA29, wS29, wA30, wS30, wA31, wS31, wA32, wS32, wA33, wS33, wA34, wS34, wA35, wS35, wA36, wS36, wA38, wS38, wA39, wS39, wA40, wS40, wZ41, wY41, wA45, wS45, wA46, wS46, wZ47, wY47, wZ48, wY48, Nat.reduceEqDiff, reduceIte, false_and, true_and, and_true, and_self, if_false, if_true, and_false]
      rw [e, if_neg (by omega), e2]
      refine ⟨by omega, by omega, by omega, by omega, by omega, hs, ?_⟩
      by_cases h : bs (mB W b) g = s
      · rw [if_pos h]
        exact h1 g hg (by omega) h
      · rw [if_neg h]
        refine ih m (g + 1) (by omega) (by omega) (by omega) fun h' q1 q2 => ?_
        by_cases q3 : h' = g
        · subst q3; exact h
        · exact ho h' q1 (by omega)
theorem m_gatheringOf {b s : Int} (hb0 : 0 ≤ b) (hb : b < 8) (hB : BOK (mB W b)) (hs : R32 s) {Q : Int → IS → Prop} (h1 : ∀ g, 0 ≤ g → g < bn (mB W b) → bs (mB W b) g = s → Q g W) (h2 : (∀ g, 0 ≤ g → g < bn (mB W b) → bs (mB W b) g ≠ s) → Q (-1) W) : wp (I12_gatheringOf b s) Q W := by
  have hn71 := hB.1
  unfold I12_gatheringOf
  exact m_gatheringOf_2 hb0 hb hB hs h1 h2 (bn (mB W b)).toNat LFU 0 (by unfold LFU; omega) (by omega) (by omega) (fun h q1 q2 => by omega)
/-- a book that stands -/
def BkI (W : IS) (b : Int) : Prop := BOK (mB W b) ∧ W.2 11 b = LC (mB W b) ∧ LC (mB W b) ≤ 400 ∧ mL W b (LC (mB W b))
/-- where a leaf is, by its sign, number and which of those put in -/
def plc (B : BK) (s i k : Int) (p : Int) : Prop := (∃ g, isAt B p g i k ∧ bs B g = s) ∨ (p = -1 ∧ ∀ q g, isAt B q g i k → bs B g ≠ s)
theorem plc_u {B : BK} (hB : BOK B) {s i k p p' : Int} (h : plc B s i k p) (h' : plc B s i k p') : p = p' := by
  rcases h with ⟨g, h1, h2⟩ | ⟨h1, h2⟩
  · rcases h' with ⟨g', h1', h2'⟩ | ⟨h1', h2'⟩
    · have e : g = g' := by
        by_cases q : g < g'
        · have := hB.2.2.2 g g' h1.1.1.1 q h1'.1.1.2; omega
        · by_cases q2 : g' < g
          · have := hB.2.2.2 g' g h1'.1.1.1 q2 h1.1.1.2; omega
          · omega
      subst e
      rw [h1.2.2, h1'.2.2]
    · exact absurd h2 (h2' _ _ h1)
  · rcases h' with ⟨g', h1', h2'⟩ | ⟨h1', h2'⟩
    · exact absurd h2' (h2 _ _ h1')
    · rw [h1, h1']
theorem m_placeOf_3 {b s i k : Int} (hb0 : 0 ≤ b) (hb : b < 8) (hI : BkI W b) (hs : R32 s) (hi : R32 i) (hk : R32 k) {Q : Int → IS → Prop} (hq : ∀ p, plc (mB W b) s i k p → Q p W) : ∀ (d m : Nat) (p : Int), d < m → 0 ≤ p → p + d = LC (mB W b) → (∀ q g, 0 ≤ q → q < p → isAt (mB W b) q g i k → bs (mB W b) g ≠ s) → wp (I12_placeOf_3 m b s i k p) Q W := by
  obtain ⟨hB, h11, h400, hL⟩ := hI
  intro d
  induction d with
  | zero =>
    intro m p hm hp hd ho
    cases m with
    | zero => omega
    | succ m =>
      unfold I12_placeOf_3 I12_placeOf_3_st
      simp only [wp_ib, wp_ig, wp_ite, wp_ir, wp_igI, wp_ipI, wp_ipZ, wp_inz, wp_idI, wp_irI, wp_iSl, wp_iSc, wp_iSi, iu1_1, iu1_2, iu2_1, iu2_2, wA0, wS0, wA6, wS6, wA7, wS7, wA8, wS8, wA9, wS9, wA10, wS10, wA11, wS11, wA12, wS12, wA13, wS13, wA14, wS14, wA16, wS16, wA17, wS17, wA18, wS18, wA26, wS26, wA27, wS27, wZ28, wY28, wA29, wS29, wA30, wS30, wA31, wS31, wA32, wS32, wA33, wS33, wA34, wS34, wA35, wS35, wA36, wS36, wA38, wS38, wA39, wS39, wA40, wS40, wZ41, wY41, wA45, wS45, wA46, wS46, wZ47, wY47, wZ48, wY48, Nat.reduceEqDiff, reduceIte, false_and, true_and, and_true, and_self, if_false, if_true, and_false]
      rw [h11, if_pos (by omega)]
      refine ⟨by omega, by omega, by omega, hq _ (Or.inr ⟨rfl, fun q g hA => ?_⟩)⟩
      have := LC_bd hB hA
      exact ho q g this.1 (by omega) hA
  | succ d ih =>
    intro m p hm hp hd ho
    cases m with
    | zero => omega
    | succ m =>
      have hA := hL p hp (by omega)
      revert hA
      show isAt (mB W b) p (W.2 12 (b * 400 + p)) (W.2 13 (b * 400 + p)) (W.2 14 (b * 400 + p)) → _
      intro hA
      have hss := (hB.2.1 _ hA.1.1.1 hA.1.1.2).1
      have hzz := (hB.2.1 _ hA.1.1.1 hA.1.1.2).2
      have hmm := hB.2.2.1 _ _ hA.1.1.1 hA.1.1.2 hA.1.2.1 hA.1.2.2
      have hcc := cut01 (B := mB W b) (W.2 12 (b * 400 + p)) (W.2 13 (b * 400 + p))
      have hA1 := hA.1
      have hA2 := hA.2
      have hn71 := hB.1
      have e2 : W.2 7 (b * 71 + W.2 12 (b * 400 + p)) = bs (mB W b) (W.2 12 (b * 400 + p)) := rfl
      have nx : ¬ (bs (mB W b) (W.2 12 (b * 400 + p)) = s ∧ W.2 13 (b * 400 + p) = i ∧ W.2 14 (b * 400 + p) = k) → wp (I12_placeOf_3 m b s i k (p + 1)) Q W := fun hn => by
        refine ih m (p + 1) (by omega) (by omega) (by omega) fun q g q1 q2 hA' => ?_
        by_cases e : q = p
        · subst e
          obtain ⟨u1, u2, u3⟩ := isAt_u hB hA hA'
          intro e4
          exact hn ⟨by rw [u1]; exact e4, u2, u3⟩
        · exact ho q g q1 (by omega) hA'
      unfold I12_placeOf_3 I12_placeOf_3_st I12_placeOf_71
      simp only [wp_ib, wp_ig, wp_ite, wp_ir, wp_igI, wp_ipI, wp_ipZ, wp_inz, wp_idI, wp_irI, wp_iSl, wp_iSc, wp_iSi, iu1_1, iu1_2, iu2_1, iu2_2, wA0, wS0, wA6, wS6, wA7, wS7, wA8, wS8, wA9, wS9, wA10, wS10, wA11, wS11, wA12, wS12, wA13, wS13, wA14, wS14, wA16, wS16, wA17, wS17, wA18, wS18, wA26, wS26, wA27, wS27, wZ28, wY28, wA29, wS29, wA30, wS30, wA31, wS31, wA32, wS32, wA33, wS33, wA34, wS34, wA35, wS35, wA36, wS36, wA38, wS38, wA39, wS39, wA40, wS40, wZ41, wY41, wA45, wS45, wA46, wS46, wZ47, wY47, wZ48, wY48, Nat.reduceEqDiff, reduceIte, false_and, true_and, and_true, and_self, if_false, if_true, and_false]
      rw [h11, if_neg (by omega), e2]
      unfold isV at hA1
      refine ⟨by omega, by omega, by omega, by omega, by omega, by omega, hs, ?_⟩
      by_cases c1 : bs (mB W b) (W.2 12 (b * 400 + p)) = s
      · rw [if_pos c1]
        refine ⟨by omega, by omega, hi, ?_⟩
        by_cases c2 : W.2 13 (b * 400 + p) = i
        · rw [if_pos c2]
          refine ⟨by omega, by omega, hk, ?_⟩
          by_cases c3 : W.2 14 (b * 400 + p) = k
          · rw [if_pos c3]
            exact hq p (Or.inl ⟨_, by rw [← c2, ← c3]; exact hA, c1⟩)
          · rw [if_neg c3]
            exact nx fun q => c3 q.2.2
        · rw [if_neg c2]
          exact nx fun q => c2 q.2.1
      · rw [if_neg c1]
        exact nx fun q => c1 q.1
theorem m_placeOf {b s i k : Int} (hb0 : 0 ≤ b) (hb : b < 8) (hI : BkI W b) (hs : R32 s) (hi : R32 i) (hk : R32 k) {Q : Int → IS → Prop} (hq : ∀ p, plc (mB W b) s i k p → Q p W) : wp (I12_placeOf b s i k) Q W := by
  have h1 := LC_tot hI.1
  have h2 := hI.2.2.1
  unfold I12_placeOf
  exact m_placeOf_3 hb0 hb hI hs hi hk hq (LC (mB W b)).toNat LFU 0 (by unfold LFU; omega) (by omega) (by omega) (fun q g q1 q2 => by omega)
/-- whether the leaf at a place is plain -/
def pln (B : BK) (LG LI LK : Int → Int) (p : Int) : Prop := LK p = 0 ∧ bf B (LG p) (LI p) = 0
theorem BkI.at {b p : Int} (hI : BkI W b) (h0 : 0 ≤ p) (h1 : p < LC (mB W b)) : isAt (mB W b) p (W.2 12 (b * 400 + p)) (W.2 13 (b * 400 + p)) (W.2 14 (b * 400 + p)) := hI.2.2.2 p h0 h1
theorem m_isPlain {b p : Int} (hb0 : 0 ≤ b) (hb : b < 8) (hI : BkI W b) (h0 : 0 ≤ p) (h1 : p < LC (mB W b)) {Q : Int → IS → Prop} (hq : ∀ v, (v = 1 ∧ W.2 14 (b * 400 + p) = 0 ∧ bf (mB W b) (W.2 12 (b * 400 + p)) (W.2 13 (b * 400 + p)) = 0) ∨ (v = 0 ∧ ¬ (W.2 14 (b * 400 + p) = 0 ∧ bf (mB W b) (W.2 12 (b * 400 + p)) (W.2 13 (b * 400 + p)) = 0)) → Q v W) : wp (I12_isPlain b p) Q W := by
  have hA := hI.at h0 h1
  have h400 := hI.2.2.1
  have hB := hI.1
  have hzz := (hB.2.1 _ hA.1.1.1 hA.1.1.2).2
  have hmm := hB.2.2.1 _ _ hA.1.1.1 hA.1.1.2 hA.1.2.1 hA.1.2.2
  have hcc := cut01 (B := mB W b) (W.2 12 (b * 400 + p)) (W.2 13 (b * 400 + p))
  have hA1 := hA.1
  have hA2 := hA.2
  have hn71 := hB.1
  unfold isV at hA1
  unfold I12_isPlain
  have e2 : W.2 9 ((b * 71 + W.2 12 (b * 400 + p)) * 13 + W.2 13 (b * 400 + p)) = bf (mB W b) (W.2 12 (b * 400 + p)) (W.2 13 (b * 400 + p)) := rfl
  simp only [wp_ib, wp_ig, wp_ite, wp_ir, wp_igI, wp_ipI, wp_ipZ, wp_inz, wp_idI, wp_irI, wp_iSl, wp_iSc, wp_iSi, iu1_1, iu1_2, iu2_1, iu2_2, wA0, wS0, wA6, wS6, wA7, wS7, wA8, wS8, wA9, wS9, wA10, wS10, wA11, wS11, wA12, wS12, wA13, wS13, wA14, wS14, wA16, wS16, wA17, wS17, wA18, wS18, wA26, wS26, wA27, wS27, wZ28, wY28, wA29, wS29, wA30, wS30, wA31, wS31, wA32, wS32, wA33, wS33, wA34, wS34, wA35, wS35, wA36, wS36, wA38, wS38, wA39, wS39, wA40, wS40, wZ41, wY41, wA45, wS45, wA46, wS46, wZ47, wY47, wZ48, wY48, Nat.reduceEqDiff, reduceIte, false_and, true_and, and_true, and_self, if_false, if_true, and_false]
  refine ⟨by omega, by omega, ?_⟩
  by_cases c1 : W.2 14 (b * 400 + p) = 0
  · rw [if_pos c1, wp_ret m_spot, e2]
    refine ⟨by omega, by omega, by omega, by omega, ?_⟩
    by_cases c2 : bf (mB W b) (W.2 12 (b * 400 + p)) (W.2 13 (b * 400 + p)) = 0
    · rw [if_pos c2]; exact hq 1 (Or.inl ⟨rfl, c1, c2⟩)
    · rw [if_neg c2]; exact hq 0 (Or.inr ⟨rfl, fun q => c2 q.2⟩)
  · rw [if_neg c1]
    exact hq 0 (Or.inr ⟨rfl, fun q => c1 q.1⟩)
/-- the conjugate of a leaf -/
def cjg (B : BK) (g i k q : Int) : Prop := ((k = 0 ∧ bf B g i = 0) ∧ bz B g + 1 - i ≠ i ∧ isAt B q g (bz B g + 1 - i) 0 ∧ bf B g (bz B g + 1 - i) = 0) ∨ (q = -1 ∧ ¬ ((k = 0 ∧ bf B g i = 0) ∧ bz B g + 1 - i ≠ i ∧ bf B g (bz B g + 1 - i) = 0))
theorem m_conjugate {b p : Int} (hb0 : 0 ≤ b) (hb : b < 8) (hI : BkI W b) (h0 : 0 ≤ p) (h1 : p < LC (mB W b)) {Q : Int → IS → Prop} (hq : ∀ q, cjg (mB W b) (W.2 12 (b * 400 + p)) (W.2 13 (b * 400 + p)) (W.2 14 (b * 400 + p)) q → Q q W) : wp (I12_conjugate b p) Q W := by
  have hA := hI.at h0 h1
  have h400 := hI.2.2.1
  have hB := hI.1
  have hzz := (hB.2.1 _ hA.1.1.1 hA.1.1.2).2
  have hss := (hB.2.1 _ hA.1.1.1 hA.1.1.2).1
  have hmm := hB.2.2.1 _ _ hA.1.1.1 hA.1.1.2 hA.1.2.1 hA.1.2.2
  have hcc := cut01 (B := mB W b) (W.2 12 (b * 400 + p)) (W.2 13 (b * 400 + p))
  have hA1 := hA.1
  have hA2 := hA.2
  have hn71 := hB.1
  unfold isV at hA1
  have e2 : W.2 8 (b * 71 + W.2 12 (b * 400 + p)) = bz (mB W b) (W.2 12 (b * 400 + p)) := rfl
  have e3 : W.2 7 (b * 71 + W.2 12 (b * 400 + p)) = bs (mB W b) (W.2 12 (b * 400 + p)) := rfl
  unfold I12_conjugate
  simp only [wp_ib, wp_ig, wp_ite, wp_ir, wp_igI, wp_ipI, wp_ipZ, wp_inz, wp_idI, wp_irI, wp_iSl, wp_iSc, wp_iSi, iu1_1, iu1_2, iu2_1, iu2_2, wA0, wS0, wA6, wS6, wA7, wS7, wA8, wS8, wA9, wS9, wA10, wS10, wA11, wS11, wA12, wS12, wA13, wS13, wA14, wS14, wA16, wS16, wA17, wS17, wA18, wS18, wA26, wS26, wA27, wS27, wZ28, wY28, wA29, wS29, wA30, wS30, wA31, wS31, wA32, wS32, wA33, wS33, wA34, wS34, wA35, wS35, wA36, wS36, wA38, wS38, wA39, wS39, wA40, wS40, wZ41, wY41, wA45, wS45, wA46, wS46, wZ47, wY47, wZ48, wY48, Nat.reduceEqDiff, reduceIte, false_and, true_and, and_true, and_self, if_false, if_true, and_false]
  rw [e2]
  refine ⟨by omega, by omega, by omega, m_isPlain hb0 hb hI h0 h1 fun v hv => ?_⟩
  rcases hv with ⟨rfl, hv⟩ | ⟨rfl, hv⟩
  · rw [if_neg (by omega)]
    refine ⟨by omega, by omega, by omega, by omega, ?_⟩
    by_cases c1 : bz (mB W b) (W.2 12 (b * 400 + p)) + 1 - W.2 13 (b * 400 + p) = W.2 13 (b * 400 + p)
    · rw [if_pos c1]
      exact hq _ (Or.inr ⟨rfl, fun q => q.2.1 c1⟩)
    · rw [if_neg c1, e3]
      refine ⟨by omega, m_placeOf hb0 hb hI (by omega) (by omega) (by omega) fun q hp => ?_⟩
      rcases hp with ⟨g, hp1, hp2⟩ | ⟨rfl, hp2⟩
      · have hqb := LC_bd hB hp1
        have eg : g = W.2 12 (b * 400 + p) := by
          by_cases q1 : g < W.2 12 (b * 400 + p)
          · have := hB.2.2.2 _ _ hp1.1.1.1 q1 hA.1.1.2; omega
          · by_cases q2 : W.2 12 (b * 400 + p) < g
            · have := hB.2.2.2 _ _ hA.1.1.1 q2 hp1.1.1.2; omega
            · omega
        subst eg
        refine ⟨by omega, ?_⟩
        rw [if_neg (by omega)]
        refine m_isPlain hb0 hb hI hqb.1 hqb.2 fun v hv' => ?_
        obtain ⟨u1, u2, u3⟩ := isAt_u hB (hI.at hqb.1 hqb.2) hp1
        rw [u1, u2, u3] at hv'
        rcases hv' with ⟨rfl, hv'⟩ | ⟨rfl, hv'⟩
        · rw [if_neg (by omega)]
          exact ⟨by omega, hq q (Or.inl ⟨hv, c1, hp1, hv'.2⟩)⟩
        · rw [if_pos rfl]
          exact ⟨by omega, hq _ (Or.inr ⟨rfl, fun r => hv' ⟨rfl, r.2.2⟩⟩)⟩
      · rw [if_pos (by omega)]
        refine ⟨by omega, hq _ (Or.inr ⟨rfl, fun r => ?_⟩)⟩
        have hV : isV (mB W b) (W.2 12 (b * 400 + p)) (bz (mB W b) (W.2 12 (b * 400 + p)) + 1 - W.2 13 (b * 400 + p)) := ⟨hA.1.1, by omega, by omega⟩
        have hm2 := hB.2.2.1 _ _ hV.1.1 hV.1.2 hV.2.1 hV.2.2
        have hc2 : cut (mB W b) (W.2 12 (b * 400 + p)) (bz (mB W b) (W.2 12 (b * 400 + p)) + 1 - W.2 13 (b * 400 + p)) = 0 := by
          unfold cut; rw [r.2.2, if_neg (by omega)]
        exact hp2 _ _ ⟨hV, ⟨by omega, by omega⟩, rfl⟩ rfl
  · rw [if_pos rfl]
    exact ⟨by omega, hq _ (Or.inr ⟨rfl, fun q => hv q.1⟩)⟩
end MB2
