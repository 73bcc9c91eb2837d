/-! ===== the model lays out, looks for places ===== -/
section MBK
variable {W : IS}
def inL (b : Int) (k : Nat) (l : Int) : Prop := (k = 11 ∧ l = b) ∨ ((k = 12 ∨ k = 13 ∨ k = 14) ∧ b * 400 ≤ l ∧ l < b * 400 + 400)
/-- only the leaves of b are written -/
def FrL (b : Int) (W W' : IS) : Prop := W'.1 = W.1 ∧ ∀ k l, ¬ inL b k l → W'.2 k l = W.2 k l
theorem FrL.bk {b : Int} {W W' : IS} (h : FrL b W W') (c : Int) : mB W' c = mB W c := by
  have q : ∀ k, (k = 6 ∨ k = 7 ∨ k = 8 ∨ k = 9 ∨ k = 10) → W'.2 k = W.2 k := fun k hk => by
    funext l
    exact h.2 k l (by unfold inL; omega)
  unfold mB
  rw [q 6 (by decide), q 7 (by decide), q 8 (by decide), q 9 (by decide), q 10 (by decide)]
theorem FrL.trans {b : Int} {W1 W2 W3 : IS} (h : FrL b W1 W2) (h' : FrL b W2 W3) : FrL b W1 W3 := ⟨h'.1.trans h.1, fun k l q => (h'.2 k l q).trans (h.2 k l q)⟩
theorem FrL.refl {b : Int} : FrL b W W := ⟨rfl, fun _ _ _ => rfl⟩
/-- one leaf more -/
theorem mL_add {b n g i k : Int} (hL : mL W b n) (h0 : 0 ≤ n) (hA : isAt (mB W b) n g i k) : mL (iu2 (iu2 (iu2 W 12 (b * 400 + n) g) 13 (b * 400 + n) i) 14 (b * 400 + n) k) b (n + 1) := by
  intro p h1 h2
  show isAt (mB W b) p (if _ then _ else _) (if _ then _ else _) (if _ then _ else _)
  by_cases e : p = n
  · subst e
    simp only [and_true, and_self, if_true, reduceCtorEq, false_and, if_false, Nat.reduceEqDiff, iu2_2]
    exact hA
  · have e1 : ¬ b * 400 + p = b * 400 + n := by omega
    simp only [e1, and_false, if_false, iu2_2]
    exact hL p h1 (by omega)
theorem FrL.add {b n g i k : Int} (h0 : 0 ≤ n) (h1 : n < 400) : FrL b W (iu2 (iu2 (iu2 W 12 (b * 400 + n) g) 13 (b * 400 + n) i) 14 (b * 400 + n) k) := by
  refine ⟨rfl, fun q l hq => ?_⟩
  unfold inL at hq
  simp only [iu2_2]
  rw [if_neg (by omega), if_neg (by omega), if_neg (by omega)]
/-- the innermost loop: the ones of one i -/
theorem m_layOut_60 {b : Int} {Q : Unit → IS → Prop} {k4 : Int → Int → Int → IM Unit} {k17 : Int → Int → Int → Int → IM Unit} {W0 : IS} (hb0 : 0 ≤ b) (hb : b < 8) (hB : BOK (mB W0 b)) (hT : LC (mB W0 b) ≤ 400) {g i : Int} (hV : isV (mB W0 b) g i)
    (hk : ∀ W' n, FrL b W0 W' → mL W' b n → n = ah (mB W0 b) g (i + 1) → wp (k17 b n g (i + 1)) Q W') :
    ∀ (d m : Nat) (W : IS) (n k : Int), d < m → k + d = bm (mB W0 b) g i + 1 → cut (mB W0 b) g i ≤ k → n = ah (mB W0 b) g i + k - cut (mB W0 b) g i → FrL b W0 W → mL W b n → wp (I12_layOut_60 k4 k17 m b n g i ((b * 71 + g) * 13 + i) k) Q W := by
  have hz := hB.2.2.1 g i hV.1.1 hV.1.2 hV.2.1 hV.2.2
  have hc := cut01 (B := mB W0 b) g i
  have hg := hV.1
  have hi := hV.2
  have hzz := (hB.2.1 g hV.1.1 hV.1.2).2
  have hn71 := hB.1
  intro d
  induction d with
  | zero =>
    intro m W n k hm hd hk0 hn hF hL
    cases m with
    | zero => omega
    | succ m =>
      unfold I12_layOut_60 I12_layOut_60_st I12_layOut_122
      have e : W.2 10 ((b * 71 + g) * 13 + i) = bm (mB W0 b) g i := by rw [← hF.bk b]; rfl
      simp only [wp_ib, wp_ig, wp_ite, wp_ir, wp_igI, wp_ipI, wp_ipZ, wp_inz, wp_idI, wp_irI, wp_iSl, wp_iSc, wp_iSi, iu1_1, iu1_2, iu2_1, iu2_2, wA0, wS0, wA6, wS6, wA7, wS7, wA8, wS8, wA9, wS9, wA10, wS10, wA11, wS11, wA12, wS12, wA13, wS13, wA14, wS14, wA16, wS16, wA17, wS17, wA18, wS18, wA26, wS26, wA27, wS27, wZ28, wY28, wA29, wS29, wA30, wS30, wA31, wS31, wA32, wS32, wA33, wS33, wA34, wS34, wA35, wS35, wA36, wS36, wA38, wS38, wA39, wS39, wA40, wS40, wZ41, wY41, wA45, wS45, wA46, wS46, wZ47, wY47, wZ48, wY48, Nat.reduceEqDiff, reduceIte, false_and, true_and, and_true, and_self, if_false, if_true, and_false]
      rw [e, if_pos (by omega)]
      refine ⟨by omega, by omega, by omega, hk W n hF hL ?_⟩
      rw [ah_sn hV.2.1]
      unfold cnt
      omega
  | succ d ih =>
    intro m W n k hm hd hk0 hn hF hL
    cases m with
    | zero => omega
    | succ m =>
      have hA : isAt (mB W0 b) n g i k := ⟨hV, ⟨hk0, by omega⟩, hn⟩
      have hl := LC_bd hB hA
      unfold I12_layOut_60 I12_layOut_60_st
      have e : W.2 10 ((b * 71 + g) * 13 + i) = bm (mB W0 b) g i := by rw [← hF.bk b]; rfl
      simp only [wp_ib, wp_ig, wp_ite, wp_ir, wp_igI, wp_ipI, wp_ipZ, wp_inz, wp_idI, wp_irI, wp_iSl, wp_iSc, wp_iSi, iu1_1, iu1_2, iu2_1, iu2_2, wA0, wS0, wA6, wS6, wA7, wS7, wA8, wS8, wA9, wS9, wA10, wS10, wA11, wS11, wA12, wS12, wA13, wS13, wA14, wS14, wA16, wS16, wA17, wS17, wA18, wS18, wA26, wS26, wA27, wS27, wZ28, wY28, wA29, wS29, wA30, wS30, wA31, wS31, wA32, wS32, wA33, wS33, wA34, wS34, wA35, wS35, wA36, wS36, wA38, wS38, wA39, wS39, wA40, wS40, wZ41, wY41, wA45, wS45, wA46, wS46, wZ47, wY47, wZ48, wY48, Nat.reduceEqDiff, reduceIte, false_and, true_and, and_true, and_self, if_false, if_true, and_false]
      rw [e, if_neg (by omega)]
      refine ⟨by omega, by omega, by omega, by omega, by omega, by omega, ?_⟩
      exact ih m _ (n + 1) (k + 1) (by omega) (by omega) (by omega) (by omega) (hF.trans (FrL.add hl.1 (by omega))) (mL_add hL hl.1 (by rw [hF.bk b]; exact hA))
theorem m_layOut_17 {b : Int} {Q : Unit → IS → Prop} {k4 : Int → Int → Int → IM Unit} {W0 : IS} (hb0 : 0 ≤ b) (hb : b < 8) (hB : BOK (mB W0 b)) (hT : LC (mB W0 b) ≤ 400) {g : Int} (hg : 0 ≤ g ∧ g < bn (mB W0 b))
    (hk : ∀ W' n, FrL b W0 W' → mL W' b n → n = gsu (mB W0 b) (g + 1) → wp (k4 b n (g + 1)) Q W') :
    ∀ (d m : Nat) (W : IS) (n i : Int), d < m → i + d = bz (mB W0 b) g + 1 → 1 ≤ i → n = ah (mB W0 b) g i → FrL b W0 W → mL W b n → wp (I12_layOut_17 k4 m b n g i) Q W := by
  have hzz := (hB.2.1 g hg.1 hg.2).2
  have hn71 := hB.1
  intro d
  induction d with
  | zero =>
    intro m W n i hm hd hi hn hF hL
    cases m with
    | zero => omega
    | succ m =>
      unfold I12_layOut_17 I12_layOut_17_st I12_layOut_128
      have e : W.2 8 (b * 71 + g) = bz (mB W0 b) g := by rw [← hF.bk b]; rfl
      simp only [wp_ib, wp_ig, wp_ite, wp_ir, wp_igI, wp_ipI, wp_ipZ, wp_inz, wp_idI, wp_irI, wp_iSl, wp_iSc, wp_iSi, iu1_1, iu1_2, iu2_1, iu2_2, wA0, wS0, wA6, wS6, wA7, wS7, wA8, wS8, wA9, wS9, wA10, wS10, wA11, wS11, wA12, wS12, wA13, wS13, wA14, wS14, wA16, wS16, wA17, wS17, wA18, wS18, wA26, wS26, wA27, wS27, wZ28, wY28, wA29, wS29, wA30, wS30, wA31, wS31, wA32, wS32, wA33, wS33, wA34, wS34, wA35, wS35, wA36, wS36, wA38, wS38, wA39, wS39, wA40, wS40, wZ41, wY41, wA45, wS45, wA46, wS46, wZ47, wY47, wZ48, wY48, Nat.reduceEqDiff, reduceIte, false_and, true_and, and_true, and_self, if_false, if_true, and_false]
      rw [e, if_pos (by omega)]
      refine ⟨by omega, by omega, by omega, hk W n hF hL ?_⟩
      rw [hn, ← ah_end hzz.1 hg.1, show i = bz (mB W0 b) g + 1 by omega]
  | succ d ih =>
    intro m W n i hm hd hi hn hF hL
    cases m with
    | zero => omega
    | succ m =>
      have hV : isV (mB W0 b) g i := ⟨hg, hi, by omega⟩
      have hz := hB.2.2.1 g i hV.1.1 hV.1.2 hV.2.1 hV.2.2
      have hc := cut01 (B := mB W0 b) g i
      unfold I12_layOut_17 I12_layOut_17_st I12_layOut_58
      have e : W.2 8 (b * 71 + g) = bz (mB W0 b) g := by rw [← hF.bk b]; rfl
      have e2 : W.2 9 ((b * 71 + g) * 13 + i) = bf (mB W0 b) g i := by rw [← hF.bk b]; rfl
      simp only [wp_ib, wp_ig, wp_ite, wp_ir, wp_igI, wp_ipI, wp_ipZ, wp_inz, wp_idI, wp_irI, wp_iSl, wp_iSc, wp_iSi, iu1_1, iu1_2, iu2_1, iu2_2, wA0, wS0, wA6, wS6, wA7, wS7, wA8, wS8, wA9, wS9, wA10, wS10, wA11, wS11, wA12, wS12, wA13, wS13, wA14, wS14, wA16, wS16, wA17, wS17, wA18, wS18, wA26, wS26, wA27, wS27, wZ28, wY28, wA29, wS29, wA30, wS30, wA31, wS31, wA32, wS32, wA33, wS33, wA34, wS34, wA35, wS35, wA36, wS36, wA38, wS38, wA39, wS39, wA40, wS40, wZ41, wY41, wA45, wS45, wA46, wS46, wZ47, wY47, wZ48, wY48, Nat.reduceEqDiff, reduceIte, false_and, true_and, and_true, and_self, if_false, if_true, and_false]
      rw [e, if_neg (by omega), wp_ret m_spot, e2]
      have next : ∀ c, c = cut (mB W0 b) g i → wp (I12_layOut_60 k4 (I12_layOut_17 k4 m) LFU b n g i ((b * 71 + g) * 13 + i) c) Q W := fun c hcc => by
        refine m_layOut_60 hb0 hb hB hT hV (fun W' n' hF' hL' hn' => ih m W' n' (i + 1) (by omega) (by omega) (by omega) hn' hF' hL') (bm (mB W0 b) g i + 1 - c).toNat LFU W n c ?_ ?_ ?_ ?_ hF hL
        · unfold LFU; omega
        · omega
        · omega
        · omega
      refine ⟨by omega, by omega, by omega, by omega, by omega, ?_⟩
      by_cases h1 : bf (mB W0 b) g i = 1
      · rw [if_pos h1]
        exact next 1 (by unfold cut; rw [if_pos h1])
      · rw [if_neg h1]
        exact next 0 (by unfold cut; rw [if_neg h1])
theorem m_layOut_4 {b : Int} {W0 : IS} (hb0 : 0 ≤ b) (hb : b < 8) (hB : BOK (mB W0 b)) (hT : LC (mB W0 b) ≤ 400) {Q : Unit → IS → Prop}
    (hk : ∀ W', FrL b W0 W' → mL W' b (LC (mB W0 b)) → W'.2 11 b = LC (mB W0 b) → Q () W') :
    ∀ (d m : Nat) (W : IS) (n g : Int), d < m → g + d = bn (mB W0 b) → 0 ≤ g → n = gsu (mB W0 b) g → FrL b W0 W → mL W b n → wp (I12_layOut_4 m b n g) Q W := by
  have hn71 := hB.1
  intro d
  induction d with
  | zero =>
    intro m W n g hm hd hg hn hF hL
    cases m with
    | zero => omega
    | succ m =>
      unfold I12_layOut_4 I12_layOut_4_st
      have e : W.2 6 b = bn (mB W0 b) := by rw [← hF.bk b]; rfl
      simp only [wp_ib, wp_ig, wp_ite, wp_ir, wp_igI, wp_ipI, wp_ipZ, wp_inz, wp_idI, wp_irI, wp_iSl, wp_iSc, wp_iSi, iu1_1, iu1_2, iu2_1, iu2_2, wA0, wS0, wA6, wS6, wA7, wS7, wA8, wS8, wA9, wS9, wA10, wS10, wA11, wS11, wA12, wS12, wA13, wS13, wA14, wS14, wA16, wS16, wA17, wS17, wA18, wS18, wA26, wS26, wA27, wS27, wZ28, wY28, wA29, wS29, wA30, wS30, wA31, wS31, wA32, wS32, wA33, wS33, wA34, wS34, wA35, wS35, wA36, wS36, wA38, wS38, wA39, wS39, wA40, wS40, wZ41, wY41, wA45, wS45, wA46, wS46, wZ47, wY47, wZ48, wY48, Nat.reduceEqDiff, reduceIte, false_and, true_and, and_true, and_self, if_false, if_true, and_false]
      rw [e, if_pos (by omega)]
      have en : n = LC (mB W0 b) := by rw [hn]; unfold LC; rw [show g = bn (mB W0 b) by omega]
      have hF2 : FrL b W (iu2 W 11 b n) := ⟨rfl, fun k l hq => by
        rw [iu2_2, if_neg]
        rintro ⟨rfl, rfl⟩
        exact hq (Or.inl ⟨rfl, rfl⟩)⟩
      refine ⟨by omega, by omega, by omega, by omega, hk _ (hF.trans hF2) ?_ ?_⟩
      · rw [← en]
        intro p h1 h2
        rw [hF2.bk b]
        exact hL p h1 h2
      · rw [iu2_2, if_pos ⟨rfl, rfl⟩, en]
  | succ d ih =>
    intro m W n g hm hd hg hn hF hL
    cases m with
    | zero => omega
    | succ m =>
      unfold I12_layOut_4 I12_layOut_4_st
      have e : W.2 6 b = bn (mB W0 b) := by rw [← hF.bk b]; rfl
      have hzz := (hB.2.1 g hg (by omega)).2
      simp only [wp_ib, wp_ig, wp_ite, wp_ir, wp_igI, wp_ipI, wp_ipZ, wp_inz, wp_idI, wp_irI, wp_iSl, wp_iSc, wp_iSi, iu1_1, iu1_2, iu2_1, iu2_2, wA0, wS0, wA6, wS6, wA7, wS7, wA8, wS8, wA9, wS9, wA10, wS10, wA11, wS11, wA12, wS12, wA13, wS13, wA14, wS14, wA16, wS16, wA17, wS17, wA18, wS18, wA26, wS26, wA27, wS27, wZ28, wY28, wA29, wS29, wA30, wS30, wA31, wS31, wA32, wS32, wA33, wS33, wA34, wS34, wA35, wS35, wA36, wS36, wA38, wS38, wA39, wS39, wA40, wS40, wZ41, wY41, wA45, wS45, wA46, wS46, wZ47, wY47, wZ48, wY48, Nat.reduceEqDiff, reduceIte, false_and, true_and, and_true, and_self, if_false, if_true, and_false]
      rw [e, if_neg (by omega)]
      refine ⟨by omega, by omega, by omega, ?_⟩
      refine m_layOut_17 hb0 hb hB hT ⟨hg, by omega⟩ (fun W' n' hF' hL' hn' => ih m W' n' (g + 1) (by omega) (by omega) (by omega) hn' hF' hL') (bz (mB W0 b) g).toNat LFU W n 1 ?_ ?_ ?_ ?_ hF hL
      · unfold LFU; omega
      · omega
      · omega
      · rw [hn, ah_1]
theorem m_layOut {b : Int} (hb0 : 0 ≤ b) (hb : b < 8) (hB : BOK (mB W b)) (hT : LC (mB W b) ≤ 400) {Q : Unit → IS → Prop} (hk : ∀ W', FrL b W W' → mL W' b (LC (mB W b)) → W'.2 11 b = LC (mB W b) → Q () W') : wp (I12_layOut b) Q W := by
  unfold I12_layOut
  have hn71 := hB.1
  refine m_layOut_4 hb0 hb hB hT hk (bn (mB W b)).toNat LFU W 0 0 ?_ ?_ ?_ ?_ FrL.refl ?_
  · unfold LFU; omega
  · omega
  · omega
  · rfl
  · intro p h1 h2; omega
end MBK
