/-! ===== the readers' steps ===== -/
/-- the model stands at the j-th piece, good or not -/
def Mst (W : IS) (T : Int → Int) (n : Int) (g : Int) (j : Nat) : Prop := W.2 0 = T ∧ W.1 1 = n ∧ W.1 23 = g ∧ LxP W (tkP T n j)
def FrY (W W' : IS) : Prop := W'.2 = W.2 ∧ ∀ k, k < 19 ∨ 23 < k → W'.1 k = W.1 k
/-- the class stands there -/
def tv (T : Int → Int) (n : Int) (j : Nat) : Prop := ∀ i : Nat, i < j → tkP T n i < n
def TkA (J : JS) (T : Int → Int) (n : Int) : Prop := ∃ N, tv T n N ∧ tkP T n N = n ∧ TkR J T n (N + 1)
def Cst (J : JS) (T : Int → Int) (n : Int) (j : Nat) : Prop := TkA J T n ∧ js J 3 0 = j ∧ tv T n j
def FrQ (J J' : JS) : Prop := (∀ t i, ¬ (t = 3 ∨ t = 4 ∨ t = 5 ∨ (t = 1 ∧ 3 ≤ i ∧ i ≤ 11)) → js J' t i = js J t i) ∧ (∀ t i, ¬ (t = 1 ∧ 3 ≤ i ∧ i ≤ 11) → ja J' t i = ja J t i) ∧ J'.2.2 = J.2.2
theorem wp_comm {σ τ α β : Type} {x : σ → Option (α × σ)} {y : τ → Option (β × τ)} {s : σ} {t : τ} {F : α → σ → β → τ → Prop} (h : wp y (fun b t' => wp x (fun a s' => F a s' b t') s) t) : wp x (fun a s' => wp y (fun b t' => F a s' b t') t) s := by
  obtain ⟨b, t', e1, h1⟩ := wp_ex h
  obtain ⟨a, s', e2, h2⟩ := wp_ex h1
  rw [wp_ret e2, wp_ret e1]
  exact h2
section PRS
variable {T : Int → Int} {n : Int} {W : IS} {J : JS} {j : Nat}
theorem FrY.trans {W1 W2 W3 : IS} (h : FrY W1 W2) (h' : FrY W2 W3) : FrY W1 W3 := ⟨h'.1.trans h.1, fun k q => (h'.2 k q).trans (h.2 k q)⟩
theorem FrY.refl : FrY W W := ⟨rfl, fun _ _ => rfl⟩
theorem FrY.u {x : Int} : FrY W (iu1 W 23 x) := ⟨rfl, fun k hk => if_neg (by omega)⟩
theorem FrX.y {W' : IS} (h : FrX W W') : FrY W W' := ⟨h.1, fun k hk => h.2 k (by omega)⟩
theorem FrQ.trans {J1 J2 J3 : JS} (h : FrQ J1 J2) (h' : FrQ J2 J3) : FrQ J1 J3 := ⟨fun t i q => (h'.1 t i q).trans (h.1 t i q), fun t i q => (h'.2.1 t i q).trans (h.2.1 t i q), h'.2.2.trans h.2.2⟩
theorem FrQ.refl : FrQ J J := ⟨fun _ _ _ => rfl, fun _ _ _ => rfl, rfl⟩
theorem FrQ.u {t : Nat} {x : Int} (h : t = 3 ∨ t = 4 ∨ t = 5) : FrQ J (ju1 J t 0 x) := ⟨fun t' i q => by rw [ju1_s, if_neg (by omega)], fun _ _ _ => rfl, rfl⟩
theorem FrQ.add {id : Nat} {x : Int} (h : 3 ≤ id ∧ id ≤ 11) : FrQ J (addR J id x) := ⟨fun t i q => by rw [addR_s, if_neg (by omega)], fun t i q => by funext l; rw [addR_a, if_neg (by omega)], rfl⟩
theorem Mst.fr {W' : IS} {g : Int} (h : Mst W T n g j) (h0 : W'.2 0 = W.2 0) (h1 : ∀ k, k = 1 ∨ (19 ≤ k ∧ k ≤ 23) → W'.1 k = W.1 k) : Mst W' T n g j := by
  obtain ⟨a, b, c, d⟩ := h
  exact ⟨h0.trans a, (h1 1 (by omega)).trans b, (h1 23 (by omega)).trans c, d.fr h0 (h1 1 (by omega)) fun k q1 q2 => h1 k (by omega)⟩
theorem tkR {k : Int} (h0 : 0 ≤ k) (h1 : k ≤ 61) : R32 (tkM k) := by
  unfold tkM
  split
  · decide
  · split
    · decide
    · split
      · decide
      · split <;> decide
/-- the model's next(), told of pieces -/
theorem m_nx (hT : byt T n) (h : Mst W T n 1 j) {Q : Unit → IS → Prop} (hk : ∀ W', FrX W W' → Mst W' T n 1 (j + 1) → Q () W') : wp I12_next Q W := by
  obtain ⟨h0, h1, h2, h3⟩ := h
  have hb := tkP_bd (T := T) (n := n) hT.1.1 j
  have he := enP_bd (T := T) (n := n) (p := tkP T n j) hb.2
  have e19 : W.1 19 = enP T n (tkP T n j) := by rw [h3.2.1, h0, h1]
  refine m_next (by rw [h0, h1]; exact hT) (by rw [e19]; omega) (by rw [e19, h1]; exact he.2) fun W' hF hL => hk W' hF ⟨by rw [hF.1]; exact h0, by rw [hF.2 1 (by omega)]; exact h1, by rw [hF.2 23 (by omega)]; exact h2, ?_⟩
  rw [h0, h1, e19] at hL
  exact hL
theorem LxP.kd {p : Int} (h : LxP W p) (h0 : W.2 0 = T) (h1 : W.1 1 = n) : W.1 21 = tkM (kdP T n p) ∧ (kdP T n p = 1 ∨ kdP T n p = 2 → W.1 22 = vlP T n p) ∧ (4 ≤ kdP T n p → W.1 22 = kdP T n p) := by
  rw [← h0, ← h1]
  exact h.2.2
theorem m_take {k m : Int} (hT : byt T n) (hm : (k = 1 ∧ m = 2) ∨ (k = 2 ∧ m = 3)) (h : Mst W T n 1 j) {Q : Int → IS → Prop} (hs : kdP T n (tkP T n j) = k → ∀ W', FrY W W' → Mst W' T n 1 (j + 1) → Q (vlP T n (tkP T n j)) W') (hf : kdP T n (tkP T n j) ≠ k → ∀ W', FrY W W' → Mst W' T n 0 j → Q 0 W') : wp (I12_take m) Q W := by
  obtain ⟨h0, h1, h2, h3⟩ := h
  have hb := tkP_bd (T := T) (n := n) hT.1.1 j
  have hk := kdP_bd hT hb.1
  have hl := h3.kd h0 h1
  unfold I12_take I12_take_20 I12_take_21
  simp only [wp_ib, wp_ig, wp_ite, wp_ir, wp_igI, wp_ipI, wp_ipZ, wp_inz, wp_idI, wp_irI, wp_iSl, wp_iSc, wp_iSi, iu1_1, iu1_2, iu2_1, iu2_2, wA0, wS0, wA6, wS6, wA7, wS7, wA8, wS8, wA9, wS9, wA10, wS10, wA11, wS11, wA12, wS12, wA13, wS13, wA14, wS14, wA16, wS16, wA17, wS17, wA18, wS18, wA26, wS26, wA27, wS27, wZ28, wY28, wA29, wS29, wA30, wS30, wA31, wS31, wA32, wS32, wA33, wS33, wA34, wS34, wA35, wS35, wA36, wS36, wA38, wS38, wA39, wS39, wA40, wS40, wZ41, wY41, wA45, wS45, wA46, wS46, wZ47, wY47, wZ48, wY48, Nat.reduceEqDiff, reduceIte, false_and, true_and, and_true, and_self, if_false, if_true, and_false]
  rw [h2, if_neg (by decide), hl.1]
  have hR := tkR hk.1 hk.2
  refine ⟨by decide, hR, by omega, ?_⟩
  by_cases c : kdP T n (tkP T n j) = k
  · have e : tkM (kdP T n (tkP T n j)) = m := by
      rw [c]
      rcases hm with ⟨e1, e2⟩ | ⟨e1, e2⟩ <;> subst e1 <;> subst e2 <;> rfl
    rw [if_pos e, if_neg (by decide), hl.2.1 (by omega)]
    refine ⟨by decide, by decide, ?_⟩
    have hM : Mst (iu1 W 23 1) T n 1 j := ⟨h0, h1, rfl, h3.fr rfl rfl fun k q1 q2 => if_neg (by omega)⟩
    exact m_nx hT hM fun W' hF hM' => hs c W' (FrY.u.trans hF.y) hM'
  · have e : ¬ tkM (kdP T n (tkP T n j)) = m := by
      unfold tkM
      intro q
      split at q
      · omega
      · split at q
        · omega
        · split at q
          · omega
          · split at q <;> omega
    rw [if_neg e]
    refine ⟨by decide, by decide, ?_⟩
    exact hf c _ FrY.u ⟨h0, h1, rfl, h3.fr rfl rfl fun k q1 q2 => if_neg (by omega)⟩
theorem m_take0 {m : Int} (h : Mst W T n 0 j) {Q : Int → IS → Prop} (hf : ∀ W', FrY W W' → Mst W' T n 0 j → Q 0 W') : wp (I12_take m) Q W := by
  obtain ⟨h0, h1, h2, h3⟩ := h
  unfold I12_take I12_take_20 I12_take_21
  simp only [wp_ib, wp_ig, wp_ite, wp_ir, wp_igI, wp_ipI, wp_ipZ, wp_inz, wp_idI, wp_irI, wp_iSl, wp_iSc, wp_iSi, iu1_1, iu1_2, iu2_1, iu2_2, wA0, wS0, wA6, wS6, wA7, wS7, wA8, wS8, wA9, wS9, wA10, wS10, wA11, wS11, wA12, wS12, wA13, wS13, wA14, wS14, wA16, wS16, wA17, wS17, wA18, wS18, wA26, wS26, wA27, wS27, wZ28, wY28, wA29, wS29, wA30, wS30, wA31, wS31, wA32, wS32, wA33, wS33, wA34, wS34, wA35, wS35, wA36, wS36, wA38, wS38, wA39, wS39, wA40, wS40, wZ41, wY41, wA45, wS45, wA46, wS46, wZ47, wY47, wZ48, wY48, Nat.reduceEqDiff, reduceIte, false_and, true_and, and_true, and_self, if_false, if_true, and_false]
  rw [h2, if_pos rfl]
  refine ⟨by decide, by decide, by decide, ?_⟩
  exact hf _ FrY.u ⟨h0, h1, rfl, h3.fr rfl rfl fun k q1 q2 => if_neg (by omega)⟩
theorem m_isMark {c : Int} (hT : byt T n) (hc : 40 ≤ c ∧ c ≤ 61) {g : Int} (h : Mst W T n g j) : I12_isMark c W = some (if kdP T n (tkP T n j) = c then 1 else 0, W) := by
  obtain ⟨h0, h1, h2, h3⟩ := h
  have hb := tkP_bd (T := T) (n := n) hT.1.1 j
  have hk := kdP_bd hT hb.1
  have hl := h3.kd h0 h1
  have hR := tkR hk.1 hk.2
  refine wp_eq ?_
  unfold I12_isMark
  simp only [wp_ib, wp_ig, wp_ite, wp_ir, wp_igI, wp_ipI, wp_ipZ, wp_inz, wp_idI, wp_irI, wp_iSl, wp_iSc, wp_iSi, iu1_1, iu1_2, iu2_1, iu2_2, wA0, wS0, wA6, wS6, wA7, wS7, wA8, wS8, wA9, wS9, wA10, wS10, wA11, wS11, wA12, wS12, wA13, wS13, wA14, wS14, wA16, wS16, wA17, wS17, wA18, wS18, wA26, wS26, wA27, wS27, wZ28, wY28, wA29, wS29, wA30, wS30, wA31, wS31, wA32, wS32, wA33, wS33, wA34, wS34, wA35, wS35, wA36, wS36, wA38, wS38, wA39, wS39, wA40, wS40, wZ41, wY41, wA45, wS45, wA46, wS46, wZ47, wY47, wZ48, wY48, Nat.reduceEqDiff, reduceIte, false_and, true_and, and_true, and_self, if_false, if_true, and_false]
  rw [hl.1]
  refine ⟨hR, ?_⟩
  by_cases c4 : 4 ≤ kdP T n (tkP T n j)
  · have e : tkM (kdP T n (tkP T n j)) = 4 := by
      unfold tkM
      rw [if_neg (by omega), if_neg (by omega), if_neg (by omega), if_neg (by omega)]
    rw [if_pos e, hl.2.2 c4]
    refine ⟨by omega, by omega, ?_⟩
    by_cases c5 : kdP T n (tkP T n j) = c
    · rw [if_pos c5, if_pos c5]; (first | done | exact ⟨rfl, rfl⟩ | exact ⟨trivial, rfl⟩ | exact ⟨rfl, trivial⟩ | rfl | trivial)
    · rw [if_neg c5, if_neg c5]; (first | done | exact ⟨rfl, rfl⟩ | exact ⟨trivial, rfl⟩ | exact ⟨rfl, trivial⟩ | rfl | trivial)
  · have e : ¬ tkM (kdP T n (tkP T n j)) = 4 := by
      have : kdP T n (tkP T n j) = 0 ∨ kdP T n (tkP T n j) = 1 ∨ kdP T n (tkP T n j) = 2 ∨ kdP T n (tkP T n j) = 3 := by omega
      rcases this with q | q | q | q <;> rw [q] <;> decide
    rw [if_neg e, if_neg (by omega)]; (first | done | exact ⟨rfl, rfl⟩ | exact ⟨trivial, rfl⟩ | exact ⟨rfl, trivial⟩ | rfl | trivial)
theorem m_goes {c : Int} (hT : byt T n) (hc : 40 ≤ c ∧ c ≤ 61) (h : Mst W T n 1 j) {Q : Int → IS → Prop} (hs : kdP T n (tkP T n j) = c → ∀ W', FrY W W' → Mst W' T n 1 (j + 1) → Q 1 W') (hf : kdP T n (tkP T n j) ≠ c → Q 0 W) : wp (I12_goes c) Q W := by
  unfold I12_goes I12_goes_19 I12_goes_20
  simp only [wp_ib, wp_ig, wp_ite, wp_ir, wp_igI, wp_ipI, wp_ipZ, wp_inz, wp_idI, wp_irI, wp_iSl, wp_iSc, wp_iSi, iu1_1, iu1_2, iu2_1, iu2_2, wA0, wS0, wA6, wS6, wA7, wS7, wA8, wS8, wA9, wS9, wA10, wS10, wA11, wS11, wA12, wS12, wA13, wS13, wA14, wS14, wA16, wS16, wA17, wS17, wA18, wS18, wA26, wS26, wA27, wS27, wZ28, wY28, wA29, wS29, wA30, wS30, wA31, wS31, wA32, wS32, wA33, wS33, wA34, wS34, wA35, wS35, wA36, wS36, wA38, wS38, wA39, wS39, wA40, wS40, wZ41, wY41, wA45, wS45, wA46, wS46, wZ47, wY47, wZ48, wY48, Nat.reduceEqDiff, reduceIte, false_and, true_and, and_true, and_self, if_false, if_true, and_false]
  rw [h.2.2.1, if_neg (by decide), wp_ret (m_isMark hT hc h)]
  refine ⟨by decide, ifR, ?_⟩
  by_cases c5 : kdP T n (tkP T n j) = c
  · rw [if_pos c5, if_neg (by decide), if_neg (by decide)]
    exact ⟨by decide, m_nx hT h fun W' hF hM => ⟨by decide, hs c5 W' hF.y hM⟩⟩
  · rw [if_neg c5, if_pos rfl]
    exact ⟨by decide, by simp, hf c5⟩
theorem m_goes0 {c : Int} (h : Mst W T n 0 j) {Q : Int → IS → Prop} (hf : Q 0 W) : wp (I12_goes c) Q W := by
  unfold I12_goes I12_goes_19 I12_goes_20
  simp only [wp_ib, wp_ig, wp_ite, wp_ir, wp_igI, wp_ipI, wp_ipZ, wp_inz, wp_idI, wp_irI, wp_iSl, wp_iSc, wp_iSi, iu1_1, iu1_2, iu2_1, iu2_2, wA0, wS0, wA6, wS6, wA7, wS7, wA8, wS8, wA9, wS9, wA10, wS10, wA11, wS11, wA12, wS12, wA13, wS13, wA14, wS14, wA16, wS16, wA17, wS17, wA18, wS18, wA26, wS26, wA27, wS27, wZ28, wY28, wA29, wS29, wA30, wS30, wA31, wS31, wA32, wS32, wA33, wS33, wA34, wS34, wA35, wS35, wA36, wS36, wA38, wS38, wA39, wS39, wA40, wS40, wZ41, wY41, wA45, wS45, wA46, wS46, wZ47, wY47, wZ48, wY48, Nat.reduceEqDiff, reduceIte, false_and, true_and, and_true, and_self, if_false, if_true, and_false]
  rw [h.2.2.1, if_pos rfl]
  exact ⟨by decide, by decide, by simp, hf⟩
theorem m_must {c : Int} (hT : byt T n) (hc : 40 ≤ c ∧ c ≤ 61) (h : Mst W T n 1 j) {Q : Unit → IS → Prop} (hs : kdP T n (tkP T n j) = c → ∀ W', FrY W W' → Mst W' T n 1 (j + 1) → Q () W') (hf : kdP T n (tkP T n j) ≠ c → ∀ W', FrY W W' → Mst W' T n 0 j → Q () W') : wp (I12_must c) Q W := by
  unfold I12_must I12_must_20 I12_must_21
  simp only [wp_ib, wp_ig, wp_ite, wp_ir, wp_igI, wp_ipI, wp_ipZ, wp_inz, wp_idI, wp_irI, wp_iSl, wp_iSc, wp_iSi, iu1_1, iu1_2, iu2_1, iu2_2, wA0, wS0, wA6, wS6, wA7, wS7, wA8, wS8, wA9, wS9, wA10, wS10, wA11, wS11, wA12, wS12, wA13, wS13, wA14, wS14, wA16, wS16, wA17, wS17, wA18, wS18, wA26, wS26, wA27, wS27, wZ28, wY28, wA29, wS29, wA30, wS30, wA31, wS31, wA32, wS32, wA33, wS33, wA34, wS34, wA35, wS35, wA36, wS36, wA38, wS38, wA39, wS39, wA40, wS40, wZ41, wY41, wA45, wS45, wA46, wS46, wZ47, wY47, wZ48, wY48, Nat.reduceEqDiff, reduceIte, false_and, true_and, and_true, and_self, if_false, if_true, and_false]
  rw [h.2.2.1, if_neg (by decide), wp_ret (m_isMark hT hc h)]
  refine ⟨by decide, ifR, ?_⟩
  obtain ⟨h0, h1, h2, h3⟩ := h
  by_cases c5 : kdP T n (tkP T n j) = c
  · rw [if_pos c5, if_neg (by decide), if_neg (by decide)]
    have hM : Mst (iu1 W 23 1) T n 1 j := ⟨h0, h1, rfl, h3.fr rfl rfl fun k q1 q2 => if_neg (by omega)⟩
    exact ⟨by decide, by decide, m_nx hT hM fun W' hF hM => hs c5 W' (FrY.u.trans hF.y) hM⟩
  · rw [if_neg c5, if_pos rfl]
    refine ⟨by decide, by decide, ?_⟩
    exact hf c5 _ FrY.u ⟨h0, h1, rfl, h3.fr rfl rfl fun k q1 q2 => if_neg (by omega)⟩
theorem m_must0 {c : Int} (h : Mst W T n 0 j) {Q : Unit → IS → Prop} (hf : ∀ W', FrY W W' → Mst W' T n 0 j → Q () W') : wp (I12_must c) Q W := by
  obtain ⟨h0, h1, h2, h3⟩ := h
  unfold I12_must I12_must_20 I12_must_21
  simp only [wp_ib, wp_ig, wp_ite, wp_ir, wp_igI, wp_ipI, wp_ipZ, wp_inz, wp_idI, wp_irI, wp_iSl, wp_iSc, wp_iSi, iu1_1, iu1_2, iu2_1, iu2_2, wA0, wS0, wA6, wS6, wA7, wS7, wA8, wS8, wA9, wS9, wA10, wS10, wA11, wS11, wA12, wS12, wA13, wS13, wA14, wS14, wA16, wS16, wA17, wS17, wA18, wS18, wA26, wS26, wA27, wS27, wZ28, wY28, wA29, wS29, wA30, wS30, wA31, wS31, wA32, wS32, wA33, wS33, wA34, wS34, wA35, wS35, wA36, wS36, wA38, wS38, wA39, wS39, wA40, wS40, wZ41, wY41, wA45, wS45, wA46, wS46, wZ47, wY47, wZ48, wY48, Nat.reduceEqDiff, reduceIte, false_and, true_and, and_true, and_self, if_false, if_true, and_false]
  rw [h2, if_pos rfl]
  refine ⟨by decide, by decide, by decide, ?_⟩
  exact hf _ FrY.u ⟨h0, h1, rfl, h3.fr rfl rfl fun k q1 q2 => if_neg (by omega)⟩
/-! the class's -/
theorem TkA.fr {J' : JS} (h : TkA J T n) (hF : FrQ J J') : TkA J' T n := by
  obtain ⟨N, h1, h2, ⟨h3, h4⟩⟩ := h
  refine ⟨N, h1, h2, ?_⟩
  unfold TkR
  rw [hF.1 1 0 (by omega), hF.1 1 1 (by omega), hF.1 1 2 (by omega), hF.2.1 1 0 (by omega), hF.2.1 1 1 (by omega), hF.2.1 1 2 (by omega)]
  exact ⟨h3, h4⟩
theorem tv_j (hT : byt T n) : ∀ j, tv T n j → (j : Int) ≤ tkP T n j
  | 0, _ => by have := tkP_bd (T := T) (n := n) hT.1.1 0; omega
  | j + 1, h => tkP_lt hT.1.1 (tv_j hT j fun i hi => h i (by omega)) (h j (by omega))
theorem Cst.le (hT : byt T n) (h : Cst J T n j) : (j : Int) ≤ 120 ∧ ∃ N : Nat, j ≤ N ∧ TkR J T n (N + 1) ∧ (N : Int) ≤ 120 := by
  obtain ⟨⟨N, h1, h2, h3⟩, h4, h5⟩ := h
  have a1 := tv_j hT j h5
  have a2 := tv_j hT N h1
  have a3 := tkP_bd (T := T) (n := n) hT.1.1 j
  have hn := hT.1
  refine ⟨by omega, N, ?_, h3, by omega⟩
  by_cases c : j ≤ N
  · exact c
  · have := h5 N (by omega); omega
theorem c_tok (hT : byt T n) (h : Cst J T n j) : G8_get 0 j J = some (kdP T n (tkP T n j), J) ∧ G8_get 1 j J = some (tkP T n j, J) ∧ G8_get 2 j J = some (vlP T n (tkP T n j), J) := by
  obtain ⟨h1, N, h2, ⟨⟨h3, h4, h5⟩, h6⟩, h7⟩ := Cst.le hT h
  have hr : ∀ i, i ≤ 11 → rl i = 121 := fun i hi => if_pos hi
  have h8 := h6 j (by omega)
  refine ⟨?_, ?_, ?_⟩
  · rw [c_get (Or.inl (by omega)) (by omega) (by omega) (by rw [hr 0 (by omega)]; omega), if_pos (by omega), h8.1]
  · rw [c_get (Or.inl (by omega)) (by omega) (by omega) (by rw [hr 1 (by omega)]; omega), if_pos (by omega), h8.2.1]
  · rw [c_get (Or.inl (by omega)) (by omega) (by omega) (by rw [hr 2 (by omega)]; omega), if_pos (by omega), h8.2.2]
theorem tv_s (hT : byt T n) (h : tv T n j) (hk : kdP T n (tkP T n j) ≠ 0) : tv T n (j + 1) := by
  intro i hi
  by_cases e : i = j
  · rw [e]
    have hb := tkP_bd (T := T) (n := n) hT.1.1 j
    by_cases c : n ≤ tkP T n j
    · exact absurd (by unfold kdP; rw [if_pos c]) hk
    · omega
  · exact h i (by omega)
theorem Cst.s {J' : JS} (hT : byt T n) (h : Cst J T n j) (hk : kdP T n (tkP T n j) ≠ 0) (hF : FrQ J J') (h3 : js J' 3 0 = j + 1) : Cst J' T n (j + 1) := ⟨h.1.fr hF, by rw [h3]; rfl, tv_s hT h.2.2 hk⟩
theorem Cst.f {J' : JS} (h : Cst J T n j) (hF : FrQ J J') (h3 : js J' 3 0 = js J 3 0) : Cst J' T n j := ⟨h.1.fr hF, by rw [h3]; exact h.2.1, h.2.2⟩
theorem c_takes (hT : byt T n) {k : Int} (hk : R32 k) (h : Cst J T n j) {Q : Int → JS → Prop} (hs : kdP T n (tkP T n j) = k → Q 1 (ju1 (ju1 J 4 0 (vlP T n (tkP T n j))) 3 0 (j + 1))) (hf : kdP T n (tkP T n j) ≠ k → Q 0 (ju1 J 5 0 (tkP T n j))) : wp (G7_takes k) Q J := by
  have ht := c_tok hT h
  have hb := tkP_bd (T := T) (n := n) hT.1.1 j
  have hkd := kdP_bd hT hb.1
  unfold G7_takes
  simp only [wp_ib, wp_ig, wp_ite, jp_ret, jp_nz, jp_dI, jp_rI, jp_g9, jp_E, jpN1, jp_Bk, jp_Ck, jp_W, jp_R, jp_Tx, jp_Sl, jp_Sc, jp_Si, jp_Sq, jp_Xl, jp_X0, jp_Xc, jp_Xs, jp_Xi, jp_Tos, jp_NB, jp_NC, kj_1, kj_2, kj_3, kj_4, jpA1, jpS1, jp_con, ju1_s, ju1_a, ju2_s, ju2_a, juA_s, juA_a, jux_s, jux_a, jux_x, jux_t, ju1_jB, ju2_jB, juA_jB, ju1_jC, ju2_jC, juA_jC, ju1_jT, ju2_jT, juA_jT, ju1_jb, ju2_jb, juA_jb, ju1_jd, ju2_jd, juA_jd, ju1_jt, ju2_jt, juA_jt, ju1_jx, ju2_jx, juA_jx, ju1_jw, ju2_jw, juA_jw, ju1_jr, ju2_jr, juA_jr, ju1_jn, ju2_jn, juA_jn, jux_jB, jux_jC, jux_jT, jux_jb, jux_jd, jux_jw, jux_jr, jux_jn, jG2, jP2, jG3, jP3, jG4, jP4, jG5, jP5, jG8, jP8, jG9, jP9, jG10, jP10, jG11, jP11, jG1, jP1, jG6, jP6, jG7, jP7, jG12, jP12, wj2, wk2, wn2, wj3, wk3, wn3, wj4, wk4, wn4, wj5, wk5, wn5, wj6, wk6, wn6, wj7, wk7, wn7, wj8, wk8, wn8, wj9, wk9, wn9, wj10, wk10, wn10, Nat.reduceEqDiff, reduceIte, false_and, true_and, and_true, and_self, if_false, if_true, and_false]
  rw [h.2.1, wp_ret ht.1, h.2.1, wp_ret ht.2.2]
  refine ⟨by omega, hk, ?_⟩
  by_cases c : kdP T n (tkP T n j) = k
  · rw [if_pos c]
    rw [h.2.1]
    exact hs c
  · rw [if_neg c, wp_ret ht.2.1]
    exact hf c
theorem c_skips (hT : byt T n) {k : Int} (hk : R32 k) (h : Cst J T n j) {Q : Int → JS → Prop} (hs : kdP T n (tkP T n j) = k → Q 1 (ju1 J 3 0 (j + 1))) (hf : kdP T n (tkP T n j) ≠ k → Q 0 J) : wp (G7_skips k) Q J := by
  have ht := c_tok hT h
  have hb := tkP_bd (T := T) (n := n) hT.1.1 j
  have hkd := kdP_bd hT hb.1
  unfold G7_skips
  simp only [wp_ib, wp_ig, wp_ite, jp_ret, jp_nz, jp_dI, jp_rI, jp_g9, jp_E, jpN1, jp_Bk, jp_Ck, jp_W, jp_R, jp_Tx, jp_Sl, jp_Sc, jp_Si, jp_Sq, jp_Xl, jp_X0, jp_Xc, jp_Xs, jp_Xi, jp_Tos, jp_NB, jp_NC, kj_1, kj_2, kj_3, kj_4, jpA1, jpS1, jp_con, ju1_s, ju1_a, ju2_s, ju2_a, juA_s, juA_a, jux_s, jux_a, jux_x, jux_t, ju1_jB, ju2_jB, juA_jB, ju1_jC, ju2_jC, juA_jC, ju1_jT, ju2_jT, juA_jT, ju1_jb, ju2_jb, juA_jb, ju1_jd, ju2_jd, juA_jd, ju1_jt, ju2_jt, juA_jt, ju1_jx, ju2_jx, juA_jx, ju1_jw, ju2_jw, juA_jw, ju1_jr, ju2_jr, juA_jr, ju1_jn, ju2_jn, juA_jn, jux_jB, jux_jC, jux_jT, jux_jb, jux_jd, jux_jw, jux_jr, jux_jn, jG2, jP2, jG3, jP3, jG4, jP4, jG5, jP5, jG8, jP8, jG9, jP9, jG10, jP10, jG11, jP11, jG1, jP1, jG6, jP6, jG7, jP7, jG12, jP12, wj2, wk2, wn2, wj3, wk3, wn3, wj4, wk4, wn4, wj5, wk5, wn5, wj6, wk6, wn6, wj7, wk7, wn7, wj8, wk8, wn8, wj9, wk9, wn9, wj10, wk10, wn10, Nat.reduceEqDiff, reduceIte, false_and, true_and, and_true, and_self, if_false, if_true, and_false]
  rw [h.2.1, wp_ret ht.1]
  refine ⟨by omega, hk, ?_⟩
  by_cases c : kdP T n (tkP T n j) = k
  · rw [if_pos c, h.2.1]
    exact hs c
  · rw [if_neg c]
    exact hf c
theorem vl1 {p : Int} (h : kdP T n p = 1) : 0 ≤ vlP T n p ∧ vlP T n p ≤ 70 := by
  unfold kdP at h
  unfold vlP
  split at h
  · omega
  · rename_i hp
    rw [if_neg hp]
    split at h
    · rename_i hl
      rw [if_pos hl]
      have hw := wen_bd (T := T) (n := n) (p := p) (by omega)
      have := sgW_bd (T := T) p (wen T n p - p) (by omega)
      split at h <;> omega
    · split at h
      · split at h <;> omega
      · split at h <;> omega
theorem vl2 (hT : byt T n) {p : Int} (h0 : 0 ≤ p) (h : kdP T n p = 2) : 0 ≤ vlP T n p ∧ vlP T n p ≤ 999 := by
  have hb := vlP_bd hT h0
  refine ⟨?_, hb.2⟩
  unfold kdP at h
  split at h
  · omega
  · rename_i hp
    split at h
    · split at h <;> omega
    · rename_i hl
      split at h
      · rename_i hd
        split at h
        · rename_i hw3
          have hw := wen_bd (T := T) (n := n) (p := p) (by omega)
          have e : wen T n p = spD T (n - p).toNat p := by unfold wen; rw [if_neg hl, if_pos hd]
          have hdg := spD_dg (T := T) (n - p).toNat p
          have hbb := valN_bd hT (wen T n p - p).toNat p 0 0 h0 (by omega) (fun i q1 q2 => hdg i q1 (by rw [← e]; omega)) (by omega) (by omega)
          unfold vlP
          rw [if_neg hp, if_neg hl, if_pos ⟨hd, hw3⟩]
          exact hbb.1
        · omega
      · split at h <;> omega
end PRS
