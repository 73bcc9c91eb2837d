/-! ===== both readers read a change, changes ===== -/
/-- what a reader may write: the model's numbers 19 .. 25 and its rows of changes -/
def FrC2 (W W' : IS) : Prop := (∀ k, k < 19 ∨ 25 < k → W'.1 k = W.1 k) ∧ W'.1 24 = W.1 24 ∧ (∀ k, k < 32 ∨ 35 < k → W'.2 k = W.2 k)
/-- the same for the class: rows 8 .. 11, numbers 3 .. 5 -/
def FrD (J J' : JS) : Prop := (∀ t i, ¬ (t = 3 ∨ t = 4 ∨ t = 5 ∨ (t = 1 ∧ 8 ≤ i ∧ i ≤ 11)) → js J' t i = js J t i) ∧ (∀ t i, ¬ (t = 1 ∧ 8 ≤ i ∧ i ≤ 11) → ja J' t i = ja J t i) ∧ J'.2.2 = J.2.2
/-- so many changes are noted alike by both -/
def ChR (W : IS) (J : JS) (c : Int) : Prop := (0 ≤ c ∧ W.1 25 = c ∧ js J 1 8 = c ∧ js J 1 9 = c ∧ js J 1 10 = c ∧ js J 1 11 = c) ∧ ∀ i, 0 ≤ i → i < c → (ja J 1 8 i = W.2 32 i ∧ ja J 1 9 i = W.2 33 i ∧ ja J 1 10 i = W.2 34 i ∧ ja J 1 11 i = if W.2 32 i = 43 then W.2 35 i else -1) ∧ (W.2 32 i = 43 ∨ W.2 32 i = 45 ∨ W.2 32 i = 61) ∧ (0 ≤ W.2 33 i ∧ W.2 33 i ≤ 70) ∧ (0 ≤ W.2 34 i ∧ W.2 34 i ≤ 999) ∧ (0 ≤ W.2 35 i ∧ W.2 35 i ≤ 999)
def rdC0 (T : Int → Int) (n mk : Int) (j : Nat) : Nat × Option (Int × Int × Int × Int) :=
  if kdP T n (tkP T n j) ≠ 1 then (j, none) else if kdP T n (tkP T n (j + 1)) ≠ 2 then (j + 1, none)
  else if mk ≠ 43 then (j + 2, some (mk, vlP T n (tkP T n j), vlP T n (tkP T n (j + 1)), 0))
  else if kdP T n (tkP T n (j + 2)) ≠ 43 then (j + 2, none) else if kdP T n (tkP T n (j + 3)) ≠ 2 then (j + 3, none)
  else (j + 4, some (mk, vlP T n (tkP T n j), vlP T n (tkP T n (j + 1)), vlP T n (tkP T n (j + 3))))
def rdC (T : Int → Int) (n : Int) (j : Nat) : Nat × Option (Int × Int × Int × Int) :=
  if kdP T n (tkP T n j) = 45 then rdC0 T n 45 (j + 1) else if kdP T n (tkP T n j) = 61 then rdC0 T n 61 (j + 1) else rdC0 T n 43 j
section PR2
variable {T : Int → Int} {n : Int} {W : IS} {J : JS} {j : Nat} {c : Int}
theorem FrC2.trans {W1 W2 W3 : IS} (h : FrC2 W1 W2) (h' : FrC2 W2 W3) : FrC2 W1 W3 := ⟨fun k q => (h'.1 k q).trans (h.1 k q), h'.2.1.trans h.2.1, fun k q => (h'.2.2 k q).trans (h.2.2 k q)⟩
theorem FrC2.refl : FrC2 W W := ⟨fun _ _ => rfl, rfl, fun _ _ => rfl⟩
theorem FrY.c2 {W' : IS} (h : FrY W W') : FrC2 W W' := ⟨fun k q => h.2 k (by omega), h.2 24 (by omega), fun k _ => by rw [h.1]⟩
theorem FrC2.a {k : Nat} {i x : Int} (h : 32 ≤ k ∧ k ≤ 35) : FrC2 W (iu2 W k i x) := ⟨fun _ _ => rfl, rfl, fun k' q => by funext l; rw [iu2_2, if_neg (by omega)]⟩
theorem FrC2.m {x : Int} : FrC2 W (iu1 W 25 x) := ⟨fun k q => if_neg (by omega), show (if 24 = 25 then x else W.1 24) = W.1 24 from if_neg (by decide), fun _ _ => rfl⟩
theorem FrD.trans {J1 J2 J3 : JS} (h : FrD J1 J2) (h' : FrD J2 J3) : FrD J1 J3 := ⟨fun t i q => (h'.1 t i q).trans (h.1 t i q), fun t i q => (h'.2.1 t i q).trans (h.2.1 t i q), h'.2.2.trans h.2.2⟩
theorem FrD.refl : FrD J J := ⟨fun _ _ _ => rfl, fun _ _ _ => rfl, rfl⟩
theorem FrD.u {t : Nat} {x : Int} (h : t = 3 ∨ t = 4 ∨ t = 5) : FrD J (ju1 J t 0 x) := ⟨fun t' i q => by rw [ju1_s, if_neg (by omega)], fun _ _ _ => rfl, rfl⟩
theorem FrD.add {id : Nat} {x : Int} (h : 8 ≤ id ∧ id ≤ 11) : FrD J (addR J id x) := ⟨fun t i q => by rw [addR_s, if_neg (by omega)], fun t i q => by funext l; rw [addR_a, if_neg (by omega)], rfl⟩
theorem FrD.q {J' : JS} (h : FrD J J') : FrQ J J' := ⟨fun t i q => h.1 t i (by omega), fun t i q => h.2.1 t i (by omega), h.2.2⟩
theorem Mst.a {k : Nat} {i x : Int} {g : Int} (h : Mst W T n g j) (hk : k ≠ 0) : Mst (iu2 W k i x) T n g j := h.fr (by funext l; rw [iu2_2, if_neg (by omega)]) (fun _ _ => rfl)
theorem Mst.m {k : Nat} {x : Int} {g : Int} (h : Mst W T n g j) (hk : k ≠ 1 ∧ ¬ (19 ≤ k ∧ k ≤ 23)) : Mst (iu1 W k x) T n g j := h.fr rfl (fun k' q => if_neg (by omega))
/-- the same with other numbers of no import -/
theorem ChR.fr {W' : IS} {J' : JS} (h : ChR W J c) (h1 : W'.1 25 = W.1 25) (h2 : ∀ k, 32 ≤ k → k ≤ 35 → W'.2 k = W.2 k) (h3 : ∀ i, 8 ≤ i → i ≤ 11 → js J' 1 i = js J 1 i) (h4 : ∀ i, 8 ≤ i → i ≤ 11 → ja J' 1 i = ja J 1 i) : ChR W' J' c := by
  unfold ChR at h ⊢
  rw [h1, h2 32 (by omega) (by omega), h2 33 (by omega) (by omega), h2 34 (by omega) (by omega), h2 35 (by omega) (by omega), h3 8 (by omega) (by omega), h3 9 (by omega) (by omega), h3 10 (by omega) (by omega), h3 11 (by omega) (by omega), h4 8 (by omega) (by omega), h4 9 (by omega) (by omega), h4 10 (by omega) (by omega), h4 11 (by omega) (by omega)]
  exact h
theorem rl11 {i : Nat} (h : i ≤ 11) : rl i = 121 := if_pos h
/-- the model reads one change -/
theorem m_rc40 (hT : byt T n) {mk : Int} (hmk : mk = 43 ∨ mk = 45 ∨ mk = 61) (hc : 0 ≤ c ∧ c < 120) (hM : Mst W T n 1 j) (h25 : W.1 25 = c) {Q : Unit → IS → Prop}
    (hs : ∀ W' j' s i b, rdC0 T n mk j = (j', some (mk, s, i, b)) → FrC2 W W' → Mst W' T n 1 j' → W'.1 25 = c + 1 → (∀ l, W'.2 32 l = if l = c then mk else W.2 32 l) → (∀ l, W'.2 33 l = if l = c then s else W.2 33 l) → (∀ l, W'.2 34 l = if l = c then i else W.2 34 l) → (∀ l, W'.2 35 l = if l = c then b else W.2 35 l) → Q () W')
    (hf : ∀ W' j', rdC0 T n mk j = (j', none) → FrC2 W W' → Mst W' T n 0 j' → Q () W') : wp (I12_readChange_40 c mk c 32) Q W := by
  unfold rdC0 at hs hf
  have hR : R32 mk := by omega
  unfold I12_readChange_40
  simp only [wp_ib, wp_ig, wp_ite, wp_ir, wp_igI, wp_ipI, wp_ipZ, wp_inz, wp_idI, wp_irI, wp_iSl, wp_iSc, wp_iSi, iu1_1, iu1_2, iu2_1, iu2_2, wA0, wS0, wA6, wS6, wA7, wS7, wA8, wS8, wA9, wS9, wA10, wS10, wA11, wS11, wA12, wS12, wA13, wS13, wA14, wS14, wA16, wS16, wA17, wS17, wA18, wS18, wA26, wS26, wA27, wS27, wZ28, wY28, wA29, wS29, wA30, wS30, wA31, wS31, wA32, wS32, wA33, wS33, wA34, wS34, wA35, wS35, wA36, wS36, wA38, wS38, wA39, wS39, wA40, wS40, wZ41, wY41, wA45, wS45, wA46, wS46, wZ47, wY47, wZ48, wY48, Nat.reduceEqDiff, reduceIte, false_and, true_and, and_true, and_self, if_false, if_true, and_false]
  have hM2 : Mst (iu2 W 32 c mk) T n 1 j := hM.a (by decide)
  refine ⟨by omega, m_take hT (Or.inl ⟨rfl, rfl⟩) hM2 (fun k1 W3 hY3 hM3 => ?_) (fun k1 W3 hY3 hM3 => ?_)⟩
  · rw [if_neg (fun q => q k1)] at hs hf
    have hM4 : Mst (iu2 W3 33 c (vlP T n (tkP T n j))) T n 1 (j + 1) := hM3.a (by decide)
    refine ⟨by omega, m_take hT (Or.inr ⟨rfl, rfl⟩) hM4 (fun k2 W5 hY5 hM5 => ?_) (fun k2 W5 hY5 hM5 => ?_)⟩
    · rw [if_neg (fun q => q k2)] at hs hf
      have hM6 : Mst (iu2 (iu2 W5 34 c (vlP T n (tkP T n (j + 1)))) 35 c 0) T n 1 (j + 2) := (hM5.a (by decide)).a (by decide)
      have e32 : W5.2 32 c = mk := by simp only [hY5.1, iu2_2, hY3.1, Nat.reduceEqDiff, false_and, if_false, and_self, if_true]
      have e25 : W5.1 25 = c := by rw [hY5.2 25 (by omega)]; show W3.1 25 = c; rw [hY3.2 25 (by omega)]; exact h25
      have hF5 : FrC2 W (iu2 (iu2 W5 34 c (vlP T n (tkP T n (j + 1)))) 35 c 0) := ((FrC2.a (by omega)).trans (hY3.c2.trans ((FrC2.a (by omega)).trans hY5.c2))).trans ((FrC2.a (by omega)).trans (FrC2.a (by omega)))
      refine ⟨by omega, by omega, by omega, ?_⟩
      rw [e32]
      refine ⟨hR, ?_⟩
      by_cases e : mk = 43
      · rw [if_pos e]
        rw [if_neg (fun q => q e)] at hs hf
        refine m_must hT (by decide) hM6 (fun k3 W7 hY7 hM7 => ?_) (fun k3 W7 hY7 hM7 => ?_)
        · rw [if_neg (fun q => q k3)] at hs hf
          refine m_take hT (Or.inr ⟨rfl, rfl⟩) hM7 (fun k4 W8 hY8 hM8 => ?_) (fun k4 W8 hY8 hM8 => ?_)
          · rw [if_neg (fun q => q k4)] at hs
            have e8 : W8.1 25 = c := by rw [hY8.2 25 (by omega), hY7.2 25 (by omega)]; exact e25
            refine ⟨by omega, ?_⟩
            rw [e8]
            refine hs _ _ _ _ _ rfl ((hF5.trans (hY7.c2.trans hY8.c2)).trans ((FrC2.a (by omega)).trans FrC2.m)) ((hM8.a (by decide)).m (by omega)) rfl (fun l => ?_) (fun l => ?_) (fun l => ?_) (fun l => ?_)
            all_goals simp only [iu1_2, iu2_2, hY8.1, hY7.1, hY5.1, hY3.1, Nat.reduceEqDiff, false_and, true_and, if_false]
            by_cases el : l = c
            · simp only [el, if_true]
            · simp only [el, if_false]
          · rw [if_pos k4] at hf
            have e8 : W8.1 25 = c := by rw [hY8.2 25 (by omega), hY7.2 25 (by omega)]; exact e25
            refine ⟨by omega, ?_⟩
            exact hf _ _ rfl ((hF5.trans (hY7.c2.trans hY8.c2)).trans ((FrC2.a (by omega)).trans FrC2.m)) ((hM8.a (by decide)).m (by omega))
        · rw [if_pos k3] at hf
          refine m_take0 hM7 fun W8 hY8 hM8 => ⟨by omega, ?_⟩
          exact hf _ _ rfl ((hF5.trans (hY7.c2.trans hY8.c2)).trans ((FrC2.a (by omega)).trans FrC2.m)) ((hM8.a (by decide)).m (by omega))
      · rw [if_neg e, e25]
        rw [if_pos e] at hs
        refine hs _ _ _ _ _ rfl (hF5.trans FrC2.m) (hM6.m (by omega)) rfl (fun l => ?_) (fun l => ?_) (fun l => ?_) (fun l => ?_)
        all_goals simp only [iu1_2, iu2_2, hY5.1, hY3.1, Nat.reduceEqDiff, false_and, true_and, if_false]
    · rw [if_pos k2] at hf
      have hM6 : Mst (iu2 (iu2 W5 34 c 0) 35 c 0) T n 0 (j + 1) := (hM5.a (by decide)).a (by decide)
      have e32 : W5.2 32 c = mk := by simp only [hY5.1, iu2_2, hY3.1, Nat.reduceEqDiff, false_and, if_false, and_self, if_true]
      have hF5 : FrC2 W (iu2 (iu2 W5 34 c 0) 35 c 0) := ((FrC2.a (by omega)).trans (hY3.c2.trans ((FrC2.a (by omega)).trans hY5.c2))).trans ((FrC2.a (by omega)).trans (FrC2.a (by omega)))
      refine ⟨by omega, by omega, by omega, ?_⟩
      rw [e32]
      refine ⟨hR, ?_⟩
      by_cases e : mk = 43
      · rw [if_pos e]
        refine m_must0 hM6 fun W7 hY7 hM7 => m_take0 hM7 fun W8 hY8 hM8 => ⟨by omega, ?_⟩
        exact hf _ _ rfl ((hF5.trans (hY7.c2.trans hY8.c2)).trans ((FrC2.a (by omega)).trans FrC2.m)) ((hM8.a (by decide)).m (by omega))
      · rw [if_neg e]
        exact hf _ _ rfl (hF5.trans FrC2.m) (hM6.m (by omega))
  · rw [if_pos k1] at hf
    have hM4 : Mst (iu2 W3 33 c 0) T n 0 j := hM3.a (by decide)
    refine ⟨by omega, m_take0 hM4 fun W5 hY5 hM5 => ?_⟩
    have hM6 : Mst (iu2 (iu2 W5 34 c 0) 35 c 0) T n 0 j := (hM5.a (by decide)).a (by decide)
    have e32 : W5.2 32 c = mk := by simp only [hY5.1, iu2_2, hY3.1, Nat.reduceEqDiff, false_and, if_false, and_self, if_true]
    have hF5 : FrC2 W (iu2 (iu2 W5 34 c 0) 35 c 0) := ((FrC2.a (by omega)).trans (hY3.c2.trans ((FrC2.a (by omega)).trans hY5.c2))).trans ((FrC2.a (by omega)).trans (FrC2.a (by omega)))
    refine ⟨by omega, by omega, by omega, ?_⟩
    rw [e32]
    refine ⟨hR, ?_⟩
    by_cases e : mk = 43
    · rw [if_pos e]
      refine m_must0 hM6 fun W7 hY7 hM7 => m_take0 hM7 fun W8 hY8 hM8 => ⟨by omega, ?_⟩
      exact hf _ _ rfl ((hF5.trans (hY7.c2.trans hY8.c2)).trans ((FrC2.a (by omega)).trans FrC2.m)) ((hM8.a (by decide)).m (by omega))
    · rw [if_neg e]
      exact hf _ _ rfl (hF5.trans FrC2.m) (hM6.m (by omega))
theorem m_readChange (hT : byt T n) (hc : 0 ≤ c ∧ c < 120) (hM : Mst W T n 1 j) (h25 : W.1 25 = c) {Q : Unit → IS → Prop}
    (hs : ∀ W' j' mk s i b, (mk = 43 ∨ mk = 45 ∨ mk = 61) → rdC T n j = (j', some (mk, s, i, b)) → FrC2 W W' → Mst W' T n 1 j' → W'.1 25 = c + 1 → (∀ l, W'.2 32 l = if l = c then mk else W.2 32 l) → (∀ l, W'.2 33 l = if l = c then s else W.2 33 l) → (∀ l, W'.2 34 l = if l = c then i else W.2 34 l) → (∀ l, W'.2 35 l = if l = c then b else W.2 35 l) → Q () W')
    (hf : ∀ W' j', rdC T n j = (j', none) → FrC2 W W' → Mst W' T n 0 j' → Q () W') : wp I12_readChange Q W := by
  have go : ∀ (mk : Int) (W1 : IS) (j1 : Nat), (mk = 43 ∨ mk = 45 ∨ mk = 61) → FrY W W1 → Mst W1 T n 1 j1 → rdC T n j = rdC0 T n mk j1 → wp (I12_readChange_40 c mk c 32) Q W1 := by
    intro mk W1 j1 hmk hY hM1 he
    have e2 : W1.2 = W.2 := hY.1
    refine m_rc40 hT hmk hc hM1 (by rw [hY.2 25 (by omega)]; exact h25) (fun W' j' s i b h1 h2 h3 h4 h5 h6 h7 h8 => ?_) (fun W' j' h1 h2 h3 => hf W' j' (he.trans h1) (hY.c2.trans h2) h3)
    rw [e2] at h5 h6 h7 h8
    exact hs W' j' mk s i b hmk (he.trans h1) (hY.c2.trans h2) h3 h4 h5 h6 h7 h8
  unfold I12_readChange
  simp only [wp_ib, wp_ig, wp_ite, wp_ir, wp_igI, wp_ipI, wp_ipZ, wp_inz, wp_idI, wp_irI, wp_iSl, wp_iSc, wp_iSi, iu1_1, iu1_2, iu2_1, iu2_2, wA0, wS0, wA6, wS6, wA7, wS7, wA8, wS8, wA9, wS9, wA10, wS10, wA11, wS11, wA12, wS12, wA13, wS13, wA14, wS14, wA16, wS16, wA17, wS17, wA18, wS18, wA26, wS26, wA27, wS27, wZ28, wY28, wA29, wS29, wA30, wS30, wA31, wS31, wA32, wS32, wA33, wS33, wA34, wS34, wA35, wS35, wA36, wS36, wA38, wS38, wA39, wS39, wA40, wS40, wZ41, wY41, wA45, wS45, wA46, wS46, wZ47, wY47, wZ48, wY48, Nat.reduceEqDiff, reduceIte, false_and, true_and, and_true, and_self, if_false, if_true, and_false]
  rw [h25]
  refine m_goes hT (by decide) hM (fun k W1 hY hM1 => ?_) (fun k => ?_)
  · rw [if_neg (by decide)]
    exact ⟨by decide, go 45 W1 (j + 1) (by omega) hY hM1 (if_pos k)⟩
  · rw [if_pos rfl]
    refine ⟨by decide, m_goes hT (by decide) hM (fun k2 W1 hY hM1 => ?_) (fun k2 => ?_)⟩
    · rw [if_neg (by decide)]
      exact ⟨by decide, go 61 W1 (j + 1) (by omega) hY hM1 ((if_neg k).trans (if_pos k2))⟩
    · rw [if_pos rfl]
      exact ⟨by decide, go 43 W j (by omega) FrY.refl hM ((if_neg k).trans (if_neg k2))⟩
/-- the class's steps, the state behind them named -/
theorem c_takeV (hT : byt T n) {k : Int} (hk : R32 k) (h : Cst J T n j) {Q : Int → JS → Prop} (hs : kdP T n (tkP T n j) = k → ∀ J', J' = ju1 (ju1 J 4 0 (vlP T n (tkP T n j))) 3 0 ((j : Int) + 1) → (k ≠ 0 → Cst J' T n (j + 1)) → Q 1 J') (hf : kdP T n (tkP T n j) ≠ k → ∀ J', J' = ju1 J 5 0 (tkP T n j) → Q 0 J') : wp (G7_takes k) Q J :=
  c_takes hT hk h (fun e => hs e _ rfl (fun h0 => h.s hT (by rw [e]; exact h0) ((FrQ.u (by omega)).trans (FrQ.u (by omega))) rfl)) (fun e => hf e _ rfl)
theorem c_skipV (hT : byt T n) {k : Int} (hk : R32 k) (h : Cst J T n j) {Q : Int → JS → Prop} (hs : kdP T n (tkP T n j) = k → ∀ J', J' = ju1 J 3 0 ((j : Int) + 1) → (k ≠ 0 → Cst J' T n (j + 1)) → Q 1 J') (hf : kdP T n (tkP T n j) ≠ k → Q 0 J) : wp (G7_skips k) Q J :=
  c_skips hT hk h (fun e => hs e _ rfl (fun h0 => h.s hT (by rw [e]; exact h0) (FrQ.u (by omega)) rfl)) hf
theorem c_addV {id : Nat} {v : Int} (hid : 3 ≤ id ∧ id ≤ 11) (h0 : 0 ≤ js J 1 id) (h1 : js J 1 id < 121) {Q : Int → JS → Prop} (hq : ∀ J', J' = addR J id v → Q 1 J') : wp (G8_add id v) Q J := by
  rw [wp_ret (c_add (id := id) (Or.inl (by omega)) h0 (by rw [rl11 hid.2]; exact h1))]
  exact hq _ rfl
/-- what the class's rows of changes hold: so many; at the last place but one behind, if told, what is told -/
theorem c_rc30 (hT : byt T n) {mk : Int} (hmk : mk = 43 ∨ mk = 45 ∨ mk = 61) (hc : 0 ≤ c ∧ c < 120) (hJ : Cst J T n j) (hl : js J 1 8 = c ∧ js J 1 9 = c ∧ js J 1 10 = c ∧ js J 1 11 = c) {Q : Int → JS → Prop}
    (hs : ∀ J' j' s i b, rdC0 T n mk j = (j', some (mk, s, i, b)) → j + 2 ≤ j' → FrD J J' → Cst J' T n j' → (js J' 1 8 = c + 1 ∧ js J' 1 9 = c + 1 ∧ js J' 1 10 = c + 1 ∧ js J' 1 11 = c + 1) → (∀ l, ja J' 1 8 l = if l = c then mk else ja J 1 8 l) → (∀ l, ja J' 1 9 l = if l = c then s else ja J 1 9 l) → (∀ l, ja J' 1 10 l = if l = c then i else ja J 1 10 l) → (∀ l, ja J' 1 11 l = if l = c then (if mk = 43 then b else -1) else ja J 1 11 l) → (0 ≤ s ∧ s ≤ 70) → (0 ≤ i ∧ i ≤ 999) → (0 ≤ b ∧ b ≤ 999) → Q 1 J')
    (hf : ∀ J' j', rdC0 T n mk j = (j', none) → FrD J J' → js J' 5 0 = tkP T n j' → Q 0 J') : wp (G7_readsChange_30 mk) Q J := by
  unfold rdC0 at hs hf
  obtain ⟨l8, l9, l10, l11⟩ := hl
  -- the end of one that is right
  have fin : ∀ (J1 : JS) (j' : Nat) (b : Int), j + 2 ≤ j' → (0 ≤ b ∧ b ≤ 999) → (mk = 43 → js J1 4 0 = b) → FrD J J1 → Cst J1 T n j' → (js J1 1 8 = c ∧ js J1 1 9 = c + 1 ∧ js J1 1 10 = c + 1 ∧ js J1 1 11 = c) → (ja J1 1 8 = ja J 1 8 ∧ (∀ l, ja J1 1 9 l = if l = c then vlP T n (tkP T n j) else ja J 1 9 l) ∧ (∀ l, ja J1 1 10 l = if l = c then vlP T n (tkP T n (j + 1)) else ja J 1 10 l) ∧ ja J1 1 11 = ja J 1 11) → (∀ J', FrD J J' → Cst J' T n j' → (js J' 1 8 = c + 1 ∧ js J' 1 9 = c + 1 ∧ js J' 1 10 = c + 1 ∧ js J' 1 11 = c + 1) → (∀ l, ja J' 1 8 l = if l = c then mk else ja J 1 8 l) → (∀ l, ja J' 1 9 l = if l = c then vlP T n (tkP T n j) else ja J 1 9 l) → (∀ l, ja J' 1 10 l = if l = c then vlP T n (tkP T n (j + 1)) else ja J 1 10 l) → (∀ l, ja J' 1 11 l = if l = c then (if mk = 43 then b else -1) else ja J 1 11 l) → Q 1 J') → wp (G7_readsChange_106 mk) Q J1 := by
    intro J1 j' b hj' hb h4 hD hJ1 hl ha hq
    obtain ⟨m8, m9, m10, m11⟩ := hl
    obtain ⟨a8, a9, a10, a11⟩ := ha
    have last : ∀ x, x = (if mk = 43 then b else -1) → wp (G7_readsChange_127 mk x 11) Q J1 := by
      intro x hx
      unfold G7_readsChange_127
      simp only [wp_ib, wp_ig, wp_ite, jp_ret, jp_nz, jp_dI, jp_rI, jp_g9, jp_E, jpN1, jp_Bk, jp_Ck, jp_W, jp_R, jp_Tx, jp_Sl, jp_Sc, jp_Si, jp_Sq, jp_Xl, jp_X0, jp_Xc, jp_Xs, jp_Xi, jp_Tos, jp_NB, jp_NC, kj_1, kj_2, kj_3, kj_4, jpA1, jpS1, jp_con, ju1_s, ju1_a, ju2_s, ju2_a, juA_s, juA_a, jux_s, jux_a, jux_x, jux_t, ju1_jB, ju2_jB, juA_jB, ju1_jC, ju2_jC, juA_jC, ju1_jT, ju2_jT, juA_jT, ju1_jb, ju2_jb, juA_jb, ju1_jd, ju2_jd, juA_jd, ju1_jt, ju2_jt, juA_jt, ju1_jx, ju2_jx, juA_jx, ju1_jw, ju2_jw, juA_jw, ju1_jr, ju2_jr, juA_jr, ju1_jn, ju2_jn, juA_jn, jux_jB, jux_jC, jux_jT, jux_jb, jux_jd, jux_jw, jux_jr, jux_jn, jG2, jP2, jG3, jP3, jG4, jP4, jG5, jP5, jG8, jP8, jG9, jP9, jG10, jP10, jG11, jP11, jG1, jP1, jG6, jP6, jG7, jP7, jG12, jP12, wj2, wk2, wn2, wj3, wk3, wn3, wj4, wk4, wn4, wj5, wk5, wn5, wj6, wk6, wn6, wj7, wk7, wn7, wj8, wk8, wn8, wj9, wk9, wn9, wj10, wk10, wn10, Nat.reduceEqDiff, reduceIte, false_and, true_and, and_true, and_self, if_false, if_true, and_false]
      refine ⟨by omega, c_addV (by omega) (by omega) (by omega) fun J2 e2 => ?_⟩
      have e28 : js J2 1 8 = c := by rw [e2]; exact m8
      refine c_addV (by omega) (by omega) (by omega) fun J3 e3 => ?_
      refine hq J3 (by rw [e3, e2]; exact hD.trans ((FrD.add (by omega)).trans (FrD.add (by omega)))) (by rw [e3, e2]; exact hJ1.f ((FrQ.add (by omega)).trans (FrQ.add (by omega))) rfl) ⟨?_, ?_, ?_, ?_⟩ (fun l => ?_) (fun l => ?_) (fun l => ?_) (fun l => ?_)
      · rw [e3]; show js J2 1 8 + 1 = c + 1; omega
      · rw [e3, e2]; exact m9
      · rw [e3, e2]; exact m10
      · rw [e3, e2]; show js J1 1 11 + 1 = c + 1; omega
      · rw [e3, addR_a, e28, e2, addR_a, a8]
        simp only [Nat.reduceEqDiff, and_false, true_and, false_and, if_false]
      · rw [e3, addR_a, e2, addR_a, ← a9]
        simp only [Nat.reduceEqDiff, and_false, true_and, false_and, if_false]
      · rw [e3, addR_a, e2, addR_a, ← a10]
        simp only [Nat.reduceEqDiff, and_false, true_and, false_and, if_false]
      · rw [e3, addR_a, e2, addR_a, m11, a11, hx]
        simp only [Nat.reduceEqDiff, and_false, true_and, false_and, if_false]
    unfold G7_readsChange_106
    simp only [wp_ib, wp_ig, wp_ite, jp_ret, jp_nz, jp_dI, jp_rI, jp_g9, jp_E, jpN1, jp_Bk, jp_Ck, jp_W, jp_R, jp_Tx, jp_Sl, jp_Sc, jp_Si, jp_Sq, jp_Xl, jp_X0, jp_Xc, jp_Xs, jp_Xi, jp_Tos, jp_NB, jp_NC, kj_1, kj_2, kj_3, kj_4, jpA1, jpS1, jp_con, ju1_s, ju1_a, ju2_s, ju2_a, juA_s, juA_a, jux_s, jux_a, jux_x, jux_t, ju1_jB, ju2_jB, juA_jB, ju1_jC, ju2_jC, juA_jC, ju1_jT, ju2_jT, juA_jT, ju1_jb, ju2_jb, juA_jb, ju1_jd, ju2_jd, juA_jd, ju1_jt, ju2_jt, juA_jt, ju1_jx, ju2_jx, juA_jx, ju1_jw, ju2_jw, juA_jw, ju1_jr, ju2_jr, juA_jr, ju1_jn, ju2_jn, juA_jn, jux_jB, jux_jC, jux_jT, jux_jb, jux_jd, jux_jw, jux_jr, jux_jn, jG2, jP2, jG3, jP3, jG4, jP4, jG5, jP5, jG8, jP8, jG9, jP9, jG10, jP10, jG11, jP11, jG1, jP1, jG6, jP6, jG7, jP7, jG12, jP12, wj2, wk2, wn2, wj3, wk3, wn3, wj4, wk4, wn4, wj5, wk5, wn5, wj6, wk6, wn6, wj7, wk7, wn7, wj8, wk8, wn8, wj9, wk9, wn9, wj10, wk10, wn10, Nat.reduceEqDiff, reduceIte, false_and, true_and, and_true, and_self, if_false, if_true, and_false]
    refine ⟨by omega, ?_⟩
    by_cases e : mk = 43
    · rw [if_pos e]
      exact last _ (by rw [if_pos e]; exact h4 e)
    · rw [if_neg e]
      exact last _ (by rw [if_neg e])
  unfold G7_readsChange_30
  simp only [wp_ib, wp_ig, wp_ite, jp_ret, jp_nz, jp_dI, jp_rI, jp_g9, jp_E, jpN1, jp_Bk, jp_Ck, jp_W, jp_R, jp_Tx, jp_Sl, jp_Sc, jp_Si, jp_Sq, jp_Xl, jp_X0, jp_Xc, jp_Xs, jp_Xi, jp_Tos, jp_NB, jp_NC, kj_1, kj_2, kj_3, kj_4, jpA1, jpS1, jp_con, ju1_s, ju1_a, ju2_s, ju2_a, juA_s, juA_a, jux_s, jux_a, jux_x, jux_t, ju1_jB, ju2_jB, juA_jB, ju1_jC, ju2_jC, juA_jC, ju1_jT, ju2_jT, juA_jT, ju1_jb, ju2_jb, juA_jb, ju1_jd, ju2_jd, juA_jd, ju1_jt, ju2_jt, juA_jt, ju1_jx, ju2_jx, juA_jx, ju1_jw, ju2_jw, juA_jw, ju1_jr, ju2_jr, juA_jr, ju1_jn, ju2_jn, juA_jn, jux_jB, jux_jC, jux_jT, jux_jb, jux_jd, jux_jw, jux_jr, jux_jn, jG2, jP2, jG3, jP3, jG4, jP4, jG5, jP5, jG8, jP8, jG9, jP9, jG10, jP10, jG11, jP11, jG1, jP1, jG6, jP6, jG7, jP7, jG12, jP12, wj2, wk2, wn2, wj3, wk3, wn3, wj4, wk4, wn4, wj5, wk5, wn5, wj6, wk6, wn6, wj7, wk7, wn7, wj8, wk8, wn8, wj9, wk9, wn9, wj10, wk10, wn10, Nat.reduceEqDiff, reduceIte, false_and, true_and, and_true, and_self, if_false, if_true, and_false]
  refine c_takeV hT (by decide) hJ (fun k1 J1 e1 hJ1 => ?_) (fun k1 J1 e1 => ?_)
  · rw [if_neg (fun q => q k1)] at hs hf
    have hv1 := vl1 k1
    have hJ1 := hJ1 (by decide)
    have e14 : js J1 4 0 = vlP T n (tkP T n j) := by rw [e1]; rfl
    have e19 : js J1 1 9 = c := by rw [e1]; exact l9
    rw [if_neg (by decide), e14]
    refine ⟨by decide, c_addV (by omega) (by omega) (by omega) fun J3 e3 => ?_⟩
    have hJ3 : Cst J3 T n (j + 1) := by rw [e3]; exact hJ1.f (FrQ.add (by omega)) rfl
    have hD3 : FrD J J3 := by rw [e3, e1]; exact ((FrD.u (by omega)).trans (FrD.u (by omega))).trans (FrD.add (by omega))
    have s3 : js J3 1 8 = c ∧ js J3 1 9 = c + 1 ∧ js J3 1 10 = c ∧ js J3 1 11 = c := by
      rw [e3]
      refine ⟨by rw [e1]; exact l8, by show js J1 1 9 + 1 = c + 1; omega, by rw [e1]; exact l10, by rw [e1]; exact l11⟩
    have a9 : ∀ l, ja J3 1 9 l = if l = c then vlP T n (tkP T n j) else ja J 1 9 l := fun l => by
      rw [e3, addR_a, e19, e1]
      simp only [true_and]
      rfl
    have b3 : ja J3 1 8 = ja J 1 8 ∧ ja J3 1 10 = ja J 1 10 ∧ ja J3 1 11 = ja J 1 11 := by
      rw [e3, e1]
      refine ⟨?_, ?_, ?_⟩ <;> (funext l; simp only [addR_a, Nat.reduceEqDiff, and_false, false_and, if_false]; rfl)
    refine c_takeV hT (by decide) hJ3 (fun k2 J4 e4 hJ4 => ?_) (fun k2 J4 e4 => ?_)
    · rw [if_neg (fun q => q k2)] at hs hf
      have hv2 := vl2 hT (tkP_bd (T := T) (n := n) hT.1.1 (j + 1)).1 k2
      have hJ4 := hJ4 (by decide)
      have e44 : js J4 4 0 = vlP T n (tkP T n (j + 1)) := by rw [e4]; rfl
      have e410 : js J4 1 10 = c := by rw [e4]; exact s3.2.2.1
      rw [if_neg (by decide), e44]
      refine ⟨by decide, c_addV (by omega) (by omega) (by omega) fun J5 e5 => ⟨by omega, ?_⟩⟩
      have hJ5 : Cst J5 T n (j + 2) := by rw [e5]; exact hJ4.f (FrQ.add (by omega)) rfl
      have hD5 : FrD J J5 := by rw [e5, e4]; exact hD3.trans (((FrD.u (by omega)).trans (FrD.u (by omega))).trans (FrD.add (by omega)))
      have s5 : js J5 1 8 = c ∧ js J5 1 9 = c + 1 ∧ js J5 1 10 = c + 1 ∧ js J5 1 11 = c := by
        rw [e5]
        exact ⟨by rw [e4]; exact s3.1, by rw [e4]; exact s3.2.1, by show js J4 1 10 + 1 = c + 1; omega, by rw [e4]; exact s3.2.2.2⟩
      have b5 : ja J5 1 8 = ja J 1 8 ∧ (∀ l, ja J5 1 9 l = if l = c then vlP T n (tkP T n j) else ja J 1 9 l) ∧ (∀ l, ja J5 1 10 l = if l = c then vlP T n (tkP T n (j + 1)) else ja J 1 10 l) ∧ ja J5 1 11 = ja J 1 11 := by
        refine ⟨?_, fun l => ?_, fun l => ?_, ?_⟩
        · rw [e5, e4, ← b3.1]; funext l; simp only [addR_a, Nat.reduceEqDiff, and_false, false_and, if_false]; rfl
        · rw [e5, e4, ← a9 l]; simp only [addR_a, Nat.reduceEqDiff, and_false, false_and, if_false]; rfl
        · rw [e5, addR_a, e410, e4]
          simp only [true_and]
          show (if l = c then _ else ja J3 1 10 l) = _
          rw [b3.2.1]
        · rw [e5, e4, ← b3.2.2]; funext l; simp only [addR_a, Nat.reduceEqDiff, and_false, false_and, if_false]; rfl
      by_cases e : mk = 43
      · rw [if_pos e]
        rw [if_neg (fun q => q e)] at hs hf
        refine c_takeV hT (by decide) hJ5 (fun k3 J6 e6 hJ6 => ?_) (fun k3 J6 e6 => ?_)
        · rw [if_neg (fun q => q k3)] at hs hf
          have hJ6 := hJ6 (by decide)
          rw [if_neg (by decide)]
          refine ⟨by decide, c_takeV hT (by decide) hJ6 (fun k4 J7 e7 hJ7 => ?_) (fun k4 J7 e7 => ?_)⟩
          · rw [if_neg (fun q => q k4)] at hs
            have hv4 := vl2 hT (tkP_bd (T := T) (n := n) hT.1.1 (j + 3)).1 k4
            have hD7 : FrD J J7 := by rw [e7, e6]; exact hD5.trans (((FrD.u (by omega)).trans (FrD.u (by omega))).trans ((FrD.u (by omega)).trans (FrD.u (by omega))))
            rw [if_neg (by decide)]
            refine ⟨by decide, fin J7 (j + 4) (vlP T n (tkP T n (j + 3))) (by omega) hv4 (fun _ => by rw [e7]; rfl) hD7 (hJ7 (by decide)) (by rw [e7, e6]; exact s5) (by rw [e7, e6]; exact b5) (fun J' q1 q2 q3 q4 q5 q6 q7 => hs J' _ _ _ _ rfl (by omega) q1 q2 q3 q4 q5 q6 q7 hv1 hv2 hv4)⟩
          · rw [if_pos k4] at hf
            rw [if_pos rfl]
            exact ⟨by decide, hf J7 _ rfl (by rw [e7, e6]; exact hD5.trans (((FrD.u (by omega)).trans (FrD.u (by omega))).trans (FrD.u (by omega)))) (by rw [e7]; rfl)⟩
        · rw [if_pos k3] at hf
          rw [if_pos rfl]
          exact ⟨by decide, hf J6 _ rfl (by rw [e6]; exact hD5.trans (FrD.u (by omega))) (by rw [e6]; rfl)⟩
      · rw [if_neg e]
        rw [if_pos e] at hs
        exact fin J5 (j + 2) 0 (by omega) (by omega) (fun q => absurd q e) hD5 hJ5 s5 b5 (fun J' q1 q2 q3 q4 q5 q6 q7 => hs J' _ _ _ _ rfl (by omega) q1 q2 q3 q4 q5 q6 q7 hv1 hv2 (by omega))
    · rw [if_pos k2] at hf
      rw [if_pos rfl]
      exact ⟨by decide, hf J4 _ rfl (by rw [e4]; exact hD3.trans (FrD.u (by omega))) (by rw [e4]; rfl)⟩
  · rw [if_pos k1] at hf
    rw [if_pos rfl]
    exact ⟨by decide, hf J1 _ rfl (by rw [e1]; exact FrD.u (by omega)) (by rw [e1]; rfl)⟩
theorem c_readsChange (hT : byt T n) (hc : 0 ≤ c ∧ c < 120) (hJ : Cst J T n j) (hl : js J 1 8 = c ∧ js J 1 9 = c ∧ js J 1 10 = c ∧ js J 1 11 = c) {Q : Int → JS → Prop}
    (hs : ∀ J' j' mk s i b, rdC T n j = (j', some (mk, s, i, b)) → j + 2 ≤ j' → FrD J J' → Cst J' T n j' → (js J' 1 8 = c + 1 ∧ js J' 1 9 = c + 1 ∧ js J' 1 10 = c + 1 ∧ js J' 1 11 = c + 1) → (∀ l, ja J' 1 8 l = if l = c then mk else ja J 1 8 l) → (∀ l, ja J' 1 9 l = if l = c then s else ja J 1 9 l) → (∀ l, ja J' 1 10 l = if l = c then i else ja J 1 10 l) → (∀ l, ja J' 1 11 l = if l = c then (if mk = 43 then b else -1) else ja J 1 11 l) → (0 ≤ s ∧ s ≤ 70) → (0 ≤ i ∧ i ≤ 999) → (0 ≤ b ∧ b ≤ 999) → Q 1 J')
    (hf : ∀ J' j', rdC T n j = (j', none) → FrD J J' → js J' 5 0 = tkP T n j' → Q 0 J') : wp G7_readsChange Q J := by
  have go : ∀ (mk : Int) (J1 : JS) (j1 : Nat), (mk = 43 ∨ mk = 45 ∨ mk = 61) → j ≤ j1 → FrD J J1 → (∀ i, js J1 1 i = js J 1 i) → ja J1 = ja J → Cst J1 T n j1 → rdC T n j = rdC0 T n mk j1 → wp (G7_readsChange_30 mk) Q J1 := by
    intro mk J1 j1 hmk hj hD h1 h2 hJ1 he
    refine c_rc30 hT hmk hc hJ1 (by rw [h1, h1, h1, h1]; exact hl) (fun J' j' s i b q1 q2 q3 q4 q5 q6 q7 q8 q9 r1 r2 r3 => ?_) (fun J' j' q1 q2 q3 => hf J' j' (he.trans q1) (hD.trans q2) q3)
    rw [h2] at q6 q7 q8 q9
    exact hs J' j' mk s i b (he.trans q1) (by omega) (hD.trans q3) q4 q5 q6 q7 q8 q9 r1 r2 r3
  unfold G7_readsChange
  simp only [wp_ib, wp_ig, wp_ite, jp_ret, jp_nz, jp_dI, jp_rI, jp_g9, jp_E, jpN1, jp_Bk, jp_Ck, jp_W, jp_R, jp_Tx, jp_Sl, jp_Sc, jp_Si, jp_Sq, jp_Xl, jp_X0, jp_Xc, jp_Xs, jp_Xi, jp_Tos, jp_NB, jp_NC, kj_1, kj_2, kj_3, kj_4, jpA1, jpS1, jp_con, ju1_s, ju1_a, ju2_s, ju2_a, juA_s, juA_a, jux_s, jux_a, jux_x, jux_t, ju1_jB, ju2_jB, juA_jB, ju1_jC, ju2_jC, juA_jC, ju1_jT, ju2_jT, juA_jT, ju1_jb, ju2_jb, juA_jb, ju1_jd, ju2_jd, juA_jd, ju1_jt, ju2_jt, juA_jt, ju1_jx, ju2_jx, juA_jx, ju1_jw, ju2_jw, juA_jw, ju1_jr, ju2_jr, juA_jr, ju1_jn, ju2_jn, juA_jn, jux_jB, jux_jC, jux_jT, jux_jb, jux_jd, jux_jw, jux_jr, jux_jn, jG2, jP2, jG3, jP3, jG4, jP4, jG5, jP5, jG8, jP8, jG9, jP9, jG10, jP10, jG11, jP11, jG1, jP1, jG6, jP6, jG7, jP7, jG12, jP12, wj2, wk2, wn2, wj3, wk3, wn3, wj4, wk4, wn4, wj5, wk5, wn5, wj6, wk6, wn6, wj7, wk7, wn7, wj8, wk8, wn8, wj9, wk9, wn9, wj10, wk10, wn10, Nat.reduceEqDiff, reduceIte, false_and, true_and, and_true, and_self, if_false, if_true, and_false]
  refine c_skipV hT (by decide) hJ (fun k J1 e1 hJ1 => ?_) (fun k => ?_)
  · rw [if_neg (by decide)]
    exact ⟨by decide, go 45 J1 (j + 1) (by omega) (by omega) (by rw [e1]; exact FrD.u (by omega)) (fun i => by rw [e1, ju1_s, if_neg (by omega)]) (by rw [e1]; exact ju1_a) (hJ1 (by decide)) (if_pos k)⟩
  · rw [if_pos rfl]
    refine ⟨by decide, c_skipV hT (by decide) hJ (fun k2 J1 e1 hJ1 => ?_) (fun k2 => ?_)⟩
    · rw [if_neg (by decide)]
      exact ⟨by decide, go 61 J1 (j + 1) (by omega) (by omega) (by rw [e1]; exact FrD.u (by omega)) (fun i => by rw [e1, ju1_s, if_neg (by omega)]) (by rw [e1]; exact ju1_a) (hJ1 (by decide)) ((if_neg k).trans (if_pos k2))⟩
    · rw [if_pos rfl]
      exact ⟨by decide, go 43 J j (by omega) (Nat.le_refl _) FrD.refl (fun i => rfl) rfl hJ ((if_neg k).trans (if_neg k2))⟩
/-- both read one change -/
theorem b_readChange (hT : byt T n) (hM : Mst W T n 1 j) (hJ : Cst J T n j) (hC : ChR W J c) (hj : 2 * c ≤ j) {Q : IS → Int → JS → Prop}
    (hs : ∀ W' J' j', FrC2 W W' → FrD J J' → Mst W' T n 1 j' → Cst J' T n j' → ChR W' J' (c + 1) → j + 2 ≤ j' → Q W' 1 J')
    (hf : ∀ W' J' j', FrC2 W W' → FrD J J' → Mst W' T n 0 j' → js J' 5 0 = tkP T n j' → Q W' 0 J') :
    wp I12_readChange (fun _ W' => wp G7_readsChange (fun v J' => Q W' v J') J) W := by
  have hj120 := (Cst.le hT hJ).1
  obtain ⟨⟨hc0, c25, c8, c9, c10, c11⟩, cc⟩ := hC
  refine m_readChange hT ⟨hc0, by omega⟩ hM c25 (fun W' j' mk s i b hmk hr hF hM' h25 a32 a33 a34 a35 => ?_) (fun W' j' hr hF hM' => ?_)
  · refine c_readsChange hT ⟨hc0, by omega⟩ hJ ⟨c8, c9, c10, c11⟩ (fun J' j'' mk' s' i' b' hr' hj' hD hJ' hl b8 b9 b10 b11 r1 r2 r3 => ?_) (fun J' j'' hr' _ _ => ?_)
    · rw [hr] at hr'
      cases hr'
      refine hs W' J' j' hF hD hM' hJ' ⟨⟨by omega, h25, hl⟩, fun l l0 l1 => ?_⟩ hj'
      rw [b8, b9, b10, b11, a32, a33, a34, a35]
      by_cases e : l = c
      · simp only [e, if_true]
        refine ⟨⟨?_, ?_, ?_, ?_⟩, hmk, r1, r2, r3⟩ <;> first | trivial | rfl
      · simp only [e, if_false]
        exact cc l l0 (by omega)
    · rw [hr] at hr'
      cases hr'
  · refine c_readsChange hT ⟨hc0, by omega⟩ hJ ⟨c8, c9, c10, c11⟩ (fun J' j'' mk' s' i' b' hr' hj' hD hJ' hl b8 b9 b10 b11 r1 r2 r3 => ?_) (fun J' j'' hr' hD h5 => ?_)
    · rw [hr] at hr'
      cases hr'
    · rw [hr] at hr'
      cases hr'
      exact hf W' J' j' hF hD hM' h5
theorem c_list_step {m' : Nat} {x : Int} (hx : 0 ≤ x ∧ x < 121) {F : Int → JS → Prop} (h : wp G7_readsChange (fun v1 J1 => R32 v1 ∧ if v1 = 0 then F 0 J1 else wp (G7_skips 44) (fun v2 J2 => R32 v2 ∧ if v2 = 0 then F 1 J2 else wp (G7_readsChangeList_2 m' (x + 1)) F J2) J1) J) : wp (G7_readsChangeList_2 (m' + 1) x) F J := by
  unfold G7_readsChangeList_2 G7_readsChangeList_2_st
  simp only [wp_ib, wp_ig, wp_ite, jp_ret, jp_nz, jp_dI, jp_rI, jp_g9, jp_E, jpN1, jp_Bk, jp_Ck, jp_W, jp_R, jp_Tx, jp_Sl, jp_Sc, jp_Si, jp_Sq, jp_Xl, jp_X0, jp_Xc, jp_Xs, jp_Xi, jp_Tos, jp_NB, jp_NC, kj_1, kj_2, kj_3, kj_4, jpA1, jpS1, jp_con, ju1_s, ju1_a, ju2_s, ju2_a, juA_s, juA_a, jux_s, jux_a, jux_x, jux_t, ju1_jB, ju2_jB, juA_jB, ju1_jC, ju2_jC, juA_jC, ju1_jT, ju2_jT, juA_jT, ju1_jb, ju2_jb, juA_jb, ju1_jd, ju2_jd, juA_jd, ju1_jt, ju2_jt, juA_jt, ju1_jx, ju2_jx, juA_jx, ju1_jw, ju2_jw, juA_jw, ju1_jr, ju2_jr, juA_jr, ju1_jn, ju2_jn, juA_jn, jux_jB, jux_jC, jux_jT, jux_jb, jux_jd, jux_jw, jux_jr, jux_jn, jG2, jP2, jG3, jP3, jG4, jP4, jG5, jP5, jG8, jP8, jG9, jP9, jG10, jP10, jG11, jP11, jG1, jP1, jG6, jP6, jG7, jP7, jG12, jP12, wj2, wk2, wn2, wj3, wk3, wn3, wj4, wk4, wn4, wj5, wk5, wn5, wj6, wk6, wn6, wj7, wk7, wn7, wj8, wk8, wn8, wj9, wk9, wn9, wj10, wk10, wn10, Nat.reduceEqDiff, reduceIte, false_and, true_and, and_true, and_self, if_false, if_true, and_false]
  rw [if_neg (by omega)]
  exact ⟨by omega, h⟩
/-- both read changes, with , between each two -/
theorem b_list (hT : byt T n) {Q : IS → Int → JS → Prop} {W0 : IS} {J0 : JS} {j0 : Nat} {c0 : Int}
    (hs : ∀ W' J' j' c', FrC2 W0 W' → FrD J0 J' → Mst W' T n 1 j' → Cst J' T n j' → ChR W' J' c' → 2 * c' ≤ j' → c0 < c' → j0 + 2 ≤ j' → Q W' 1 J')
    (hf : ∀ W' J' j', FrC2 W0 W' → FrD J0 J' → Mst W' T n 0 j' → js J' 5 0 = tkP T n j' → Q W' 0 J') :
    ∀ (d : Nat) (W : IS) (J : JS) (j m m' : Nat) (c x : Int), 120 - j < d → d ≤ m → d ≤ m' → 0 ≤ x → x ≤ c → c0 ≤ c → j0 ≤ j → FrC2 W0 W → FrD J0 J → Mst W T n 1 j → Cst J T n j → ChR W J c → 2 * c ≤ j →
    wp I12_readChange (fun _ W1 => wp (I12_readChanges_4 m) (fun _ W' => wp (G7_readsChangeList_2 m' x) (fun v J' => Q W' v J') J) W1) W := by
  intro d
  induction d with
  | zero =>
    intro W J j m m' c x hd
    omega
  | succ d ih =>
    intro W J j m m' c x hd hm hm' hx hxc hc hj0 hF hD hM hJ hC hj
    have hj120 := (Cst.le hT hJ).1
    cases m with
    | zero => omega
    | succ m =>
      cases m' with
      | zero => omega
      | succ m' =>
        refine wp_mono (P := fun _ W1 => wp G7_readsChange (fun v1 J1 => R32 v1 ∧ if v1 = 0 then wp (I12_readChanges_4 (m + 1)) (fun _ W' => Q W' 0 J1) W1 else wp (G7_skips 44) (fun v2 J2 => R32 v2 ∧ if v2 = 0 then wp (I12_readChanges_4 (m + 1)) (fun _ W' => Q W' 1 J2) W1 else wp (G7_readsChangeList_2 m' (x + 1)) (fun v J' => wp (I12_readChanges_4 (m + 1)) (fun _ W' => Q W' v J') W1) J2) J1) J) ?_ (fun _ W1 h => wp_comm (c_list_step ⟨hx, by omega⟩ h))
        refine b_readChange hT hM hJ hC hj (fun W1 J1 j1 hF1 hD1 hM1 hJ1 hC1 hj1 => ?_) (fun W1 J1 j1 hF1 hD1 hM1 h5 => ?_)
        · have hj1120 := (Cst.le hT hJ1).1
          refine ⟨by decide, ?_⟩
          rw [if_neg (by decide)]
          refine c_skipV hT (by decide) hJ1 (fun k2 J2 e2 hJ2 => ?_) (fun k2 => ?_)
          · rw [if_neg (by decide)]
            refine ⟨by decide, wp_comm ?_⟩
            unfold I12_readChanges_4 I12_readChanges_4_st
            simp only [wp_ib, wp_ig, wp_ite, wp_ir, wp_igI, wp_ipI, wp_ipZ, wp_inz, wp_idI, wp_irI, wp_iSl, wp_iSc, wp_iSi, iu1_1, iu1_2, iu2_1, iu2_2, wA0, wS0, wA6, wS6, wA7, wS7, wA8, wS8, wA9, wS9, wA10, wS10, wA11, wS11, wA12, wS12, wA13, wS13, wA14, wS14, wA16, wS16, wA17, wS17, wA18, wS18, wA26, wS26, wA27, wS27, wZ28, wY28, wA29, wS29, wA30, wS30, wA31, wS31, wA32, wS32, wA33, wS33, wA34, wS34, wA35, wS35, wA36, wS36, wA38, wS38, wA39, wS39, wA40, wS40, wZ41, wY41, wA45, wS45, wA46, wS46, wZ47, wY47, wZ48, wY48, Nat.reduceEqDiff, reduceIte, false_and, true_and, and_true, and_self, if_false, if_true, and_false]
            refine m_goes hT (by decide) hM1 (fun k3 W2 hY2 hM2 => ?_) (fun k3 => absurd k2 k3)
            rw [if_neg (by decide)]
            have hC2 : ChR W2 J2 (c + 1) := hC1.fr (hY2.2 25 (by omega)) (fun k _ _ => by rw [hY2.1]) (fun i _ _ => by rw [e2, ju1_s, if_neg (by omega)]) (fun i _ _ => by rw [e2]; rfl)
            refine ⟨by decide, ih W2 J2 (j1 + 1) m m' (c + 1) (x + 1) (by omega) (by omega) (by omega) (by omega) (by omega) (by omega) (by omega) ((hF.trans hF1).trans hY2.c2) ((hD.trans hD1).trans (by rw [e2]; exact FrD.u (by omega))) hM2 (hJ2 (by decide)) hC2 (by omega)⟩
          · rw [if_pos rfl]
            refine ⟨by decide, ?_⟩
            unfold I12_readChanges_4 I12_readChanges_4_st
            simp only [wp_ib, wp_ig, wp_ite, wp_ir, wp_igI, wp_ipI, wp_ipZ, wp_inz, wp_idI, wp_irI, wp_iSl, wp_iSc, wp_iSi, iu1_1, iu1_2, iu2_1, iu2_2, wA0, wS0, wA6, wS6, wA7, wS7, wA8, wS8, wA9, wS9, wA10, wS10, wA11, wS11, wA12, wS12, wA13, wS13, wA14, wS14, wA16, wS16, wA17, wS17, wA18, wS18, wA26, wS26, wA27, wS27, wZ28, wY28, wA29, wS29, wA30, wS30, wA31, wS31, wA32, wS32, wA33, wS33, wA34, wS34, wA35, wS35, wA36, wS36, wA38, wS38, wA39, wS39, wA40, wS40, wZ41, wY41, wA45, wS45, wA46, wS46, wZ47, wY47, wZ48, wY48, Nat.reduceEqDiff, reduceIte, false_and, true_and, and_true, and_self, if_false, if_true, and_false]
            refine m_goes hT (by decide) hM1 (fun k3 W2 hY2 hM2 => absurd k3 k2) (fun k3 => ?_)
            rw [if_pos rfl]
            exact ⟨by decide, hs W1 J1 j1 (c + 1) (hF.trans hF1) (hD.trans hD1) hM1 hJ1 hC1 (by omega) (by omega) (by omega)⟩
        · refine ⟨by decide, ?_⟩
          rw [if_pos rfl]
          unfold I12_readChanges_4 I12_readChanges_4_st
          simp only [wp_ib, wp_ig, wp_ite, wp_ir, wp_igI, wp_ipI, wp_ipZ, wp_inz, wp_idI, wp_irI, wp_iSl, wp_iSc, wp_iSi, iu1_1, iu1_2, iu2_1, iu2_2, wA0, wS0, wA6, wS6, wA7, wS7, wA8, wS8, wA9, wS9, wA10, wS10, wA11, wS11, wA12, wS12, wA13, wS13, wA14, wS14, wA16, wS16, wA17, wS17, wA18, wS18, wA26, wS26, wA27, wS27, wZ28, wY28, wA29, wS29, wA30, wS30, wA31, wS31, wA32, wS32, wA33, wS33, wA34, wS34, wA35, wS35, wA36, wS36, wA38, wS38, wA39, wS39, wA40, wS40, wZ41, wY41, wA45, wS45, wA46, wS46, wZ47, wY47, wZ48, wY48, Nat.reduceEqDiff, reduceIte, false_and, true_and, and_true, and_self, if_false, if_true, and_false]
          refine m_goes0 hM1 ?_
          rw [if_pos rfl]
          exact ⟨by decide, hf W1 J1 j1 (hF.trans hF1) (hD.trans hD1) hM1 h5⟩
end PR2
