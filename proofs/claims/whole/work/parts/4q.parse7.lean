/-! ===== both read changes alone; both read a name ===== -/
section PR7
variable {T : Int → Int} {n : Int} {W : IS} {J : JS} {j : Nat} {c : Int}
/-- changes alone, from a text's beginning to its end -/
theorem b_chText (hC : CT J) (hT : TpR J (W.2 0) (W.1 1)) : ∃ W' r J', (∀ (K : Int → IM Int) (Q : Int → IS → Prop), wp (K r) Q W' → wp (ib I12_begins fun _ => ib (ipI 25 0) fun _ => ib I12_readChanges fun _ => ib I12_ends K) Q W) ∧ G7_readsChanges J = some (r, J') ∧ ((∀ k, k < 19 ∨ 25 < k → k ≠ 1 → k ≠ 3 → k ≠ 4 → W'.1 k = W.1 k) ∧ W'.1 4 = 0 ∧ W'.1 1 = 0 ∧ ∀ k, k < 32 ∨ 35 < k → W'.2 k = W.2 k) ∧ FrR J J' ∧ W'.1 3 = js J' 5 0 ∧ (-9 ≤ W'.1 3 ∧ W'.1 3 ≤ 120) ∧ ((r = 1 ∧ ∃ c', ChR W' J' c' ∧ (1 ≤ c' ∧ c' ≤ 60)) ∨ r = 0) := by
  have hb := hT.2.1
  have hb1 := hb.1
  obtain ⟨u, W1, e1, q1, q2, q3, hM⟩ := wp_ex (m_begins (Q := fun _ W' => W'.2 = W.2 ∧ (∀ k, k < 19 ∨ 23 < k → k ≠ 4 → W'.1 k = W.1 k) ∧ W'.1 4 = 0 ∧ Mst W' (W.2 0) (W.1 1) 1 0) hb (fun W' a b c d => ⟨a, b, c, d⟩))
  obtain ⟨u2, J1, e2, r1, r2, r3, r4⟩ := wp_ex (c_begin (Q := fun _ J' => FrR J J' ∧ Cst J' (W.2 0) (W.1 1) 0 ∧ js J' 5 0 = -9 ∧ (∀ i, 3 ≤ i → i ≤ 11 → js J' 1 i = 0)) hC hT (fun J' a b c d => ⟨a, b, c, d⟩))
  have hM2 : Mst (iu1 W1 25 0) (W.2 0) (W.1 1) 1 0 := hM.m (by omega)
  have hCh : ChR (iu1 W1 25 0) J1 0 := ⟨⟨Int.le_refl _, rfl, r4 8 (by omega) (by omega), r4 9 (by omega) (by omega), r4 10 (by omega) (by omega), r4 11 (by omega) (by omega)⟩, fun i i0 i1 => by omega⟩
  obtain ⟨W3, v, J3, a1, a2, a3⟩ := b_changes hb hM2 r2 hCh (by omega)
  -- what the model may have written
  have fr : ∀ W' : IS, FrC2 (iu1 W1 25 0) W3 → W'.2 = W3.2 → (∀ k, k ≠ 1 → k ≠ 3 → k ≠ 23 → W'.1 k = W3.1 k) → W'.1 1 = 0 → ((∀ k, k < 19 ∨ 25 < k → k ≠ 1 → k ≠ 3 → k ≠ 4 → W'.1 k = W.1 k) ∧ W'.1 4 = 0 ∧ W'.1 1 = 0 ∧ ∀ k, k < 32 ∨ 35 < k → W'.2 k = W.2 k) := by
    intro W' hF h1 h2 h3
    refine ⟨fun k k1 k2 k3 k4 => ?_, ?_, h3, fun k k1 => ?_⟩
    · rw [h2 k k2 k3 (by omega), hF.1 k k1]
      show (if k = 25 then 0 else W1.1 k) = W.1 k
      rw [if_neg (by omega)]
      exact q2 k (by omega) k4
    · rw [h2 4 (by omega) (by omega) (by omega), hF.1 4 (by omega)]
      exact q3
    · rw [h1, hF.2.2 k k1]
      show W1.2 k = W.2 k
      rw [q1]
  have run : ∀ (r : Int) (W' : IS), I12_ends W3 = some (r, W') → ∀ (K : Int → IM Int) (Q : Int → IS → Prop), wp (K r) Q W' → wp (ib I12_begins fun _ => ib (ipI 25 0) fun _ => ib I12_readChanges fun _ => ib I12_ends K) Q W := by
    intro r W' e K Q h
    rw [wp_ib, wp_ret e1, wp_ib, wp_ipI, wp_ib, wp_ret a1, wp_ib, wp_ret e]
    exact h
  rcases a3 with ⟨hv, j', c', hF, hD, hM', hJ', hC', hj', hc', _⟩ | ⟨hv, j', hF, hD, hM', h5⟩
  · have hj120 := (Cst.le hb hJ').1
    have hp := tkP_bd (T := W.2 0) (n := W.1 1) hb1.1 j'
    have h59 : js J3 5 0 = -9 := by
      have := pz_list LFU 0 J1 v J3 a2 (by omega)
      rw [this]; exact r3
    have hc0 := hC'.1.1
    by_cases ce : kdP (W.2 0) (W.1 1) (tkP (W.2 0) (W.1 1) j') = 0
    · obtain ⟨r, W', e, hr, f1, f2, f3, f4⟩ := wp_ex (m_ends (Q := fun r W' => r = 1 ∧ W'.2 = W3.2 ∧ (∀ k, k ≠ 1 → k ≠ 3 → k ≠ 23 → W'.1 k = W3.1 k) ∧ W'.1 1 = 0 ∧ W'.1 3 = -9) hb (Or.inr rfl) hM' (fun _ _ W' x1 x2 x3 x4 => ⟨rfl, x1, x2, x3, x4⟩) (fun h => by omega))
      have hw : wp G7_readsChanges (fun v J' => v = 1 ∧ ∃ x, J' = ju1 (ju1 J3 4 0 x) 3 0 ((j' : Int) + 1)) J := by
        unfold G7_readsChanges
        rw [wp_ib, wp_ret e2, wp_ib, wp_ret a2, wp_ig, wp_ite]
        rw [if_neg (by omega), wp_ib]
        refine ⟨by omega, ?_⟩
        refine c_takes hb (by decide) hJ' (fun _ => ?_) (fun k => absurd ce k)
        rw [wp_ig, wp_ite, if_neg (by decide)]
        exact ⟨by decide, rfl, _, rfl⟩
      obtain ⟨v2, J', ej, hv2, x, hx⟩ := wp_ex hw
      have h5' : js J' 5 0 = -9 := by rw [hx]; exact h59
      subst hr
      subst hv2
      refine ⟨W', 1, J', run 1 W' e, ej, fr W' hF f1 f2 f3, r1.trans (hD.q.r.trans ⟨fun t i q => ?_, fun t i q => ?_, by rw [hx]; rfl⟩), by rw [f4, h5'], by rw [f4]; decide, Or.inl ⟨rfl, c', hC'.fr (f2 25 (by omega) (by omega) (by omega)) (fun k _ _ => by rw [f1]) (fun i _ _ => ?_) (fun i _ _ => by rw [hx]; rfl), by omega, by omega⟩⟩
      · rw [hx, ju1_s, if_neg (by omega), ju1_s, if_neg (by omega)]
      · rw [hx]; rfl
      · rw [hx, ju1_s, if_neg (by omega), ju1_s, if_neg (by omega)]
    · obtain ⟨r, W', e, hr, f1, f2, f3, f4⟩ := wp_ex (m_ends (Q := fun r W' => r = 0 ∧ W'.2 = W3.2 ∧ (∀ k, k ≠ 1 → k ≠ 3 → k ≠ 23 → W'.1 k = W3.1 k) ∧ W'.1 1 = 0 ∧ W'.1 3 = tkP (W.2 0) (W.1 1) j') hb (Or.inr rfl) hM' (fun _ h => absurd h ce) (fun _ W' x1 x2 x3 x4 => ⟨rfl, x1, x2, x3, x4⟩))
      have hw : wp G7_readsChanges (fun v J' => v = 0 ∧ J' = ju1 J3 5 0 (tkP (W.2 0) (W.1 1) j')) J := by
        unfold G7_readsChanges
        rw [wp_ib, wp_ret e2, wp_ib, wp_ret a2, wp_ig, wp_ite]
        rw [if_neg (by omega), wp_ib]
        refine ⟨by omega, ?_⟩
        refine c_takes hb (by decide) hJ' (fun k => absurd k ce) (fun _ => ?_)
        rw [wp_ig, wp_ite, if_pos rfl]
        exact ⟨by decide, rfl, rfl⟩
      obtain ⟨v2, J', ej, hv2, hx⟩ := wp_ex hw
      have h5' : js J' 5 0 = tkP (W.2 0) (W.1 1) j' := by rw [hx]; rfl
      subst hr
      subst hv2
      refine ⟨W', 0, J', run 0 W' e, ej, fr W' hF f1 f2 f3, r1.trans (hD.q.r.trans ⟨fun t i q => ?_, fun t i q => ?_, by rw [hx]; rfl⟩), by rw [f4, h5'], by rw [f4]; omega, Or.inr rfl⟩
      · rw [hx, ju1_s, if_neg (by omega)]
      · rw [hx]; rfl
  · have hp := tkP_bd (T := W.2 0) (n := W.1 1) hb1.1 j'
    obtain ⟨r, W', e, hr, f1, f2, f3, f4⟩ := wp_ex (m_ends (Q := fun r W' => r = 0 ∧ W'.2 = W3.2 ∧ (∀ k, k ≠ 1 → k ≠ 3 → k ≠ 23 → W'.1 k = W3.1 k) ∧ W'.1 1 = 0 ∧ W'.1 3 = tkP (W.2 0) (W.1 1) j') hb (Or.inl rfl) hM' (fun h => by omega) (fun _ W' x1 x2 x3 x4 => ⟨rfl, x1, x2, x3, x4⟩))
    have hw : wp G7_readsChanges (fun v J' => v = 0 ∧ J' = J3) J := by
      unfold G7_readsChanges
      rw [wp_ib, wp_ret e2, wp_ib, wp_ret a2, wp_ig, wp_ite]
      rw [if_pos hv]
      exact ⟨by omega, rfl, rfl⟩
    obtain ⟨v2, J', ej, hv2, hx⟩ := wp_ex hw
    subst hx
    subst hr
    subst hv2
    exact ⟨W', 0, J', run 0 W' e, ej, fr W' hF f1 f2 f3, r1.trans hD.q.r, by rw [f4, h5], by rw [f4]; omega, Or.inr rfl⟩
/-- a name, read -/
def rdN (T : Int → Int) (n : Int) (j : Nat) : Nat × Option (Int × Int × Int) :=
  if kdP T n (tkP T n j) ≠ 1 then (j, none) else if kdP T n (tkP T n (j + 1)) ≠ 2 then (j + 1, none)
  else if kdP T n (tkP T n (j + 2)) ≠ 43 then (j + 2, some (vlP T n (tkP T n j), vlP T n (tkP T n (j + 1)), -1))
  else if kdP T n (tkP T n (j + 3)) ≠ 2 then (j + 3, none)
  else (j + 4, some (vlP T n (tkP T n j), vlP T n (tkP T n (j + 1)), vlP T n (tkP T n (j + 3))))
/-- the model's numbers 19 .. 23 and 42 .. 44 may be written -/
def FrN (W W' : IS) : Prop := W'.2 = W.2 ∧ ∀ k, k < 19 ∨ (23 < k ∧ k < 42) ∨ 44 < k → W'.1 k = W.1 k
def nmB (W : IS) (s i b : Int) : Prop := (W.1 42 = s ∧ W.1 43 = i ∧ W.1 44 = b) ∧ (0 ≤ s ∧ s ≤ 70) ∧ (0 ≤ i ∧ i ≤ 999) ∧ (-1 ≤ b ∧ b ≤ 999)
theorem FrN.trans {W1 W2 W3 : IS} (h : FrN W1 W2) (h' : FrN W2 W3) : FrN W1 W3 := ⟨h'.1.trans h.1, fun k q => (h'.2 k q).trans (h.2 k q)⟩
theorem FrN.refl : FrN W W := ⟨rfl, fun _ _ => rfl⟩
theorem FrY.nm {W' : IS} (h : FrY W W') : FrN W W' := ⟨h.1, fun k q => h.2 k (by omega)⟩
theorem FrN.u {k : Nat} {x : Int} (h : 42 ≤ k ∧ k ≤ 44) : FrN W (iu1 W k x) := ⟨rfl, fun k' q => if_neg (by omega)⟩
/-- no more is taken where one was wrong -/
theorem m_readName0 (hM : Mst W T n 0 j) {Q : Unit → IS → Prop} (hf : ∀ W', FrN W W' → Mst W' T n 0 j → nmB W' 0 0 (-1) → Q () W') : wp I12_readName Q W := by
  unfold I12_readName
  simp only [wp_ib, wp_ig, wp_ite, wp_ir, wp_igI, wp_ipI, wp_ipZ, wp_inz, wp_idI, wp_irI, wp_iSl, wp_iSc, wp_iSi, iu1_1, iu1_2, iu2_1, iu2_2, wA0, wS0, wA6, wS6, wA7, wS7, wA8, wS8, wA9, wS9, wA10, wS10, wA11, wS11, wA12, wS12, wA13, wS13, wA14, wS14, wA16, wS16, wA17, wS17, wA18, wS18, wA26, wS26, wA27, wS27, wZ28, wY28, wA29, wS29, wA30, wS30, wA31, wS31, wA32, wS32, wA33, wS33, wA34, wS34, wA35, wS35, wA36, wS36, wA38, wS38, wA39, wS39, wA40, wS40, wZ41, wY41, wA45, wS45, wA46, wS46, wZ47, wY47, wZ48, wY48, Nat.reduceEqDiff, reduceIte, false_and, true_and, and_true, and_self, if_false, if_true, and_false]
  refine m_take0 hM fun W1 h1 hM1 => ?_
  refine m_take0 (hM1.m (by omega)) fun W2 h2 hM2 => ?_
  refine m_goes0 (hM2.m (by omega)) ?_
  rw [if_pos rfl]
  refine ⟨by decide, hf _ (((h1.nm.trans (FrN.u (by omega))).trans (h2.nm.trans (FrN.u (by omega)))).trans (FrN.u (by omega))) ((hM2.m (by omega)).m (by omega)) ⟨⟨?_, rfl, rfl⟩, by decide, by decide, by decide⟩⟩
  rw [iu1_1, if_neg (by decide), iu1_1, if_neg (by decide), h2.2 42 (by omega)]
  rfl
theorem m_readName (hT : byt T n) (hM : Mst W T n 1 j) {Q : Unit → IS → Prop}
    (hs : ∀ W' j' s i b, rdN T n j = (j', some (s, i, b)) → j + 2 ≤ j' → FrN W W' → Mst W' T n 1 j' → nmB W' s i b → Q () W')
    (hf : ∀ W' j' s i b, rdN T n j = (j', none) → FrN W W' → Mst W' T n 0 j' → nmB W' s i b → Q () W') : wp I12_readName Q W := by
  unfold rdN at hs hf
  unfold I12_readName
  simp only [wp_ib, wp_ig, wp_ite, wp_ir, wp_igI, wp_ipI, wp_ipZ, wp_inz, wp_idI, wp_irI, wp_iSl, wp_iSc, wp_iSi, iu1_1, iu1_2, iu2_1, iu2_2, wA0, wS0, wA6, wS6, wA7, wS7, wA8, wS8, wA9, wS9, wA10, wS10, wA11, wS11, wA12, wS12, wA13, wS13, wA14, wS14, wA16, wS16, wA17, wS17, wA18, wS18, wA26, wS26, wA27, wS27, wZ28, wY28, wA29, wS29, wA30, wS30, wA31, wS31, wA32, wS32, wA33, wS33, wA34, wS34, wA35, wS35, wA36, wS36, wA38, wS38, wA39, wS39, wA40, wS40, wZ41, wY41, wA45, wS45, wA46, wS46, wZ47, wY47, wZ48, wY48, Nat.reduceEqDiff, reduceIte, false_and, true_and, and_true, and_self, if_false, if_true, and_false]
  refine m_take hT (Or.inl ⟨rfl, rfl⟩) hM (fun k1 W1 h1 hM1 => ?_) (fun k1 W1 h1 hM1 => ?_)
  · rw [if_neg (fun q => q k1)] at hs hf
    have hv1 := vl1 k1
    generalize vlP T n (tkP T n j) = s at hs hf hv1 ⊢
    refine m_take hT (Or.inr ⟨rfl, rfl⟩) (hM1.m (by omega)) (fun k2 W2 h2 hM2 => ?_) (fun k2 W2 h2 hM2 => ?_)
    · rw [if_neg (fun q => q k2)] at hs hf
      have hv2 := vl2 hT (tkP_bd (T := T) (n := n) hT.1.1 (j + 1)).1 k2
      generalize vlP T n (tkP T n (j + 1)) = i at hs hf hv2 ⊢
      have s2 : W2.1 42 = s := by rw [h2.2 42 (by omega)]; rfl
      have f2 : FrN W W2 := (h1.nm.trans (FrN.u (by omega))).trans h2.nm
      refine m_goes hT (by omega) (hM2.m (by omega)) (fun k3 W3 h3 hM3 => ?_) (fun k3 => ?_)
      · rw [if_neg (fun q => q k3)] at hs hf
        rw [if_neg (by decide)]
        have s3 : W3.1 42 = s ∧ W3.1 43 = i := by
          rw [h3.2 42 (by omega), h3.2 43 (by omega)]
          exact ⟨s2, rfl⟩
        have f3 : FrN W W3 := (f2.trans (FrN.u (by omega))).trans h3.nm
        refine ⟨by decide, m_take hT (Or.inr ⟨rfl, rfl⟩) hM3 (fun k4 W4 h4 hM4 => ?_) (fun k4 W4 h4 hM4 => ?_)⟩
        · rw [if_neg (fun q => q k4)] at hs
          have hv4 := vl2 hT (tkP_bd (T := T) (n := n) hT.1.1 (j + 3)).1 k4
          generalize vlP T n (tkP T n (j + 3)) = b at hs hv4 ⊢
          refine hs _ _ _ _ _ rfl (by omega) ((f3.trans h4.nm).trans (FrN.u (by omega))) (hM4.m (by omega)) ⟨⟨?_, ?_, rfl⟩, hv1, hv2, by omega⟩
          · rw [iu1_1, if_neg (by decide), h4.2 42 (by omega)]
            exact s3.1
          · rw [iu1_1, if_neg (by decide), h4.2 43 (by omega)]
            exact s3.2
        · rw [if_pos k4] at hf
          refine hf _ _ s i 0 rfl ((f3.trans h4.nm).trans (FrN.u (by omega))) (hM4.m (by omega)) ⟨⟨?_, ?_, rfl⟩, hv1, hv2, by decide⟩
          · rw [iu1_1, if_neg (by decide), h4.2 42 (by omega)]
            exact s3.1
          · rw [iu1_1, if_neg (by decide), h4.2 43 (by omega)]
            exact s3.2
      · rw [if_pos k3] at hs
        rw [if_pos rfl]
        refine ⟨by decide, hs _ _ _ _ _ rfl (by omega) ((f2.trans (FrN.u (by omega))).trans (FrN.u (by omega))) ((hM2.m (by omega)).m (by omega)) ⟨⟨?_, rfl, rfl⟩, hv1, hv2, by decide⟩⟩
        rw [iu1_1, if_neg (by decide), iu1_1, if_neg (by decide)]
        exact s2
    · rw [if_pos k2] at hf
      refine m_goes0 (hM2.m (by omega)) ?_
      rw [if_pos rfl]
      refine ⟨by decide, hf _ _ s 0 (-1) rfl ((((h1.nm.trans (FrN.u (by omega))).trans h2.nm).trans (FrN.u (by omega))).trans (FrN.u (by omega))) ((hM2.m (by omega)).m (by omega)) ⟨⟨?_, rfl, rfl⟩, hv1, by decide, by decide⟩⟩
      rw [iu1_1, if_neg (by decide), iu1_1, if_neg (by decide), h2.2 42 (by omega)]
      rfl
  · rw [if_pos k1] at hf
    refine m_take0 (hM1.m (by omega)) fun W2 h2 hM2 => ?_
    refine m_goes0 (hM2.m (by omega)) ?_
    rw [if_pos rfl]
    refine ⟨by decide, hf _ _ 0 0 (-1) rfl ((((h1.nm.trans (FrN.u (by omega))).trans h2.nm).trans (FrN.u (by omega))).trans (FrN.u (by omega))) ((hM2.m (by omega)).m (by omega)) ⟨⟨?_, rfl, rfl⟩, by decide, by decide, by decide⟩⟩
    rw [iu1_1, if_neg (by decide), iu1_1, if_neg (by decide), h2.2 42 (by omega)]
    rfl
/-- the class reads a name; its rows 8 .. 11 hold mark, sign, number, what is put in behind -/
theorem c_readsOneName (hT : byt T n) {mk : Int} (hmk : mk = 0 ∨ mk = 45) (hc : 0 ≤ c ∧ c < 120) (hJ : Cst J T n j) (hl : js J 1 8 = c ∧ js J 1 9 = c ∧ js J 1 10 = c ∧ js J 1 11 = c) {Q : Int → JS → Prop}
    (hs : ∀ J' j' s i b, rdN T n j = (j', some (s, i, b)) → j + 2 ≤ j' → FrD J J' → Cst J' T n j' → (js J' 1 8 = c + 1 ∧ js J' 1 9 = c + 1 ∧ js J' 1 10 = c + 1 ∧ js J' 1 11 = c + 1) → (∀ l, ja J' 1 8 l = if l = c then mk else ja J 1 8 l) → (∀ l, ja J' 1 9 l = if l = c then s else ja J 1 9 l) → (∀ l, ja J' 1 10 l = if l = c then i else ja J 1 10 l) → (∀ l, ja J' 1 11 l = if l = c then b else ja J 1 11 l) → Q 1 J')
    (hf : ∀ J' j', rdN T n j = (j', none) → FrD J J' → js J' 5 0 = tkP T n j' → Q 0 J') : wp (G7_readsOneName mk) Q J := by
  unfold rdN at hs hf
  obtain ⟨l8, l9, l10, l11⟩ := hl
  have last : ∀ (J1 : JS) (j' : Nat) (b : Int), j + 2 ≤ j' → (-1 ≤ b ∧ b ≤ 999) → FrD J J1 → Cst J1 T n j' → (js J1 1 8 = c ∧ js J1 1 9 = c + 1 ∧ js J1 1 10 = c + 1 ∧ js J1 1 11 = c) → (ja J1 1 8 = ja J 1 8 ∧ (∀ l, ja J1 1 9 l = if l = c then vlP T n (tkP T n j) else ja J 1 9 l) ∧ (∀ l, ja J1 1 10 l = if l = c then vlP T n (tkP T n (j + 1)) else ja J 1 10 l) ∧ ja J1 1 11 = ja J 1 11) → (∀ J', FrD J J' → Cst J' T n j' → (js J' 1 8 = c + 1 ∧ js J' 1 9 = c + 1 ∧ js J' 1 10 = c + 1 ∧ js J' 1 11 = c + 1) → (∀ l, ja J' 1 8 l = if l = c then mk else ja J 1 8 l) → (∀ l, ja J' 1 9 l = if l = c then vlP T n (tkP T n j) else ja J 1 9 l) → (∀ l, ja J' 1 10 l = if l = c then vlP T n (tkP T n (j + 1)) else ja J 1 10 l) → (∀ l, ja J' 1 11 l = if l = c then b else ja J 1 11 l) → Q 1 J') → wp (G7_readsOneName_90 mk b 11) Q J1 := by
    intro J1 j' b hj' hb hD hJ1 hl ha hq
    obtain ⟨m8, m9, m10, m11⟩ := hl
    obtain ⟨a8, a9, a10, a11⟩ := ha
    unfold G7_readsOneName_90
    simp only [wp_ib, wp_ig, wp_ite, jp_ret, jp_nz, jp_dI, jp_rI, jp_g9, jp_E, jpN1, jp_Bk, jp_Ck, jp_W, jp_R, jp_Tx, jp_Sl, jp_Sc, jp_Si, jp_Sq, jp_Xl, jp_X0, jp_Xc, jp_Xs, jp_Xi, jp_Tos, jp_NB, jp_NC, kj_1, kj_2, kj_3, kj_4, jpA1, jpS1, jp_con, ju1_s, ju1_a, ju2_s, ju2_a, juA_s, juA_a, jux_s, jux_a, jux_x, jux_t, ju1_jB, ju2_jB, juA_jB, ju1_jC, ju2_jC, juA_jC, ju1_jT, ju2_jT, juA_jT, ju1_jb, ju2_jb, juA_jb, ju1_jd, ju2_jd, juA_jd, ju1_jt, ju2_jt, juA_jt, ju1_jx, ju2_jx, juA_jx, ju1_jw, ju2_jw, juA_jw, ju1_jr, ju2_jr, juA_jr, ju1_jn, ju2_jn, juA_jn, jux_jB, jux_jC, jux_jT, jux_jb, jux_jd, jux_jw, jux_jr, jux_jn, jG2, jP2, jG3, jP3, jG4, jP4, jG5, jP5, jG8, jP8, jG9, jP9, jG10, jP10, jG11, jP11, jG1, jP1, jG6, jP6, jG7, jP7, jG12, jP12, wj2, wk2, wn2, wj3, wk3, wn3, wj4, wk4, wn4, wj5, wk5, wn5, wj6, wk6, wn6, wj7, wk7, wn7, wj8, wk8, wn8, wj9, wk9, wn9, wj10, wk10, wn10, Nat.reduceEqDiff, reduceIte, false_and, true_and, and_true, and_self, if_false, if_true, and_false]
    refine ⟨by omega, c_addV (by omega) (by omega) (by omega) fun J2 e2 => ?_⟩
    have e28 : js J2 1 8 = c := by rw [e2]; exact m8
    refine c_addV (by omega) (by omega) (by omega) fun J3 e3 => ?_
    refine hq J3 (by rw [e3, e2]; exact hD.trans ((FrD.add (by omega)).trans (FrD.add (by omega)))) (by rw [e3, e2]; exact hJ1.f ((FrQ.add (by omega)).trans (FrQ.add (by omega))) rfl) ⟨?_, ?_, ?_, ?_⟩ (fun l => ?_) (fun l => ?_) (fun l => ?_) (fun l => ?_)
    · rw [e3]; show js J2 1 8 + 1 = c + 1; omega
    · rw [e3, e2]; exact m9
    · rw [e3, e2]; exact m10
    · rw [e3, e2]; show js J1 1 11 + 1 = c + 1; omega
    · rw [e3, addR_a, e28, e2, addR_a, a8]
      simp only [Nat.reduceEqDiff, and_false, true_and, false_and, if_false]
    · rw [e3, addR_a, e2, addR_a, ← a9]
      simp only [Nat.reduceEqDiff, and_false, true_and, false_and, if_false]
    · rw [e3, addR_a, e2, addR_a, ← a10]
      simp only [Nat.reduceEqDiff, and_false, true_and, false_and, if_false]
    · rw [e3, addR_a, e2, addR_a, m11, a11]
      simp only [Nat.reduceEqDiff, and_false, true_and, false_and, if_false]
  unfold G7_readsOneName
  simp only [wp_ib, wp_ig, wp_ite, jp_ret, jp_nz, jp_dI, jp_rI, jp_g9, jp_E, jpN1, jp_Bk, jp_Ck, jp_W, jp_R, jp_Tx, jp_Sl, jp_Sc, jp_Si, jp_Sq, jp_Xl, jp_X0, jp_Xc, jp_Xs, jp_Xi, jp_Tos, jp_NB, jp_NC, kj_1, kj_2, kj_3, kj_4, jpA1, jpS1, jp_con, ju1_s, ju1_a, ju2_s, ju2_a, juA_s, juA_a, jux_s, jux_a, jux_x, jux_t, ju1_jB, ju2_jB, juA_jB, ju1_jC, ju2_jC, juA_jC, ju1_jT, ju2_jT, juA_jT, ju1_jb, ju2_jb, juA_jb, ju1_jd, ju2_jd, juA_jd, ju1_jt, ju2_jt, juA_jt, ju1_jx, ju2_jx, juA_jx, ju1_jw, ju2_jw, juA_jw, ju1_jr, ju2_jr, juA_jr, ju1_jn, ju2_jn, juA_jn, jux_jB, jux_jC, jux_jT, jux_jb, jux_jd, jux_jw, jux_jr, jux_jn, jG2, jP2, jG3, jP3, jG4, jP4, jG5, jP5, jG8, jP8, jG9, jP9, jG10, jP10, jG11, jP11, jG1, jP1, jG6, jP6, jG7, jP7, jG12, jP12, wj2, wk2, wn2, wj3, wk3, wn3, wj4, wk4, wn4, wj5, wk5, wn5, wj6, wk6, wn6, wj7, wk7, wn7, wj8, wk8, wn8, wj9, wk9, wn9, wj10, wk10, wn10, Nat.reduceEqDiff, reduceIte, false_and, true_and, and_true, and_self, if_false, if_true, and_false]
  refine c_takeV hT (by decide) hJ (fun k1 J1 e1 hJ1 => ?_) (fun k1 J1 e1 => ?_)
  · rw [if_neg (fun q => q k1)] at hs hf
    have hv1 := vl1 k1
    have hJ1 := hJ1 (by decide)
    have e14 : js J1 4 0 = vlP T n (tkP T n j) := by rw [e1]; rfl
    have e19 : js J1 1 9 = c := by rw [e1]; exact l9
    rw [if_neg (by decide), e14]
    refine ⟨by decide, c_addV (by omega) (by omega) (by omega) fun J3 e3 => ?_⟩
    have hJ3 : Cst J3 T n (j + 1) := by rw [e3]; exact hJ1.f (FrQ.add (by omega)) rfl
    have hD3 : FrD J J3 := by rw [e3, e1]; exact ((FrD.u (by omega)).trans (FrD.u (by omega))).trans (FrD.add (by omega))
    have s3 : js J3 1 8 = c ∧ js J3 1 9 = c + 1 ∧ js J3 1 10 = c ∧ js J3 1 11 = c := by
      rw [e3]
      refine ⟨by rw [e1]; exact l8, by show js J1 1 9 + 1 = c + 1; omega, by rw [e1]; exact l10, by rw [e1]; exact l11⟩
    have a9 : ∀ l, ja J3 1 9 l = if l = c then vlP T n (tkP T n j) else ja J 1 9 l := fun l => by
      rw [e3, addR_a, e19, e1]
      simp only [true_and]
      rfl
    have b3 : ja J3 1 8 = ja J 1 8 ∧ ja J3 1 10 = ja J 1 10 ∧ ja J3 1 11 = ja J 1 11 := by
      rw [e3, e1]
      refine ⟨?_, ?_, ?_⟩ <;> (funext l; simp only [addR_a, Nat.reduceEqDiff, and_false, false_and, if_false]; rfl)
    refine c_takeV hT (by decide) hJ3 (fun k2 J4 e4 hJ4 => ?_) (fun k2 J4 e4 => ?_)
    · rw [if_neg (fun q => q k2)] at hs hf
      have hv2 := vl2 hT (tkP_bd (T := T) (n := n) hT.1.1 (j + 1)).1 k2
      have hJ4 := hJ4 (by decide)
      have e44 : js J4 4 0 = vlP T n (tkP T n (j + 1)) := by rw [e4]; rfl
      have e410 : js J4 1 10 = c := by rw [e4]; exact s3.2.2.1
      rw [if_neg (by decide), e44]
      refine ⟨by decide, c_addV (by omega) (by omega) (by omega) fun J5 e5 => ?_⟩
      have hJ5 : Cst J5 T n (j + 2) := by rw [e5]; exact hJ4.f (FrQ.add (by omega)) rfl
      have hD5 : FrD J J5 := by rw [e5, e4]; exact hD3.trans (((FrD.u (by omega)).trans (FrD.u (by omega))).trans (FrD.add (by omega)))
      have s5 : js J5 1 8 = c ∧ js J5 1 9 = c + 1 ∧ js J5 1 10 = c + 1 ∧ js J5 1 11 = c := by
        rw [e5]
        exact ⟨by rw [e4]; exact s3.1, by rw [e4]; exact s3.2.1, by show js J4 1 10 + 1 = c + 1; omega, by rw [e4]; exact s3.2.2.2⟩
      have b5 : ja J5 1 8 = ja J 1 8 ∧ (∀ l, ja J5 1 9 l = if l = c then vlP T n (tkP T n j) else ja J 1 9 l) ∧ (∀ l, ja J5 1 10 l = if l = c then vlP T n (tkP T n (j + 1)) else ja J 1 10 l) ∧ ja J5 1 11 = ja J 1 11 := by
        refine ⟨?_, fun l => ?_, fun l => ?_, ?_⟩
        · rw [e5, e4, ← b3.1]; funext l; simp only [addR_a, Nat.reduceEqDiff, and_false, false_and, if_false]; rfl
        · rw [e5, e4, ← a9 l]; simp only [addR_a, Nat.reduceEqDiff, and_false, false_and, if_false]; rfl
        · rw [e5, addR_a, e410, e4]
          simp only [true_and]
          show (if l = c then _ else ja J3 1 10 l) = _
          rw [b3.2.1]
        · rw [e5, e4, ← b3.2.2]; funext l; simp only [addR_a, Nat.reduceEqDiff, and_false, false_and, if_false]; rfl
      refine c_skipV hT (by decide) hJ5 (fun k3 J6 e6 hJ6 => ?_) (fun k3 => ?_)
      · rw [if_neg (fun q => q k3)] at hs hf
        have hJ6 := hJ6 (by decide)
        rw [if_neg (by decide)]
        refine ⟨by decide, c_takeV hT (by decide) hJ6 (fun k4 J7 e7 hJ7 => ?_) (fun k4 J7 e7 => ?_)⟩
        · rw [if_neg (fun q => q k4)] at hs
          have hv4 := vl2 hT (tkP_bd (T := T) (n := n) hT.1.1 (j + 3)).1 k4
          have hD7 : FrD J J7 := by rw [e7, e6]; exact hD5.trans ((FrD.u (by omega)).trans ((FrD.u (by omega)).trans (FrD.u (by omega))))
          have e74 : js J7 4 0 = vlP T n (tkP T n (j + 3)) := by rw [e7]; rfl
          rw [if_neg (by decide)]
          refine ⟨by decide, ?_⟩
          unfold G7_readsOneName_71
          simp only [wp_ib, wp_ig, wp_ite, jp_ret, jp_nz, jp_dI, jp_rI, jp_g9, jp_E, jpN1, jp_Bk, jp_Ck, jp_W, jp_R, jp_Tx, jp_Sl, jp_Sc, jp_Si, jp_Sq, jp_Xl, jp_X0, jp_Xc, jp_Xs, jp_Xi, jp_Tos, jp_NB, jp_NC, kj_1, kj_2, kj_3, kj_4, jpA1, jpS1, jp_con, ju1_s, ju1_a, ju2_s, ju2_a, juA_s, juA_a, jux_s, jux_a, jux_x, jux_t, ju1_jB, ju2_jB, juA_jB, ju1_jC, ju2_jC, juA_jC, ju1_jT, ju2_jT, juA_jT, ju1_jb, ju2_jb, juA_jb, ju1_jd, ju2_jd, juA_jd, ju1_jt, ju2_jt, juA_jt, ju1_jx, ju2_jx, juA_jx, ju1_jw, ju2_jw, juA_jw, ju1_jr, ju2_jr, juA_jr, ju1_jn, ju2_jn, juA_jn, jux_jB, jux_jC, jux_jT, jux_jb, jux_jd, jux_jw, jux_jr, jux_jn, jG2, jP2, jG3, jP3, jG4, jP4, jG5, jP5, jG8, jP8, jG9, jP9, jG10, jP10, jG11, jP11, jG1, jP1, jG6, jP6, jG7, jP7, jG12, jP12, wj2, wk2, wn2, wj3, wk3, wn3, wj4, wk4, wn4, wj5, wk5, wn5, wj6, wk6, wn6, wj7, wk7, wn7, wj8, wk8, wn8, wj9, wk9, wn9, wj10, wk10, wn10, Nat.reduceEqDiff, reduceIte, false_and, true_and, and_true, and_self, if_false, if_true, and_false]
          rw [if_neg (by decide), e74]
          refine ⟨by decide, last J7 (j + 4) (vlP T n (tkP T n (j + 3))) (by omega) (by omega) hD7 (hJ7 (by decide)) (by rw [e7, e6]; exact s5) (by rw [e7, e6]; exact b5) (fun J' q1 q2 q3 q4 q5 q6 q7 => hs J' _ _ _ _ rfl (by omega) q1 q2 q3 q4 q5 q6 q7)⟩
        · rw [if_pos k4] at hf
          rw [if_pos rfl]
          exact ⟨by decide, hf J7 _ rfl (by rw [e7, e6]; exact hD5.trans ((FrD.u (by omega)).trans (FrD.u (by omega)))) (by rw [e7]; rfl)⟩
      · rw [if_pos k3] at hs
        rw [if_pos rfl]
        refine ⟨by decide, ?_⟩
        unfold G7_readsOneName_71
        simp only [wp_ib, wp_ig, wp_ite, jp_ret, jp_nz, jp_dI, jp_rI, jp_g9, jp_E, jpN1, jp_Bk, jp_Ck, jp_W, jp_R, jp_Tx, jp_Sl, jp_Sc, jp_Si, jp_Sq, jp_Xl, jp_X0, jp_Xc, jp_Xs, jp_Xi, jp_Tos, jp_NB, jp_NC, kj_1, kj_2, kj_3, kj_4, jpA1, jpS1, jp_con, ju1_s, ju1_a, ju2_s, ju2_a, juA_s, juA_a, jux_s, jux_a, jux_x, jux_t, ju1_jB, ju2_jB, juA_jB, ju1_jC, ju2_jC, juA_jC, ju1_jT, ju2_jT, juA_jT, ju1_jb, ju2_jb, juA_jb, ju1_jd, ju2_jd, juA_jd, ju1_jt, ju2_jt, juA_jt, ju1_jx, ju2_jx, juA_jx, ju1_jw, ju2_jw, juA_jw, ju1_jr, ju2_jr, juA_jr, ju1_jn, ju2_jn, juA_jn, jux_jB, jux_jC, jux_jT, jux_jb, jux_jd, jux_jw, jux_jr, jux_jn, jG2, jP2, jG3, jP3, jG4, jP4, jG5, jP5, jG8, jP8, jG9, jP9, jG10, jP10, jG11, jP11, jG1, jP1, jG6, jP6, jG7, jP7, jG12, jP12, wj2, wk2, wn2, wj3, wk3, wn3, wj4, wk4, wn4, wj5, wk5, wn5, wj6, wk6, wn6, wj7, wk7, wn7, wj8, wk8, wn8, wj9, wk9, wn9, wj10, wk10, wn10, Nat.reduceEqDiff, reduceIte, false_and, true_and, and_true, and_self, if_false, if_true, and_false]
        exact ⟨by decide, last J5 (j + 2) (-1) (by omega) (by omega) hD5 hJ5 s5 b5 (fun J' q1 q2 q3 q4 q5 q6 q7 => hs J' _ _ _ _ rfl (by omega) q1 q2 q3 q4 q5 q6 q7)⟩
    · rw [if_pos k2] at hf
      rw [if_pos rfl]
      exact ⟨by decide, hf J4 _ rfl (by rw [e4]; exact hD3.trans (FrD.u (by omega))) (by rw [e4]; rfl)⟩
  · rw [if_pos k1] at hf
    rw [if_pos rfl]
    exact ⟨by decide, hf J1 _ rfl (by rw [e1]; exact FrD.u (by omega)) (by rw [e1]; rfl)⟩
end PR7
