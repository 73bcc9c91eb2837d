/-! ===== find ===== -/
section FND
variable {W : IS} {J : JS}
theorem s_run {W' : IS} {x x' : IM Int} {y : JM Int} (h : ∀ Q, wp x' Q W' → wp x Q W) (h2 : SQ x' y W' J) : SQ x y W J := by
  refine ⟨trivial, ?_⟩
  have := h2.2
  unfold Sm2 at this ⊢
  exact h _ this
theorem FrD.g3 {J1 J2 : JS} {x y : Int} (h : J2 = ju1 (ju1 J1 4 0 x) 3 0 y) : FrD J1 J2 := by
  rw [h]
  exact (FrD.u (by omega)).trans (FrD.u (by omega))
/-- what is there behind a text that was read without a book -/
theorem Inv.rd2 {W2 : IS} {J2 : JS} (hI : Inv W J) (fR : FrR (ju1 J 10 0 0) J2) (hw : ∀ k, k ≤ 18 → W2.2 k = W.2 k) (h1 : W2.1 1 = 0) (h4 : W2.1 4 = 0) (hk : ∀ k, k = 2 ∨ k = 5 ∨ k = 15 → W2.1 k = W.1 k) (h3 : W2.1 3 = js J2 5 0) : Inv W2 (ju1 J2 2 0 0) := by
  have q : ∀ t, t = 8 ∨ t = 9 ∨ t = 11 → js (ju1 J2 2 0 0) t 0 = js J t 0 := fun t ht => by
    rw [ju1_s, if_neg (by omega), fR.1 t 0 (by omega), ju1_s, if_neg (by omega)]
  refine hI.rd (((JKp.u (by omega)).trans fR.kp).trans (JKp.u (by omega))) fR.2.2 ⟨q 8 (by omega), q 9 (by omega)⟩ (WKp.same fun k hk => hw k (by omega)) h1 ?_ (hk 5 (by omega)) (hk 15 (by omega)) ?_ ?_ ?_
  · rw [q 11 (by omega), hk 2 (by omega), hI.2.2.2.2.1.2.2]
  · rw [ju1_s, if_neg (by omega), h3]
  · rw [ju1_s, if_neg (by omega), fR.1 10 0 (by omega), ju1_s, if_pos ⟨rfl, rfl⟩, h4]
  · rw [ju1_s, if_pos ⟨rfl, rfl⟩]
theorem b_begins (hI : Inv W J) : ∃ W1 J1, I12_begins W = some ((), W1) ∧ G7_begin (ju1 J 10 0 0) = some ((), J1) ∧ byt (W.2 0) (W.1 1) ∧ W1.2 = W.2 ∧ (∀ k, k < 19 ∨ 23 < k → k ≠ 4 → W1.1 k = W.1 k) ∧ W1.1 4 = 0 ∧ Mst W1 (W.2 0) (W.1 1) 1 0 ∧ FrR (ju1 J 10 0 0) J1 ∧ Cst J1 (W.2 0) (W.1 1) 0 ∧ js J1 5 0 = -9 ∧ (∀ i, 3 ≤ i → i ≤ 11 → js J1 1 i = 0) := by
  have hT0 : TpR (ju1 J 10 0 0) (W.2 0) (W.1 1) := hI.2.1.eq (by rw [ju1_s, if_neg (by omega)]) rfl
  obtain ⟨u, W1, e1, q1, q2, q3, hM⟩ := wp_ex (m_begins (Q := fun _ W' => W'.2 = W.2 ∧ (∀ k, k < 19 ∨ 23 < k → k ≠ 4 → W'.1 k = W.1 k) ∧ W'.1 4 = 0 ∧ Mst W' (W.2 0) (W.1 1) 1 0) hT0.2.1 (fun W' a b c d => ⟨a, b, c, d⟩))
  obtain ⟨u2, J1, e2, r1, r2, r3, r4⟩ := wp_ex (c_begin (J := ju1 J 10 0 0) (Q := fun _ J' => FrR (ju1 J 10 0 0) J' ∧ Cst J' (W.2 0) (W.1 1) 0 ∧ js J' 5 0 = -9 ∧ (∀ i, 3 ≤ i → i ≤ 11 → js J' 1 i = 0)) (hI.1.r rfl) hT0 (fun J' a b c d => ⟨a, b, c, d⟩))
  exact ⟨W1, J1, e1, e2, hT0.2.1, q1, q2, q3, hM, r1, r2, r3, r4⟩
theorem b_nmText (hI : Inv W J) : ∃ r W2 J2, (∀ (K : Int → IM Int) (Q : Int → IS → Prop), wp (K r) Q W2 → wp (ib I12_begins fun _ => ib I12_readName fun _ => ib I12_ends K) Q W) ∧ G7_readsName (ju1 J 10 0 0) = some (r, J2) ∧ J2.2.2 = J.2.2 ∧ Inv W2 (ju1 J2 2 0 0) ∧ (r = 0 ∨ (r = 1 ∧ ∃ s i b, nmB W2 s i b ∧ G8_get 9 0 (ju1 J2 2 0 0) = some (s, ju1 J2 2 0 0) ∧ G8_get 10 0 (ju1 J2 2 0 0) = some (i, ju1 J2 2 0 0) ∧ G8_get 11 0 (ju1 J2 2 0 0) = some (b, ju1 J2 2 0 0))) := by
  obtain ⟨W1, J1, e1, e2, hb, q1, q2, q3, hM, r1, r2, r3, r4⟩ := b_begins hI
  obtain ⟨W3, v, J3, a1, a2, fN, fD, s, i, b, hn, hv⟩ := b_name (c := 0) (mk := 0) hb (Or.inl rfl) (by omega) hM r2 ⟨r4 8 (by omega) (by omega), r4 9 (by omega) (by omega), r4 10 (by omega) (by omega), r4 11 (by omega) (by omega)⟩
  have run : ∀ (r : Int) (W' : IS), I12_ends W3 = some (r, W') → ∀ (K : Int → IM Int) (Q : Int → IS → Prop), wp (K r) Q W' → wp (ib I12_begins fun _ => ib I12_readName fun _ => ib I12_ends K) Q W := by
    intro r W' e K Q h
    rw [wp_ib, wp_ret e1, wp_ib, wp_ret a1, wp_ib, wp_ret e]
    exact h
  have fr : ∀ W' : IS, W'.2 = W3.2 → (∀ k, k ≠ 1 → k ≠ 3 → k ≠ 23 → W'.1 k = W3.1 k) → (∀ k, k ≤ 18 → W'.2 k = W.2 k) ∧ W'.1 4 = 0 ∧ (∀ k, k = 2 ∨ k = 5 ∨ k = 15 → W'.1 k = W.1 k) ∧ nmB W' s i b := by
    intro W' h1 h2
    refine ⟨fun k hk => by rw [h1, fN.1, q1], ?_, fun k hk => ?_, ?_⟩
    · rw [h2 4 (by omega) (by omega) (by omega), fN.2 4 (by omega), q3]
    · rw [h2 k (by omega) (by omega) (by omega), fN.2 k (by omega), q2 k (by omega) (by omega)]
    · unfold nmB at hn ⊢
      rw [h2 42 (by omega) (by omega) (by omega), h2 43 (by omega) (by omega) (by omega), h2 44 (by omega) (by omega) (by omega)]
      exact hn
  rcases hv with ⟨hv, j', hM3, hJ3, hj, hl, h8, h9, h10, h11⟩ | ⟨hv, j', hM3, h5⟩
  · have h59 : js J3 5 0 = -9 := (pz_name 0 J1 v J3 a2 (by omega)).trans r3
    obtain ⟨r, W', e, f1, f2, f3, f4⟩ := m_end2 hb (Or.inr rfl) hM3
    obtain ⟨g1, g2, g3, g4⟩ := fr W' f1 f2
    by_cases ce : kdP (W.2 0) (W.1 1) (tkP (W.2 0) (W.1 1) j') = 0
    · have hw : wp G7_readsName (fun v J' => v = 1 ∧ ∃ x y, J' = ju1 (ju1 J3 4 0 x) 3 0 y) (ju1 J 10 0 0) := by
        unfold G7_readsName
        rw [wp_ib, wp_ret e2, wp_ib, wp_ret a2, wp_ig, wp_ite, if_neg (by omega), wp_ib]
        refine ⟨by rw [hv]; decide, c_takes hb (by decide) hJ3 (fun _ => ?_) (fun k => absurd ce k)⟩
        rw [wp_ig, wp_ite, if_neg (by decide)]
        exact ⟨by decide, rfl, _, _, rfl⟩
      obtain ⟨v2, J', ej, hv2, x, y, hx⟩ := wp_ex hw
      have hr : r = 1 ∧ W'.1 3 = -9 := by
        rcases f4 with ⟨p1, p2, p3, p4⟩ | ⟨p1, p2, p3⟩
        · exact ⟨p1, p4⟩
        · rcases p2 with p2 | p2
          · omega
          · exact absurd ce p2
      obtain ⟨rfl, hr3⟩ := hr
      subst hv2
      have fD' : FrR (ju1 J 10 0 0) J' := r1.trans ((fD.trans (FrD.g3 hx)).q.r)
      have h5' : js J' 5 0 = -9 := by rw [hx]; exact h59
      have hI2 : Inv W' (ju1 J' 2 0 0) := hI.rd2 fD' g1 f3 g2 g3 (by rw [hr3, h5'])
      have gt : ∀ (k : Nat) (z : Int), 9 ≤ k → k ≤ 11 → js J3 1 k = 0 + 1 → ja J3 1 k 0 = z → G8_get k 0 (ju1 J' 2 0 0) = some (z, ju1 J' 2 0 0) := fun k z k0 k1 l1 l2 => by
        have es : js (ju1 J' 2 0 0) 1 k = 1 := by
          rw [ju1_s, if_neg (by omega), hx, ju1_s, if_neg (by omega), ju1_s, if_neg (by omega)]
          exact l1
        have ea : ja (ju1 J' 2 0 0) 1 k 0 = z := by
          rw [hx]
          exact l2
        rw [c_get (J := ju1 J' 2 0 0) (Or.inl (by omega)) (by decide) (by rw [es]; decide) (by rw [es]; have := rl_pos k; omega), es, if_pos (by decide), ea]
      refine ⟨1, W', J', run 1 W' e, ej, fD'.2.2, hI2, Or.inr ⟨rfl, s, i, b, g4, gt 9 s (by omega) (by omega) hl.2.1 ?_, gt 10 i (by omega) (by omega) hl.2.2.1 ?_, gt 11 b (by omega) (by omega) hl.2.2.2 ?_⟩⟩
      · rw [h9 0, if_pos rfl]
      · rw [h10 0, if_pos rfl]
      · rw [h11 0, if_pos rfl]
    · have hw : wp G7_readsName (fun v J' => v = 0 ∧ J' = ju1 J3 5 0 (tkP (W.2 0) (W.1 1) j')) (ju1 J 10 0 0) := by
        unfold G7_readsName
        rw [wp_ib, wp_ret e2, wp_ib, wp_ret a2, wp_ig, wp_ite, if_neg (by omega), wp_ib]
        refine ⟨by rw [hv]; decide, c_takes hb (by decide) hJ3 (fun k => absurd k ce) (fun _ => ?_)⟩
        rw [wp_ig, wp_ite, if_pos rfl]
        exact ⟨by decide, rfl, rfl⟩
      obtain ⟨v2, J', ej, hv2, hx⟩ := wp_ex hw
      have hr : r = 0 ∧ W'.1 3 = tkP (W.2 0) (W.1 1) j' := by
        rcases f4 with ⟨p1, p2, p3, p4⟩ | ⟨p1, p2, p3⟩
        · exact absurd p3 ce
        · exact ⟨p1, p3⟩
      obtain ⟨rfl, hr3⟩ := hr
      subst hv2
      have fD' : FrR (ju1 J 10 0 0) J' := r1.trans ((fD.trans (by rw [hx]; exact FrD.u (by omega))).q.r)
      exact ⟨0, W', J', run 0 W' e, ej, fD'.2.2, hI.rd2 fD' g1 f3 g2 g3 (by rw [hr3, hx]; rfl), Or.inl rfl⟩
  · obtain ⟨r, W', e, f1, f2, f3, f4⟩ := m_end2 hb (Or.inl rfl) hM3
    obtain ⟨g1, g2, g3, g4⟩ := fr W' f1 f2
    have hr : r = 0 ∧ W'.1 3 = tkP (W.2 0) (W.1 1) j' := by
      rcases f4 with ⟨p1, p2, p3, p4⟩ | ⟨p1, p2, p3⟩
      · omega
      · exact ⟨p1, p3⟩
    obtain ⟨rfl, hr3⟩ := hr
    have ej : G7_readsName (ju1 J 10 0 0) = some (0, J3) := by
      refine wp_eq ?_
      unfold G7_readsName
      rw [wp_ib, wp_ret e2, wp_ib, wp_ret a2, wp_ig, wp_ite, if_pos hv, jp_ret]
      exact ⟨by rw [hv]; decide, rfl, rfl⟩
    exact ⟨0, W', J3, run 0 W' e, ej, (r1.trans fD.q.r).2.2, hI.rd2 (r1.trans fD.q.r) g1 f3 g2 g3 (by rw [hr3, h5]), Or.inl rfl⟩
theorem s_no1 (hI : Inv W J) : SQ (ib (ipI 1 0) fun _ => ib (I12_no 1) fun v => ir v) (ib (G10_cutTo 0) fun _ => ib (G11_refuse 1) fun v => jret v) W J := by
  refine s_m ?_
  rw [wp_ipI]
  exact s_cr c_cutTo (s_no hI.cut0)
theorem p_find (hI : Inv W J) {a : Int} (ha : R32 a) : SQ (I12_find a) (G11_find a) W J := by
  unfold I12_find G11_find
  refine b_at hI ha (s_no1 hI) fun b e hb h8 hB => ?_
  subst e
  obtain ⟨r, W2, J2, run, er, rr, hI2, hr⟩ := b_nmText hI
  refine s_c ?_
  rw [jP10]
  refine s_run (fun Q h => run _ Q h) (s_cr er (s_cr c_cutTo ?_))
  rcases hr with rfl | ⟨rfl, s, i, k, hn, g1, g2, g3⟩
  · refine s_mg (by decide) (s_m1 rfl (s_cg (by decide) (s_c1 rfl ?_)))
    exact s_no hI2
  · refine s_mg (by decide) (s_m0 (by decide) (s_cg (by decide) (s_c0 (by decide) ?_)))
    have hb2 : b < jB (ju1 J2 2 0 0) := by
      rw [jB_r (J := J) (J' := ju1 J2 2 0 0) rr]
      exact hb
    have hB2 := hI2.2.2.2.2.2.1 b hb2
    refine s_m (m_named (by omega) (by omega) hB2.2.1 hn fun p hp => s_c ?_)
    rw [jp_E, kj_3]
    refine ⟨hb2, s_c (c_placeOf hB2.2.2.1 hB2.2.1 g1 g2 g3 hn.2.1 hn.2.2.1 hn.2.2.2 fun p' hp' => ?_)⟩
    exact s_fine hI2 (pnm_u hB2.2.1.1 hp' hp)
end FND
