section MK5
variable {W : IS} {x n : Int} {P Z F I : Int → Int}
theorem m_apply (hx : 0 ≤ x ∧ x < 8) (hP : PZok n P Z) (hBm : BmC W x n P Z F I) (hI : ∀ l, 0 ≤ I l ∧ I l ≤ 4) {c p : Int} (hc : 0 ≤ c ∧ c < 60) (hm : W.2 32 c = 43 ∨ W.2 32 c = 45 ∨ W.2 32 c = 61) (hp : 0 ≤ p ∧ p < n) (hs : P p = W.2 33 c) (hi : 1 ≤ W.2 34 c ∧ W.2 34 c ≤ Z p) {Q : Unit → IS → Prop}
    (hq : ∀ W', FrB x W W' → BmC W' x n P Z (fun l => if W.2 32 c ≠ 43 ∧ l = slo W.2 c then W.2 32 c else F l) (fun l => if W.2 32 c = 43 ∧ l = slo W.2 c then W.2 35 c else I l) → Q () W') : wp (I12_apply x c) Q W := by
  have hB := hBm.ok hP hI
  obtain ⟨h1, h2, h3⟩ := hBm
  obtain ⟨p1, p2, p3⟩ := hP
  have hpp := p2 p hp.1 hp.2
  have same : ∀ q i, 0 ≤ q → q < n → 1 ≤ i → i ≤ Z q → P q * 12 + i - 1 = slo W.2 c → q = p ∧ i = W.2 34 c := fun q i q0 q1 i0 i1 e => by
    have hqq := p2 q q0 q1
    unfold slo at e
    have ei : i = W.2 34 c ∧ P q = P p := by omega
    refine ⟨?_, ei.1⟩
    by_cases c1 : q < p
    · exact absurd ei.2 (p3 q p q0 c1 hp.2)
    · by_cases c2 : p < q
      · exact absurd ei.2.symm (p3 p q hp.1 c2 q1)
      · omega
  unfold I12_apply
  rw [wp_ib, wA33]
  refine ⟨by omega, ?_⟩
  rw [wp_ib]
  refine m_gatheringOf hx.1 hx.2 hB (by omega) (fun g g0 g1 ge => ?_) (fun hno => ?_)
  · have g1' : g < n := by rw [← h1]; exact g1
    have ge' : P g = W.2 33 c := by rw [← (h2 g g0 g1').1]; exact ge
    have eg : g = p := by
      by_cases c1 : g < p
      · exact absurd (ge'.trans hs.symm) (p3 g p g0 c1 hp.2)
      · by_cases c2 : p < g
        · exact absurd (hs.trans ge'.symm) (p3 p g hp.1 c2 g1')
        · omega
    subst eg
    rw [wp_ib, wA34]
    refine ⟨by omega, ?_⟩
    rw [wp_ib, wp_ret m_spot, wp_ib, wA32]
    refine ⟨by omega, ?_⟩
    rw [wp_ig, wp_ite]
    refine ⟨by omega, ?_⟩
    have fr : ∀ (k : Nat) (v : Int), (k = 9 ∨ k = 10) → FrB x W (iu2 W k ((x * 71 + g) * 13 + W.2 34 c) v) := fun k v hk => ⟨rfl, fun k' q => by funext j; rw [iu2_2, if_neg (by omega)], fun j _ => by rw [iu2_2, if_neg (by omega)], fun j _ => ⟨by rw [iu2_2, if_neg (by omega)], by rw [iu2_2, if_neg (by omega)]⟩, fun j hj => ⟨by rw [iu2_2, if_neg (by omega)], by rw [iu2_2, if_neg (by omega)]⟩⟩
    have f9 : ∀ v, W.2 32 c ≠ 43 → fM (W.2 32 c) = v → Q () (iu2 W 9 ((x * 71 + g) * 13 + W.2 34 c) v) := by
      intro v hn hv
      refine hq _ (fr 9 v (by omega)) ⟨?_, fun q q0 q1 => ⟨?_, ?_⟩, fun q i q0 q1 i0 i1 => ⟨?_, ?_⟩⟩
      · rw [iu2_2, if_neg (by omega)]; exact h1
      · rw [iu2_2, if_neg (by omega)]; exact (h2 q q0 q1).1
      · rw [iu2_2, if_neg (by omega)]; exact (h2 q q0 q1).2
      · rw [iu2_2]
        have hz := (p2 q q0 q1).2
        show _ = fM (if W.2 32 c ≠ 43 ∧ P q * 12 + i - 1 = slo W.2 c then W.2 32 c else F (P q * 12 + i - 1))
        by_cases e : P q * 12 + i - 1 = slo W.2 c
        · have := same q i q0 q1 i0 i1 e
          rw [if_pos (show (9 : Nat) = 9 ∧ (x * 71 + q) * 13 + i = (x * 71 + g) * 13 + W.2 34 c from ⟨rfl, by rw [this.1, this.2]⟩), if_pos ⟨hn, e⟩, hv]
        · rw [if_neg (fun r => e (by
            have er : q = g ∧ i = W.2 34 c := by omega
            unfold slo
            rw [er.1, er.2, hs])), if_neg (fun r => e r.2)]
          exact (h3 q i q0 q1 i0 i1).1
      · rw [iu2_2, if_neg (by omega)]
        show _ = if W.2 32 c = 43 ∧ P q * 12 + i - 1 = slo W.2 c then W.2 35 c else I (P q * 12 + i - 1)
        rw [if_neg (fun r => hn r.1)]
        exact (h3 q i q0 q1 i0 i1).2
    by_cases cm : W.2 32 c = 43
    · rw [if_pos cm, wp_ib, wA35]
      refine ⟨by omega, ?_⟩
      rw [wp_ib, wS10]
      refine ⟨⟨by omega, by omega⟩, ?_⟩
      refine hq _ (fr 10 _ (by omega)) ⟨?_, fun q q0 q1 => ⟨?_, ?_⟩, fun q i q0 q1 i0 i1 => ⟨?_, ?_⟩⟩
      · rw [iu2_2, if_neg (by omega)]; exact h1
      · rw [iu2_2, if_neg (by omega)]; exact (h2 q q0 q1).1
      · rw [iu2_2, if_neg (by omega)]; exact (h2 q q0 q1).2
      · rw [iu2_2, if_neg (by omega)]
        show _ = fM (if W.2 32 c ≠ 43 ∧ P q * 12 + i - 1 = slo W.2 c then W.2 32 c else F (P q * 12 + i - 1))
        rw [if_neg (fun r => r.1 cm)]
        exact (h3 q i q0 q1 i0 i1).1
      · rw [iu2_2]
        have hz := (p2 q q0 q1).2
        show _ = if W.2 32 c = 43 ∧ P q * 12 + i - 1 = slo W.2 c then W.2 35 c else I (P q * 12 + i - 1)
        by_cases e : P q * 12 + i - 1 = slo W.2 c
        · have := same q i q0 q1 i0 i1 e
          rw [if_pos (show (10 : Nat) = 10 ∧ (x * 71 + q) * 13 + i = (x * 71 + g) * 13 + W.2 34 c from ⟨rfl, by rw [this.1, this.2]⟩), if_pos ⟨cm, e⟩]
        · rw [if_neg (fun r => e (by
            have er : q = g ∧ i = W.2 34 c := by omega
            unfold slo
            rw [er.1, er.2, hs])), if_neg (fun r => e r.2)]
          exact (h3 q i q0 q1 i0 i1).2
    · rw [if_neg cm, wp_ib, wA32]
      refine ⟨by omega, ?_⟩
      rw [wp_ig, wp_ite]
      refine ⟨by omega, ?_⟩
      by_cases c4 : W.2 32 c = 45
      · rw [if_pos c4, wp_ib, wS9]
        exact ⟨⟨by omega, by omega⟩, f9 1 cm (by rw [c4]; rfl)⟩
      · rw [if_neg c4, wp_ib, wS9]
        exact ⟨⟨by omega, by omega⟩, f9 2 cm (by rw [show W.2 32 c = 61 by omega]; rfl)⟩
  · have e1 : bn (mB W x) = n := h1
    exact absurd ((h2 p hp.1 hp.2).1.trans hs) (hno p hp.1 (by rw [e1]; exact hp.2))
end MK5
