/-! ===== the model puts all groups in ===== -/
def gZ (R : Nat → Int → Int) : Nat → Int → Int
  | 0, _ => 0
  | k + 1, p => if gN R k ≤ p ∧ p < gN R k + (R 27 k - R 26 k + 1) then (if (p - gN R k) % 2 = 0 then R 29 k else R 30 k) else gZ R k p
section MK3
variable {W : IS} {R : Nat → Int → Int} {x n : Int}
theorem FA_0 {g : Nat} (h : FA R g 0) : ∀ i : Nat, i < g → FG R i (gH R i) (gX R i) 0 := by
  rcases h with ⟨_, h⟩ | ⟨h, _⟩
  · exact h
  · exact absurd rfl h
theorem GG_all {g : Nat} (hn : 0 ≤ n ∧ n ≤ 60) (hB : chB R n) (hG : grB R g n) (h : FA R g 0) : ∀ k : Nat, k ≤ g → GGd R k
  | 0, _ => GG_z
  | k + 1, hk => GG_s hn hB hG (by omega) (GG_all hn hB hG h k (by omega)) (FA_0 h k (by omega))
/-- of the k-th of good groups -/
theorem GG_k {g : Nat} (hG : grB R g n) (h : FA R g 0) {k : Nat} (hk : k < g) : ((R 26 k = 70 ∧ R 27 k = 70 ∧ gX R k = 0) ∨ (R 26 k ≤ R 27 k ∧ R 27 k ≤ 69 ∧ gH R k < R 26 k)) ∧ (1 ≤ R 29 k ∧ R 29 k ≤ 12) ∧ (1 ≤ R 30 k ∧ R 30 k ≤ 12) := by
  obtain ⟨n1, n2, n3, _⟩ := FG_0 (FA_0 h k hk)
  exact GG_f hG ⟨by omega, by omega⟩ n1 n2 n3
theorem m_book110 {g : Nat} (hg : (g : Int) ≤ 60) (hx : 0 ≤ x ∧ x < 8) (hn : 0 ≤ n ∧ n ≤ 60) (hB : chB W.2 n) (hG : grB W.2 g n) (h24 : W.1 24 = g) (hA : FA W.2 g 0) {Q : Int → IS → Prop}
    (hq : ∀ W', FrB x W W' → BmR W' x (gN W.2 g) (gP W.2 g) (gZ W.2 g) → wp (I12_book_181 x) Q W') :
    ∀ (d m k : Nat) (ki : Int) (W1 : IS), d < m → ki = (k : Int) → k + d = g → FrB x W W1 → BmR W1 x (gN W.2 k) (gP W.2 k) (gZ W.2 k) → wp (I12_book_110 m x ki) Q W1 := by
  intro d
  induction d with
  | zero =>
    intro m k ki W1 hm hki hkd hF hBm
    cases m with
    | zero => omega
    | succ m =>
      have ek : k = g := by omega
      subst ek
      have h24' : W1.1 24 = k := by rw [hF.1]; exact h24
      unfold I12_book_110 I12_book_110_st
      rw [wp_ib, wp_igI, h24', wp_ig, wp_ig, wp_ite, if_pos (by omega)]
      exact ⟨by omega, by omega, hq W1 hF hBm⟩
  | succ d ih =>
    intro m k ki W1 hm hki hkd hF hBm
    cases m with
    | zero => omega
    | succ m =>
      have h24' : W1.1 24 = g := by rw [hF.1]; exact h24
      obtain ⟨e1, e2, e3⟩ := GG_k hG hA (show k < g by omega)
      have hGG := GG_all hn hB hG hA k (by omega)
      obtain ⟨a1, _, _, _, a4, _⟩ := hGG
      have hxb := gX_bd (R := W.2) k
      have b26 := (hG.1 k (by omega) (by omega)).1
      have r : ∀ t, 26 ≤ t → t ≤ 31 → W1.2 t ki = W.2 t k := fun t t0 t1 => by rw [hF.2.1 t (by omega), hki]
      unfold I12_book_110 I12_book_110_st
      rw [wp_ib, wp_igI, h24', wp_ig, wp_ig, wp_ite, if_neg (show ¬ (g : Int) ≤ ki by omega), wp_ib, wA26]
      refine ⟨by omega, by omega, by omega, ?_⟩
      refine m_book125 (W := W1) (f := W.2 26 k) (l := W.2 27 k) (a := W.2 29 k) (b := W.2 30 k) (n := gN W.2 k) (P := gP W.2 k) (Z := gZ W.2 k) hx ⟨by omega, by omega⟩ (r 26 (by omega) (by omega)) (r 27 (by omega) (by omega)) (r 29 (by omega) (by omega)) (r 30 (by omega) (by omega)) (by omega) (by omega) (fun W2 hF2 hB2 => ?_) (W.2 27 k + 1 - W.2 26 k).toNat LFU (W1.2 26 ki) W1 (by unfold LFU; omega) (by rw [r 26 (by omega) (by omega)]; omega) (by rw [r 26 (by omega) (by omega)]; omega) FrB.refl ?_
      · exact ih m (k + 1) (ki + 1) W2 (by omega) (by omega) (by omega) (hF.trans hF2) hB2
      · rw [r 26 (by omega) (by omega)]
        refine hBm.cg (by omega) fun p p0 p1 => ?_
        rw [if_neg (by omega), if_neg (by omega)]
        exact ⟨rfl, rfl⟩
/-- the sign at a place has the size of that place; signs differ -/
theorem gP_all {g : Nat} (hn : 0 ≤ n ∧ n ≤ 60) (hB : chB R n) (hG : grB R g n) (hA : FA R g 0) : ∀ k : Nat, k ≤ g → (∀ p, 0 ≤ p → p < gN R k → gS R k (gP R k p) = gZ R k p ∧ (0 ≤ gP R k p ∧ gP R k p ≤ 70) ∧ (1 ≤ gZ R k p ∧ gZ R k p ≤ 12)) ∧ (∀ p q, 0 ≤ p → p < q → q < gN R k → gP R k p ≠ gP R k q) ∧ (∀ s, gS R k s ≠ 0 → ∃ p, (0 ≤ p ∧ p < gN R k) ∧ gP R k p = s)
  | 0, _ => by
    refine ⟨fun p p0 p1 => ?_, fun p q p0 p1 p2 => ?_, fun s hs => absurd rfl hs⟩
    · unfold gN at p1; omega
    · unfold gN at p2; omega
  | k + 1, hk => by
    obtain ⟨i1, i2, i3⟩ := gP_all hn hB hG hA k (by omega)
    obtain ⟨e1, e2, e3⟩ := GG_k hG hA (show k < g by omega)
    obtain ⟨a1, a2, a3, a3', a4, a5, _⟩ := GG_all hn hB hG hA k (by omega)
    have b26 := (hG.1 k (by omega) (by omega)).1
    have z : ∀ s, R 26 k ≤ s → s ≤ R 27 k → gS R k s = 0 := fun s s0 s1 => by
      rcases e1 with ⟨q1, q2, q3⟩ | ⟨q1, q2, q3⟩
      · rw [show s = 70 by omega]; exact a3 q3
      · exact a2 s (by omega) (by omega)
    have eN : gN R (k + 1) = gN R k + (R 27 k - R 26 k + 1) := rfl
    have eS : ∀ s, gS R (k + 1) s = if R 26 k ≤ s ∧ s ≤ R 27 k then (if (s - R 26 k) % 2 = 0 then R 29 k else R 30 k) else gS R k s := fun s => rfl
    have eP : ∀ p, gP R (k + 1) p = if gN R k ≤ p ∧ p < gN R k + (R 27 k - R 26 k + 1) then R 26 k + (p - gN R k) else gP R k p := fun p => rfl
    have eZ : ∀ p, gZ R (k + 1) p = if gN R k ≤ p ∧ p < gN R k + (R 27 k - R 26 k + 1) then (if (p - gN R k) % 2 = 0 then R 29 k else R 30 k) else gZ R k p := fun p => rfl
    have old : ∀ p, 0 ≤ p → p < gN R k → ¬ (R 26 k ≤ gP R k p ∧ gP R k p ≤ R 27 k) := fun p p0 p1 q => by
      have h1 := i1 p p0 p1
      have h2 := z _ q.1 q.2
      omega
    refine ⟨fun p p0 p1 => ?_, fun p q p0 p1 p2 => ?_, fun s hs => ?_⟩
    · rw [eN] at p1
      rw [eP, eZ, eS]
      by_cases c : gN R k ≤ p
      · rw [if_pos (show gN R k ≤ p ∧ p < gN R k + (R 27 k - R 26 k + 1) by omega), if_pos (show gN R k ≤ p ∧ p < gN R k + (R 27 k - R 26 k + 1) by omega), if_pos (by omega), show R 26 k + (p - gN R k) - R 26 k = p - gN R k by omega]
        refine ⟨rfl, by omega, ?_⟩
        split <;> omega
      · have h1 := i1 p p0 (by omega)
        have h2 := old p p0 (by omega)
        rw [if_neg (show ¬ (gN R k ≤ p ∧ p < gN R k + (R 27 k - R 26 k + 1)) by omega), if_neg (show ¬ (gN R k ≤ p ∧ p < gN R k + (R 27 k - R 26 k + 1)) by omega), if_neg h2]
        exact h1
    · rw [eN] at p2
      rw [eP, eP]
      by_cases c : gN R k ≤ q
      · rw [if_pos (c := gN R k ≤ q ∧ q < gN R k + (R 27 k - R 26 k + 1)) (by omega)]
        by_cases c' : gN R k ≤ p
        · rw [if_pos (by omega)]; omega
        · have h2 := old p p0 (by omega)
          rw [if_neg (by omega)]; omega
      · rw [if_neg (c := gN R k ≤ q ∧ q < gN R k + (R 27 k - R 26 k + 1)) (by omega), if_neg (by omega)]
        exact i2 p q p0 p1 (by omega)
    · rw [eS] at hs
      by_cases c : R 26 k ≤ s ∧ s ≤ R 27 k
      · refine ⟨gN R k + (s - R 26 k), ?_, ?_⟩
        · rw [eN]; omega
        · rw [eP, if_pos (by omega)]; omega
      · rw [if_neg c] at hs
        obtain ⟨p, p0, p1⟩ := i3 s hs
        refine ⟨p, ?_, ?_⟩
        · rw [eN]; omega
        · rw [eP, if_neg (by omega)]; exact p1
end MK3
