/-! ===== what good groups leave ===== -/
def gFt (R : Nat → Int → Int) : Nat → Int → Int
  | 0, _ => 0
  | k + 1, l => rFt (gFt R k) R (R 31 k) (R 31 (k + 1) - R 31 k).toNat l
def gIt (R : Nat → Int → Int) : Nat → Int → Int
  | 0, _ => 0
  | k + 1, l => rIt (gIt R k) R (R 31 k) (R 31 (k + 1) - R 31 k).toNat l
def GGd (R : Nat → Int → Int) (k : Nat) : Prop := (-1 ≤ gH R k ∧ gH R k ≤ 69) ∧ (∀ s, gH R k < s → s ≤ 69 → gS R k s = 0) ∧ (gX R k = 0 → gS R k 70 = 0) ∧ (gX R k ≠ 0 → 1 ≤ gS R k 70) ∧ (0 ≤ gN R k ∧ gN R k ≤ gH R k + 1 + gX R k) ∧ (∀ s, 0 ≤ gS R k s ∧ gS R k s ≤ 12) ∧ ((∀ l, R32 (gFt R k l)) ∧ ∀ l, R32 (gIt R k l)) ∧ (∀ s i, gS R k s = 0 → 1 ≤ i → i ≤ 12 → gFt R k (s * 12 + i - 1) = 0 ∧ gIt R k (s * 12 + i - 1) = 0)
section FLT8
variable {R : Nat → Int → Int} {g n : Int}
theorem FG_0 {k hi x : Int} (h : FG R k hi x 0) : ¬ bad1 R k ∧ ¬ bad2 R k hi x ∧ ¬ bad3 R k ∧ ¬ P4 R (R 26 k) (R 27 k) (R 29 k) (R 30 k) (R 31 k) (R 31 (k + 1)) ∧ ¬ P5 R (R 31 k) (R 31 (k + 1)) ∧ ¬ P6 R (R 31 k) (R 31 (k + 1)) := by
  unfold FG FT at h
  rcases h with ⟨q, _⟩ | ⟨h1, ⟨q, _⟩ | ⟨h2, ⟨q, _⟩ | ⟨h3, ⟨q, _⟩ | ⟨h4, ⟨q, _⟩ | ⟨h5, ⟨q, _⟩ | ⟨_, h6⟩⟩⟩⟩⟩⟩
  · omega
  · omega
  · omega
  · omega
  · omega
  · omega
  · exact ⟨h1, h2, h3, h4, h5, h6⟩
/-- of a group without the first three faults -/
theorem GG_f (hG : grB R g n) {k hi x : Int} (hk : 0 ≤ k ∧ k < g) (h1 : ¬ bad1 R k) (h2 : ¬ bad2 R k hi x) (h3 : ¬ bad3 R k) : ((R 26 k = 70 ∧ R 27 k = 70 ∧ x = 0) ∨ (R 26 k ≤ R 27 k ∧ R 27 k ≤ 69 ∧ hi < R 26 k)) ∧ (1 ≤ R 29 k ∧ R 29 k ≤ 12) ∧ (1 ≤ R 30 k ∧ R 30 k ≤ 12) := by
  obtain ⟨b26, b27, b28, b29, b30, _⟩ := hG.1 k hk.1 hk.2
  unfold bad1 at h1
  unfold bad2 at h2
  unfold bad3 okZ at h3
  refine ⟨by omega, by omega, by omega⟩
theorem GG_z : GGd R 0 := by
  refine ⟨?_, fun _ _ _ => rfl, fun _ => rfl, fun q => absurd rfl q, ?_, fun _ => ⟨?_, ?_⟩, ⟨fun _ => ?_, fun _ => ?_⟩, fun _ _ _ _ _ => ⟨rfl, rfl⟩⟩
  · unfold gH; omega
  · unfold gH gN gX; omega
  · unfold gS; omega
  · unfold gS; omega
  · unfold gFt; omega
  · unfold gIt; omega
theorem GG_s (hn : 0 ≤ n ∧ n ≤ 60) (hB : chB R n) (hG : grB R g n) {k : Nat} (hk : (k : Int) < g) (h : GGd R k) (h0 : FG R k (gH R k) (gX R k) 0) : GGd R (k + 1) := by
  obtain ⟨a1, a2, a3, a3', a4, a5, ⟨a6, a6'⟩, a7⟩ := h
  obtain ⟨n1, n2, n3, n4, n5, n6⟩ := FG_0 h0
  obtain ⟨e1, e2, e3⟩ := GG_f hG ⟨by omega, hk⟩ n1 n2 n3
  obtain ⟨_, _, _, _, _, b31, b31', b31''⟩ := hG.1 k (by omega) hk
  have hx := gX_bd (R := R) k
  have sz : ∀ s, 1 ≤ (if (s - R 26 k) % 2 = 0 then R 29 k else R 30 k) ∧ (if (s - R 26 k) % 2 = 0 then R 29 k else R 30 k) ≤ 12 := fun s => by split <;> omega
  refine ⟨?_, fun s s0 s1 => ?_, fun q => ?_, fun q => ?_, ?_, fun s => ?_, ⟨fun l => ?_, fun l => ?_⟩, fun s i hs i0 i1 => ?_⟩
  · show -1 ≤ (if R 26 k = 70 then gH R k else R 27 k) ∧ (if R 26 k = 70 then gH R k else R 27 k) ≤ 69
    split <;> omega
  · show (if R 26 k ≤ s ∧ s ≤ R 27 k then _ else gS R k s) = 0
    have s0' : (if R 26 k = 70 then gH R k else R 27 k) < s := s0
    by_cases c : R 26 k = 70
    · rw [if_pos c] at s0'
      rw [if_neg (by omega)]
      exact a2 s s0' s1
    · rw [if_neg c] at s0'
      rw [if_neg (by omega)]
      exact a2 s (by omega) s1
  · show (if R 26 k ≤ 70 ∧ 70 ≤ R 27 k then _ else gS R k 70) = 0
    have q' : (if R 26 k = 70 then 1 else gX R k) = 0 := q
    by_cases c : R 26 k = 70
    · rw [if_pos c] at q'; omega
    · rw [if_neg c] at q'
      rw [if_neg (by omega)]
      exact a3 q'
  · show 1 ≤ (if R 26 k ≤ 70 ∧ 70 ≤ R 27 k then (if ((70 : Int) - R 26 k) % 2 = 0 then R 29 k else R 30 k) else gS R k 70)
    have q' : (if R 26 k = 70 then 1 else gX R k) ≠ 0 := q
    by_cases c : R 26 k = 70
    · rw [if_pos (by omega)]
      exact (sz 70).1
    · rw [if_neg c] at q'
      rw [if_neg (by omega)]
      exact a3' q'
  · show 0 ≤ gN R k + (R 27 k - R 26 k + 1) ∧ gN R k + (R 27 k - R 26 k + 1) ≤ (if R 26 k = 70 then gH R k else R 27 k) + 1 + (if R 26 k = 70 then 1 else gX R k)
    by_cases c : R 26 k = 70
    · rw [if_pos c, if_pos c]; omega
    · rw [if_neg c, if_neg c]; omega
  · show 0 ≤ (if R 26 k ≤ s ∧ s ≤ R 27 k then (if (s - R 26 k) % 2 = 0 then R 29 k else R 30 k) else gS R k s) ∧ (if R 26 k ≤ s ∧ s ≤ R 27 k then (if (s - R 26 k) % 2 = 0 then R 29 k else R 30 k) else gS R k s) ≤ 12
    have := sz s
    by_cases c : R 26 k ≤ s ∧ s ≤ R 27 k
    · rw [if_pos c]; omega
    · rw [if_neg c]; exact a5 s
  · exact rFt_R hB b31 a6 _ l (by omega)
  · exact rIt_R hB b31 a6' _ l (by omega)
  · have hs' : (if R 26 k ≤ s ∧ s ≤ R 27 k then (if (s - R 26 k) % 2 = 0 then R 29 k else R 30 k) else gS R k s) = 0 := hs
    have nin : ¬ (R 26 k ≤ s ∧ s ≤ R 27 k) := fun q => by
      rw [if_pos q] at hs'
      have := sz s
      omega
    rw [if_neg nin] at hs'
    obtain ⟨z1, z2⟩ := a7 s i hs' i0 i1
    have nsl : ∀ c, R 31 k ≤ c → c < R 31 (k + 1) → ¬ s * 12 + i - 1 = slo R c := fun c c0 c1 q => by
      have hg : G4 R (R 26 k) (R 27 k) (R 29 k) (R 30 k) c := by
        by_cases r : G4 R (R 26 k) (R 27 k) (R 29 k) (R 30 k) c
        · exact r
        · exact absurd ⟨c, c0, c1, r⟩ n4
      unfold G4 at hg
      have hz := sz (R 33 c)
      unfold slo at q
      omega
    constructor
    · exact (rFt_0 hB b31 _ (by omega)).mpr ⟨z1, fun c c0 c1 q => nsl c c0 (by omega) q.2⟩
    · refine (rIt_0 (n := R 31 (k + 1)) b31 (fun c c0 c1 c2 => ?_) _ (by omega)).mpr ⟨z2, fun c c0 c1 q => nsl c c0 (by omega) q.2⟩
      by_cases r : 1 ≤ R 35 c ∧ R 35 c ≤ 4
      · exact r.1
      · exact absurd ⟨c, c0, c1, c2, r⟩ n5
end FLT8
