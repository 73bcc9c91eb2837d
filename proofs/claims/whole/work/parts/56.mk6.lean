section MK6
variable {W : IS} {R : Nat → Int → Int} {x n : Int} {P Z F I : Int → Int}
/-- every change of good groups has its leaf -/
theorem GG_ch {g : Nat} (hn : 0 ≤ n ∧ n ≤ 60) (hB : chB R n) (hG : grB R g n) (hA : FA R g 0) : ∀ k : Nat, k ≤ g → ∀ c, 0 ≤ c → c < R 31 k → (1 ≤ R 34 c ∧ R 34 c ≤ gS R k (R 33 c)) ∧ (R 32 c = 43 → 1 ≤ R 35 c ∧ R 35 c ≤ 4)
  | 0, _, c, c0, c1 => by
    have h0 : R 31 ((0 : Nat) : Int) = 0 := hG.2.1
    rw [h0] at c1
    omega
  | k + 1, hk, c, c0, c1 => by
    have ek : ((k + 1 : Nat) : Int) = (k : Int) + 1 := by omega
    rw [ek] at c1
    have ih := GG_ch hn hB hG hA k (by omega)
    obtain ⟨e1, e2, e3⟩ := GG_k hG hA (show k < g by omega)
    obtain ⟨n1, n2, n3, n4, n5, n6⟩ := FG_0 (FA_0 hA k (by omega))
    obtain ⟨a1, a2, a3, _⟩ := GG_all hn hB hG hA k (by omega)
    have eS : ∀ s, gS R (k + 1) s = if R 26 k ≤ s ∧ s ≤ R 27 k then (if (s - R 26 k) % 2 = 0 then R 29 k else R 30 k) else gS R k s := fun s => rfl
    rw [eS]
    by_cases h : c < R 31 k
    · have q := ih c c0 h
      have z : ¬ (R 26 k ≤ R 33 c ∧ R 33 c ≤ R 27 k) := fun r => by
        have : gS R k (R 33 c) = 0 := by
          rcases e1 with ⟨q1, q2, q3⟩ | ⟨q1, q2, q3⟩
          · rw [show R 33 c = 70 by omega]; exact a3 q3
          · exact a2 _ (by omega) (by omega)
        omega
      rw [if_neg z]
      exact q
    · have g4 : G4 R (R 26 k) (R 27 k) (R 29 k) (R 30 k) c := by
        by_cases r : G4 R (R 26 k) (R 27 k) (R 29 k) (R 30 k) c
        · exact r
        · exact absurd ⟨c, by omega, c1, r⟩ n4
      unfold G4 at g4
      rw [if_pos g4.1]
      refine ⟨g4.2, fun cm => ?_⟩
      by_cases r : 1 ≤ R 35 c ∧ R 35 c ≤ 4
      · exact r
      · exact absurd ⟨c, by omega, c1, cm, r⟩ n5
theorem rIt_4 (hI : ∀ l, 0 ≤ I l ∧ I l ≤ 4) {N : Int} (h : ∀ c, 0 ≤ c → c < N → R 32 c = 43 → 1 ≤ R 35 c ∧ R 35 c ≤ 4) : ∀ (d : Nat) (l : Int), (d : Int) ≤ N → 0 ≤ rIt I R 0 d l ∧ rIt I R 0 d l ≤ 4
  | 0, l, _ => hI l
  | d + 1, l, hd => by
    have ih := rIt_4 hI h d l (by omega)
    unfold rIt
    split
    · rename_i q
      have := h (0 + d) (by omega) (by omega) q.1
      omega
    · exact ih
theorem m_book183 {N : Int} (hx : 0 ≤ x ∧ x < 8) (hN : 0 ≤ N ∧ N ≤ 60) (hB : chB W.2 N) (h25 : W.1 25 = N) (hP : PZok n P Z) (hI : ∀ l, 0 ≤ I l ∧ I l ≤ 4) (hL : ∀ c, 0 ≤ c → c < N → (∃ p, (0 ≤ p ∧ p < n) ∧ P p = W.2 33 c ∧ 1 ≤ W.2 34 c ∧ W.2 34 c ≤ Z p) ∧ (W.2 32 c = 43 → 1 ≤ W.2 35 c ∧ W.2 35 c ≤ 4)) {Q : Int → IS → Prop}
    (hq : ∀ W', FrB x W W' → BmC W' x n P Z (rFt F W.2 0 N.toNat) (rIt I W.2 0 N.toNat) → wp (I12_book_203 x) Q W') :
    ∀ (d m a : Nat) (c : Int) (W1 : IS), d < m → c = (a : Int) → c + d = N → FrB x W W1 → BmC W1 x n P Z (rFt F W.2 0 a) (rIt I W.2 0 a) → wp (I12_book_183 m x c) Q W1 := by
  intro d
  induction d with
  | zero =>
    intro m a c W1 hm hc hcd hF hBm
    cases m with
    | zero => omega
    | succ m =>
      have h25' : W1.1 25 = N := by rw [hF.1]; exact h25
      unfold I12_book_183 I12_book_183_st
      rw [wp_ib, wp_igI, h25', wp_ig, wp_ig, wp_ite, if_pos (by omega)]
      have ea : a = N.toNat := by omega
      rw [ea] at hBm
      exact ⟨by omega, by omega, hq W1 hF hBm⟩
  | succ d ih =>
    intro m a c W1 hm hc hcd hF hBm
    cases m with
    | zero => omega
    | succ m =>
      have h25' : W1.1 25 = N := by rw [hF.1]; exact h25
      obtain ⟨⟨p, hp, q1, q2, q3⟩, q4⟩ := hL c (by omega) (by omega)
      have hb := hB c (by omega) (by omega)
      have r : ∀ t, 11 ≤ t → W1.2 t = W.2 t := fun t t0 => hF.2.1 t (by omega)
      unfold I12_book_183 I12_book_183_st
      rw [wp_ib, wp_igI, h25', wp_ig, wp_ig, wp_ite, if_neg (show ¬ N ≤ c by omega), wp_ib]
      refine ⟨by omega, by omega, ?_⟩
      refine m_apply (P := P) (Z := Z) (p := p) hx hP hBm (fun l => rIt_4 hI (fun c c0 c1 => (hL c c0 c1).2) a l (by omega)) ⟨by omega, by omega⟩ (by rw [r 32 (by omega)]; exact hb.1) hp (by rw [r 33 (by omega)]; exact q1) (by rw [r 34 (by omega)]; exact ⟨q2, q3⟩) fun W2 hF2 hB2 => ?_
      refine ih m (a + 1) (c + 1) W2 (by omega) (by omega) (by omega) (hF.trans hF2) ?_
      have es : (0 : Int) + (a : Int) = c := by omega
      have e1 : rFt F W.2 0 (a + 1) = fun l => if W1.2 32 c ≠ 43 ∧ l = slo W1.2 c then W1.2 32 c else rFt F W.2 0 a l := by
        funext l
        unfold slo
        rw [r 32 (by omega), r 33 (by omega), r 34 (by omega), ← es]
        rfl
      have e2 : rIt I W.2 0 (a + 1) = fun l => if W1.2 32 c = 43 ∧ l = slo W1.2 c then W1.2 35 c else rIt I W.2 0 a l := by
        funext l
        unfold slo
        rw [r 32 (by omega), r 33 (by omega), r 34 (by omega), r 35 (by omega), ← es]
        rfl
      rw [e1, e2]
      exact hB2
end MK6
