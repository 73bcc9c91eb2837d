/-! ===== change: the model copies a book, takes the changes in ===== -/
section CH2
variable {W : IS} {R : Nat → Int → Int} {x n : Int} {P Z F I : Int → Int}
theorem m_chg206 {N : Int} (hx : 0 ≤ x ∧ x < 8) (hN : 0 ≤ N ∧ N ≤ 60) (hB : chB W.2 N) (h25 : W.1 25 = N) (hP : PZok n P Z) (hI : ∀ l, 0 ≤ I l ∧ I l ≤ 4) (hL : ∀ c, 0 ≤ c → c < N → (∃ p, (0 ≤ p ∧ p < n) ∧ P p = W.2 33 c ∧ 1 ≤ W.2 34 c ∧ W.2 34 c ≤ Z p) ∧ (W.2 32 c = 43 → 1 ≤ W.2 35 c ∧ W.2 35 c ≤ 4)) {Q : Int → IS → Prop}
    (hq : ∀ W', FrB x W W' → BmC W' x n P Z (rFt F W.2 0 N.toNat) (rIt I W.2 0 N.toNat) → wp (I12_change_226 x) Q W') :
    ∀ (d m a : Nat) (c : Int) (W1 : IS), d < m → c = (a : Int) → c + d = N → FrB x W W1 → BmC W1 x n P Z (rFt F W.2 0 a) (rIt I W.2 0 a) → wp (I12_change_206 m x c) Q W1 := by
  intro d
  induction d with
  | zero =>
    intro m a c W1 hm hc hcd hF hBm
    cases m with
    | zero => omega
    | succ m =>
      have h25' : W1.1 25 = N := by rw [hF.1]; exact h25
      unfold I12_change_206 I12_change_206_st
      rw [wp_ib, wp_igI, h25', wp_ig, wp_ig, wp_ite, if_pos (by omega)]
      have ea : a = N.toNat := by omega
      rw [ea] at hBm
      exact ⟨by omega, by omega, hq W1 hF hBm⟩
  | succ d ih =>
    intro m a c W1 hm hc hcd hF hBm
    cases m with
    | zero => omega
    | succ m =>
      have h25' : W1.1 25 = N := by rw [hF.1]; exact h25
      obtain ⟨⟨p, hp, q1, q2, q3⟩, q4⟩ := hL c (by omega) (by omega)
      have hb := hB c (by omega) (by omega)
      have r : ∀ t, 11 ≤ t → W1.2 t = W.2 t := fun t t0 => hF.2.1 t (by omega)
      unfold I12_change_206 I12_change_206_st
      rw [wp_ib, wp_igI, h25', wp_ig, wp_ig, wp_ite, if_neg (show ¬ N ≤ c by omega), wp_ib]
      refine ⟨by omega, by omega, ?_⟩
      refine m_apply (P := P) (Z := Z) (p := p) hx hP hBm (fun l => rIt_4 hI (fun c c0 c1 => (hL c c0 c1).2) a l (by omega)) ⟨by omega, by omega⟩ (by rw [r 32 (by omega)]; exact hb.1) hp (by rw [r 33 (by omega)]; exact q1) (by rw [r 34 (by omega)]; exact ⟨q2, q3⟩) fun W2 hF2 hB2 => ?_
      refine ih m (a + 1) (c + 1) W2 (by omega) (by omega) (by omega) (hF.trans hF2) ?_
      have es : (0 : Int) + (a : Int) = c := by omega
      have e1 : rFt F W.2 0 (a + 1) = fun l => if W1.2 32 c ≠ 43 ∧ l = slo W1.2 c then W1.2 32 c else rFt F W.2 0 a l := by
        funext l
        unfold slo
        rw [r 32 (by omega), r 33 (by omega), r 34 (by omega), ← es]
        rfl
      have e2 : rIt I W.2 0 (a + 1) = fun l => if W1.2 32 c = 43 ∧ l = slo W1.2 c then W1.2 35 c else rIt I W.2 0 a l := by
        funext l
        unfold slo
        rw [r 32 (by omega), r 33 (by omega), r 34 (by omega), r 35 (by omega), ← es]
        rfl
      rw [e1, e2]
      exact hB2
theorem fM_fC {v : Int} (h : 0 ≤ v ∧ v ≤ 2) : fM (fC v) = v := by
  have : v = 0 ∨ v = 1 ∨ v = 2 := by omega
  rcases this with q | q | q <;> rw [q] <;> rfl
/-- the first p gatherings of book a are copied -/
def CpG (W W1 : IS) (a x p : Int) : Prop := FrB x W W1 ∧ W1.2 6 x = p ∧ (∀ q, 0 ≤ q → q < p → W1.2 7 (x * 71 + q) = W.2 7 (a * 71 + q) ∧ W1.2 8 (x * 71 + q) = W.2 8 (a * 71 + q)) ∧ ∀ q j, 0 ≤ q → q < p → 1 ≤ j → j ≤ 12 → W1.2 9 ((x * 71 + q) * 13 + j) = W.2 9 ((a * 71 + q) * 13 + j) ∧ W1.2 10 ((x * 71 + q) * 13 + j) = W.2 10 ((a * 71 + q) * 13 + j)
theorem m_chg137 {a p : Int} (ha : 0 ≤ a ∧ a < 8) (hx : 0 ≤ x ∧ x < 8) (hax : a ≠ x) (hp : 0 ≤ p ∧ p < 71) {k97 : Int → Int → Int → IM Int} {Q : Int → IS → Prop} (hk : ∀ W1, CpG W W1 a x (p + 1) → wp (k97 a x (p + 1)) Q W1) : ∀ (d m : Nat) (i : Int) (W1 : IS), d < m → 1 ≤ i → i + d = 13 → FrB x W W1 → W1.2 6 x = p + 1 → (∀ q, 0 ≤ q → q < p + 1 → W1.2 7 (x * 71 + q) = W.2 7 (a * 71 + q) ∧ W1.2 8 (x * 71 + q) = W.2 8 (a * 71 + q)) → (∀ q j, 0 ≤ q → q < p + 1 → 1 ≤ j → j ≤ 12 → (q < p ∨ j < i) → W1.2 9 ((x * 71 + q) * 13 + j) = W.2 9 ((a * 71 + q) * 13 + j) ∧ W1.2 10 ((x * 71 + q) * 13 + j) = W.2 10 ((a * 71 + q) * 13 + j)) → wp (I12_change_137 k97 m a x p i) Q W1 := by
  intro d
  induction d with
  | zero =>
    intro m i W1 hm i0 i1 h1 h2 h3 h4
    cases m with
    | zero => omega
    | succ m =>
      unfold I12_change_137 I12_change_137_st I12_change_198
      rw [wp_ig, wp_ite, if_pos (show 12 < i by omega)]
      exact ⟨⟨by omega, by omega⟩, hk W1 ⟨h1, h2, h3, fun q j q0 q1 j0 j1 => h4 q j q0 q1 j0 j1 (Or.inr (by omega))⟩⟩
  | succ d ih =>
    intro m i W1 hm i0 i1 h1 h2 h3 h4
    cases m with
    | zero => omega
    | succ m =>
      have r9 : ∀ l, ¬ (x * 923 ≤ l ∧ l < x * 923 + 923) → W1.2 9 l = W.2 9 l ∧ W1.2 10 l = W.2 10 l := h1.2.2.2.2
      unfold I12_change_137 I12_change_137_st
      rw [wp_ig, wp_ite, if_neg (show ¬ 12 < i by omega), wp_ib, wp_ret m_spot, wp_ib, wp_ret m_spot, wp_ib, wA9, wp_ib, wS9, wp_ib, wp_ret m_spot, wp_ib, wp_ret m_spot, wp_ib, wA10, wp_ib, wS10]
      refine ⟨⟨by omega, by omega⟩, ⟨by omega, by omega⟩, ⟨by omega, by omega⟩, ⟨by omega, by omega⟩, ⟨by omega, by omega⟩, ?_⟩
      have ra := r9 ((a * 71 + p) * 13 + i) (by omega)
      refine ih m (i + 1) _ (by omega) (by omega) (by omega) ⟨?_, fun k hk => ?_, fun l hl => ?_, fun l hl => ?_, fun l hl => ?_⟩ ?_ (fun q q0 q1 => ?_) fun q j q0 q1 j0 j1 hj => ?_
      · exact h1.1
      · rw [← h1.2.1 k hk]
        funext l
        rw [iu2_2, if_neg (by omega), iu2_2, if_neg (by omega)]
      · rw [iu2_2, if_neg (by omega), iu2_2, if_neg (by omega)]
        exact h1.2.2.1 l hl
      · rw [iu2_2, if_neg (by omega), iu2_2, if_neg (by omega), iu2_2, if_neg (by omega), iu2_2, if_neg (by omega)]
        exact h1.2.2.2.1 l hl
      · rw [iu2_2, if_neg (by omega), iu2_2, if_neg (by omega), iu2_2, if_neg (by omega), iu2_2, if_neg (by omega)]
        exact r9 l hl
      · rw [iu2_2, if_neg (by omega), iu2_2, if_neg (by omega)]
        exact h2
      · rw [iu2_2, if_neg (by omega), iu2_2, if_neg (by omega), iu2_2, if_neg (by omega), iu2_2, if_neg (by omega)]
        exact h3 q q0 q1
      · by_cases k : q = p ∧ j = i
        · obtain ⟨rfl, rfl⟩ := k
          constructor
          · rw [iu2_2, if_neg (by omega), iu2_2, if_pos ⟨rfl, rfl⟩, ra.1]
          · rw [iu2_2, if_pos ⟨rfl, rfl⟩, iu2_2, if_neg (by omega), ra.2]
        · have := h4 q j q0 q1 j0 j1 (by omega)
          rw [iu2_2, if_neg (by omega), iu2_2, if_neg (by omega), iu2_2, if_neg (by omega), iu2_2, if_neg (by omega)]
          exact this
theorem m_chg97 {a : Int} (ha : 0 ≤ a ∧ a < 8) (hx : 0 ≤ x ∧ x < 8) (hax : a ≠ x) (hB : BOK (mB W a)) {Q : Int → IS → Prop} (hk : ∀ W1, CpG W W1 a x (bn (mB W a)) → wp (I12_change_204 x) Q W1) : ∀ (d m : Nat) (p : Int) (W1 : IS), d < m → 0 ≤ p → p + d = bn (mB W a) → CpG W W1 a x p → wp (I12_change_97 m a x p) Q W1 := by
  have h71 := hB.1
  have e6 : W.2 6 a = bn (mB W a) := rfl
  intro d
  induction d with
  | zero =>
    intro m p W1 hm p0 p1 hC
    cases m with
    | zero => omega
    | succ m =>
      have e6' : W1.2 6 a = bn (mB W a) := by rw [hC.1.2.2.1 a hax, e6]
      unfold I12_change_97 I12_change_97_st
      rw [wp_ib, wA6, e6', wp_ig, wp_ig, wp_ite, if_pos (show bn (mB W a) ≤ p by omega)]
      have ep : p = bn (mB W a) := by omega
      rw [ep] at hC
      exact ⟨⟨by omega, by omega⟩, ⟨by omega, by omega⟩, ⟨by omega, by omega⟩, hk W1 hC⟩
  | succ d ih =>
    intro m p W1 hm p0 p1 hC
    cases m with
    | zero => omega
    | succ m =>
      obtain ⟨c1, c2, c3, c4⟩ := hC
      have e6' : W1.2 6 a = bn (mB W a) := by rw [c1.2.2.1 a hax, e6]
      have e78 := c1.2.2.2.1 (a * 71 + p) (by omega)
      unfold I12_change_97 I12_change_97_st
      rw [wp_ib, wA6, e6', wp_ig, wp_ig, wp_ite, if_neg (show ¬ bn (mB W a) ≤ p by omega), wp_ib, wA7, wp_ib, wA8, wp_ib]
      refine ⟨⟨by omega, by omega⟩, ⟨by omega, by omega⟩, ⟨by omega, by omega⟩, ⟨by omega, by omega⟩, ⟨by omega, by omega⟩, m_add hx c2 ⟨p0, by omega⟩ fun W2 f1 f2 f3 f4 => ?_⟩
      refine m_chg137 ha hx hax ⟨p0, by omega⟩ (fun W3 h => ih m (p + 1) W3 (by omega) (by omega) (by omega) h) 12 LFU 1 W2 (by decide) (by omega) (by omega) (c1.trans f1) f2 (fun q q0 q1 => ?_) fun q j q0 q1 j0 j1 hj => ?_
      · have := f3 q q0 q1
        rw [this.1, this.2]
        by_cases k : q = p
        · rw [if_pos k, if_pos k, k]
          exact e78
        · rw [if_neg k, if_neg k]
          exact c3 q q0 (by omega)
      · have := f4 q j q0 q1 (by omega) j1
        rw [this.1, this.2, if_neg (by omega), if_neg (by omega)]
        exact c4 q j q0 (by omega) j0 j1
/-- the model builds the changed book -/
theorem m_chgB {a N : Int} (ha : 0 ≤ a ∧ a < 8) (hx : 0 ≤ x ∧ x < 8) (hax : a ≠ x) (hB : BOK (mB W a)) (h6 : W.2 6 x = 0) (hN : 0 ≤ N ∧ N ≤ 60) (hC : chB W.2 N) (h25 : W.1 25 = N) (hS : SFI (mB W a) P F I) (hI : ∀ l, 0 ≤ I l ∧ I l ≤ 4) (hF : FC W.2 P F I 0 N 0) {Q : Int → IS → Prop} (hq : ∀ W', FrB x W W' → BmC W' x (bn (mB W a)) (bs (mB W a)) (bz (mB W a)) (rFt F W.2 0 N.toNat) (rIt I W.2 0 N.toNat) → wp (I12_change_226 x) Q W') : wp (I12_change_97 LFU a x 0) Q W := by
  have h71 := hB.1
  refine m_chg97 ha hx hax hB (fun W1 hC1 => ?_) (bn (mB W a)).toNat LFU 0 W (Nat.lt_of_le_of_lt (show (bn (mB W a)).toNat ≤ 71 by omega) (by decide)) (Int.le_refl _) (by omega) ⟨FrB.refl, h6, fun q q0 q1 => by omega, fun q j q0 q1 => by omega⟩
  obtain ⟨c1, c2, c3, c4⟩ := hC1
  have r : ∀ t, 11 ≤ t → W1.2 t = W.2 t := fun t t0 => c1.2.1 t (by omega)
  have hP : PZok (bn (mB W a)) (bs (mB W a)) (bz (mB W a)) := ⟨hB.1, hB.2.1, hB.2.2.2⟩
  have hBm : BmC W1 x (bn (mB W a)) (bs (mB W a)) (bz (mB W a)) F I := by
    refine ⟨c2, c3, fun q j q0 q1 j0 j1 => ?_⟩
    have hz := (hB.2.1 q q0 q1).2
    obtain ⟨g1, g2⟩ := hS.2.2 q j ⟨⟨q0, q1⟩, j0, j1⟩
    have g3 := hB.2.2.1 q j q0 q1 j0 j1
    have g4 := c4 q j q0 q1 j0 (by omega)
    unfold slt at g1 g2
    rw [g1, g2, g4.1, g4.2, fM_fC g3.1]
    exact ⟨rfl, rfl⟩
  have n4 : ¬ Q4 W.2 P 0 N ∧ ¬ P5 W.2 0 N := by
    rcases hF with ⟨q, -⟩ | ⟨q1, ⟨q, -⟩ | ⟨q2, -⟩⟩
    · omega
    · omega
    · exact ⟨q1, q2⟩
  have hL : ∀ c, 0 ≤ c → c < N → (∃ p, (0 ≤ p ∧ p < bn (mB W a)) ∧ bs (mB W a) p = W.2 33 c ∧ 1 ≤ W.2 34 c ∧ W.2 34 c ≤ bz (mB W a) p) ∧ (W.2 32 c = 43 → 1 ≤ W.2 35 c ∧ W.2 35 c ≤ 4) := fun c c0 c1 => by
    have hc := hC c c0 c1
    have k4 : 1 ≤ W.2 34 c ∧ W.2 34 c ≤ P (W.2 33 c) := by
      by_cases k : 1 ≤ W.2 34 c ∧ W.2 34 c ≤ P (W.2 33 c)
      · exact k
      · exact absurd ⟨c, c0, c1, k⟩ n4.1
    refine ⟨?_, fun cm => ?_⟩
    · by_cases k : ∃ p, (0 ≤ p ∧ p < bn (mB W a)) ∧ bs (mB W a) p = W.2 33 c
      · obtain ⟨p, hp, e⟩ := k
        refine ⟨p, hp, e, k4.1, ?_⟩
        rw [← hS.1 p hp.1 hp.2, e]
        exact k4.2
      · have := hS.2.1 (W.2 33 c) (by omega) (by omega) fun g g0 g1 e => k ⟨g, ⟨g0, g1⟩, e⟩
        omega
    · by_cases k : 1 ≤ W.2 35 c ∧ W.2 35 c ≤ 4
      · exact k
      · exact absurd ⟨c, c0, c1, cm, k⟩ n4.2
  have eR : ∀ t, 11 ≤ t → W1.2 t = W.2 t := r
  have h34 : chB W1.2 N := by
    unfold chB
    rw [r 32 (by omega), r 33 (by omega), r 34 (by omega), r 35 (by omega)]
    exact hC
  unfold I12_change_204
  refine m_chg206 (n := bn (mB W a)) (P := bs (mB W a)) (Z := bz (mB W a)) (F := F) (I := I) hx hN h34 (by rw [c1.1]; exact h25) hP hI (by rw [r 32 (by omega), r 33 (by omega), r 34 (by omega), r 35 (by omega)]; exact hL) (fun W' f b => hq W' (c1.trans f) ?_) N.toNat LFU 0 0 W1 (Nat.lt_of_le_of_lt (show N.toNat ≤ 60 by omega) (by decide)) rfl (by omega) FrB.refl hBm
  have e1 : rFt F W1.2 0 N.toNat = rFt F W.2 0 N.toNat := funext fun l => (rFt_cg (I := I) r N.toNat).1
  have e2 : rIt I W1.2 0 N.toNat = rIt I W.2 0 N.toNat := funext fun l => (rFt_cg (F := F) r N.toNat).2
  rw [e1, e2] at b
  exact b
end CH2
