/-! ===== the model puts groups in ===== -/
/-- the x-th book has n gatherings of these signs, sizes, nothing changed in them -/
def BmR (W : IS) (x n : Int) (P Z : Int → Int) : Prop := W.2 6 x = n ∧ (∀ p, 0 ≤ p → p < n → W.2 7 (x * 71 + p) = P p ∧ W.2 8 (x * 71 + p) = Z p) ∧ ∀ p i, 0 ≤ p → p < n → 0 ≤ i → i ≤ 12 → W.2 9 ((x * 71 + p) * 13 + i) = 0 ∧ W.2 10 ((x * 71 + p) * 13 + i) = 0
section MK2
variable {W : IS} {x n : Int} {P Z : Int → Int}
theorem BmR.cg {n' : Int} {P' Z' : Int → Int} (h : BmR W x n P Z) (h1 : n = n') (h2 : ∀ p, 0 ≤ p → p < n → P p = P' p ∧ Z p = Z' p) : BmR W x n' P' Z' := by
  subst h1
  exact ⟨h.1, fun p a b => ⟨(h.2.1 p a b).1.trans (h2 p a b).1, (h.2.1 p a b).2.trans (h2 p a b).2⟩, h.2.2⟩
theorem m_addB {s z : Int} (hx : 0 ≤ x ∧ x < 8) (hB : BmR W x n P Z) (hn : 0 ≤ n ∧ n < 71) {Q : Unit → IS → Prop} (hq : ∀ W', FrB x W W' → BmR W' x (n + 1) (fun p => if p = n then s else P p) (fun p => if p = n then z else Z p) → Q () W') : wp (I12_add x s z) Q W := by
  obtain ⟨h1, h2, h3⟩ := hB
  refine m_add hx h1 hn fun W' hF q6 q7 q9 => hq W' hF ⟨q6, fun p p0 p1 => ⟨?_, ?_⟩, fun p i p0 p1 i0 i1 => ⟨?_, ?_⟩⟩
  · rw [(q7 p p0 p1).1]
    show (if p = n then s else _) = if p = n then s else P p
    by_cases c : p = n
    · rw [if_pos c, if_pos c]
    · rw [if_neg c, if_neg c]; exact (h2 p p0 (by omega)).1
  · rw [(q7 p p0 p1).2]
    show (if p = n then z else _) = if p = n then z else Z p
    by_cases c : p = n
    · rw [if_pos c, if_pos c]
    · rw [if_neg c, if_neg c]; exact (h2 p p0 (by omega)).2
  · rw [(q9 p i p0 p1 i0 i1).1]
    by_cases c : p = n
    · rw [if_pos c]
    · rw [if_neg c]; exact (h3 p i p0 (by omega) i0 i1).1
  · rw [(q9 p i p0 p1 i0 i1).2]
    by_cases c : p = n
    · rw [if_pos c]
    · rw [if_neg c]; exact (h3 p i p0 (by omega) i0 i1).2
/-- one group: its signs from f to l -/
theorem m_book125 {f l a b ki : Int} {k110 : Int → Int → IM Int} (hx : 0 ≤ x ∧ x < 8) (hk : 0 ≤ ki ∧ ki < 60) (r26 : W.2 26 ki = f) (r27 : W.2 27 ki = l) (r29 : W.2 29 ki = a) (r30 : W.2 30 ki = b) (hfl : 0 ≤ f ∧ f ≤ l ∧ l ≤ 70) (hn : 0 ≤ n ∧ n + (l - f + 1) ≤ 71) {Q : Int → IS → Prop}
    (hq : ∀ W', FrB x W W' → BmR W' x (n + (l - f + 1)) (fun p => if n ≤ p ∧ p < n + (l - f + 1) then f + (p - n) else P p) (fun p => if n ≤ p ∧ p < n + (l - f + 1) then (if (p - n) % 2 = 0 then a else b) else Z p) → wp (k110 x (ki + 1)) Q W') :
    ∀ (d m : Nat) (y : Int) (W1 : IS), d < m → f ≤ y → y + d = l + 1 → FrB x W W1 → BmR W1 x (n + (y - f)) (fun p => if n ≤ p ∧ p < n + (y - f) then f + (p - n) else P p) (fun p => if n ≤ p ∧ p < n + (y - f) then (if (p - n) % 2 = 0 then a else b) else Z p) → wp (I12_book_125 k110 m x ki y) Q W1 := by
  intro d
  induction d with
  | zero =>
    intro m y W1 hm h1 h2 hF hB
    cases m with
    | zero => omega
    | succ m =>
      have e : y = l + 1 := by omega
      have r27' : W1.2 27 ki = l := by rw [hF.2.1 27 (by omega)]; exact r27
      unfold I12_book_125 I12_book_125_st I12_book_175
      rw [wp_ib, wA27, r27', wp_ig, wp_ig, wp_ite, if_pos (by omega)]
      refine ⟨by omega, by omega, by omega, hq W1 hF ?_⟩
      subst e
      refine hB.cg (by omega) fun p p0 p1 => ?_
      have e : (n ≤ p ∧ p < n + (l + 1 - f)) = (n ≤ p ∧ p < n + (l - f + 1)) := propext ⟨fun q => by omega, fun q => by omega⟩
      simp only [e]
      first | done | trivial | exact ⟨rfl, rfl⟩
  | succ d ih =>
    intro m y W1 hm h1 h2 hF hB
    cases m with
    | zero => omega
    | succ m =>
      have r26' : W1.2 26 ki = f := by rw [hF.2.1 26 (by omega)]; exact r26
      have r27' : W1.2 27 ki = l := by rw [hF.2.1 27 (by omega)]; exact r27
      have r29' : W1.2 29 ki = a := by rw [hF.2.1 29 (by omega)]; exact r29
      have r30' : W1.2 30 ki = b := by rw [hF.2.1 30 (by omega)]; exact r30
      have go : ∀ z, z = (if (y - f) % 2 = 0 then a else b) → wp (I12_book_166 k110 (I12_book_125 k110 m) x ki y z y x) Q W1 := by
        intro z hz
        unfold I12_book_166
        rw [wp_ib]
        refine m_addB hx hB ⟨by omega, by omega⟩ fun W2 hF2 hB2 => ?_
        refine ih m (y + 1) W2 (by omega) (by omega) (by omega) (hF.trans hF2) (hB2.cg (by omega) fun p p0 p1 => ⟨?_, ?_⟩)
        · by_cases c : p = n + (y - f)
          · rw [if_pos c, if_pos (by omega)]; omega
          · rw [if_neg c]
            have e : (n ≤ p ∧ p < n + (y - f)) = (n ≤ p ∧ p < n + (y + 1 - f)) := propext ⟨fun q => by omega, fun q => by omega⟩
            simp only [e]
        · by_cases c : p = n + (y - f)
          · rw [if_pos c, if_pos (show n ≤ p ∧ p < n + (y + 1 - f) by omega), hz, show p - n = y - f by omega]
          · rw [if_neg c]
            have e : (n ≤ p ∧ p < n + (y - f)) = (n ≤ p ∧ p < n + (y + 1 - f)) := propext ⟨fun q => by omega, fun q => by omega⟩
            simp only [e]
      unfold I12_book_125 I12_book_125_st
      rw [wp_ib, wA27, r27', wp_ig, wp_ig, wp_ite, if_neg (by omega), wp_ib, wA26, r26', wp_ib, wp_irI, par2 (by omega), wp_ig, wp_ite]
      refine ⟨by omega, by omega, by omega, by omega, ⟨by decide, by omega, by omega, by decide⟩, by omega, ?_⟩
      by_cases c : (y - f) % 2 = 0
      · rw [if_pos c, wp_ib, wA29, r29']
        exact ⟨by omega, go a (by rw [if_pos c])⟩
      · rw [if_neg c, wp_ib, wA30, r30']
        exact ⟨by omega, go b (by rw [if_neg c])⟩
end MK2
