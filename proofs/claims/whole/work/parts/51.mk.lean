/-! ===== the model builds a book ===== -/
/-- the x-th book's rows alone may be written -/
def FrB (x : Int) (W W' : IS) : Prop := W'.1 = W.1 ∧ (∀ k, k < 6 ∨ 10 < k → W'.2 k = W.2 k) ∧ (∀ i, i ≠ x → W'.2 6 i = W.2 6 i) ∧ (∀ i, ¬ (x * 71 ≤ i ∧ i < x * 71 + 71) → W'.2 7 i = W.2 7 i ∧ W'.2 8 i = W.2 8 i) ∧ (∀ i, ¬ (x * 923 ≤ i ∧ i < x * 923 + 923) → W'.2 9 i = W.2 9 i ∧ W'.2 10 i = W.2 10 i)
section MKB
variable {W : IS} {x n : Int}
theorem FrB.refl : FrB x W W := ⟨rfl, fun _ _ => rfl, fun _ _ => rfl, fun _ _ => ⟨rfl, rfl⟩, fun _ _ => ⟨rfl, rfl⟩⟩
theorem FrB.trans {W1 W2 W3 : IS} (h : FrB x W1 W2) (h' : FrB x W2 W3) : FrB x W1 W3 := ⟨h'.1.trans h.1, fun k q => (h'.2.1 k q).trans (h.2.1 k q), fun k q => (h'.2.2.1 k q).trans (h.2.2.1 k q), fun k q => ⟨(h'.2.2.2.1 k q).1.trans (h.2.2.2.1 k q).1, (h'.2.2.2.1 k q).2.trans (h.2.2.2.1 k q).2⟩, fun k q => ⟨(h'.2.2.2.2 k q).1.trans (h.2.2.2.2 k q).1, (h'.2.2.2.2 k q).2.trans (h.2.2.2.2 k q).2⟩⟩
theorem m_add37 (hx : 0 ≤ x ∧ x < 8) (hn : 0 ≤ n ∧ n < 71) {Q : Unit → IS → Prop} : ∀ (d m : Nat) (i : Int) (W1 : IS), d < m → 0 ≤ i → i + d = 13 → (∀ W', W'.1 = W1.1 → (∀ k, k ≠ 9 → k ≠ 10 → W'.2 k = W1.2 k) → (∀ j, (W'.2 9 j = if (x * 71 + n) * 13 + i ≤ j ∧ j < (x * 71 + n) * 13 + 13 then 0 else W1.2 9 j) ∧ (W'.2 10 j = if (x * 71 + n) * 13 + i ≤ j ∧ j < (x * 71 + n) * 13 + 13 then 0 else W1.2 10 j)) → wp (I12_add_78 x) Q W') → wp (I12_add_37 m x n i) Q W1 := by
  intro d
  induction d with
  | zero =>
    intro m i W1 hm h0 h1 hq
    cases m with
    | zero => omega
    | succ m =>
      unfold I12_add_37 I12_add_37_st
      rw [wp_ig, wp_ite, if_pos (by omega)]
      exact ⟨by omega, hq W1 rfl (fun _ _ _ => rfl) (fun j => by rw [if_neg (by omega), if_neg (by omega)]; exact ⟨rfl, rfl⟩)⟩
  | succ d ih =>
    intro m i W1 hm h0 h1 hq
    cases m with
    | zero => omega
    | succ m =>
      unfold I12_add_37 I12_add_37_st
      rw [wp_ig, wp_ite, if_neg (show ¬ 12 < i by omega), wp_ib, wp_ret m_spot, wp_ib, wS9]
      refine ⟨by omega, ⟨by omega, by omega⟩, ?_⟩
      rw [wp_ib, wp_ret m_spot, wp_ib, wS10]
      refine ⟨⟨by omega, by omega⟩, ?_⟩
      have e1 : ∀ j, (iu2 (iu2 W1 9 ((x * 71 + n) * 13 + i) 0) 10 ((x * 71 + n) * 13 + i) 0).2 9 j = if j = (x * 71 + n) * 13 + i then 0 else W1.2 9 j := fun j => by
        rw [iu2_2, if_neg (by omega), iu2_2]
        by_cases e : j = (x * 71 + n) * 13 + i
        · rw [if_pos ⟨rfl, e⟩, if_pos e]
        · rw [if_neg (fun q => e q.2), if_neg e]
      have e2 : ∀ j, (iu2 (iu2 W1 9 ((x * 71 + n) * 13 + i) 0) 10 ((x * 71 + n) * 13 + i) 0).2 10 j = if j = (x * 71 + n) * 13 + i then 0 else W1.2 10 j := fun j => by
        rw [iu2_2]
        by_cases e : j = (x * 71 + n) * 13 + i
        · rw [if_pos ⟨rfl, e⟩, if_pos e]
        · rw [if_neg (fun q => e q.2), if_neg e, iu2_2, if_neg (by omega)]
      have e3 : ∀ k, k ≠ 9 → k ≠ 10 → (iu2 (iu2 W1 9 ((x * 71 + n) * 13 + i) 0) 10 ((x * 71 + n) * 13 + i) 0).2 k = W1.2 k := fun k k1 k2 => by
        funext j
        rw [iu2_2, if_neg (by omega), iu2_2, if_neg (by omega)]
      have e4 : (iu2 (iu2 W1 9 ((x * 71 + n) * 13 + i) 0) 10 ((x * 71 + n) * 13 + i) 0).1 = W1.1 := rfl
      revert e1 e2 e3 e4
      generalize iu2 (iu2 W1 9 ((x * 71 + n) * 13 + i) 0) 10 ((x * 71 + n) * 13 + i) 0 = W2
      intro e1 e2 e3 e4
      refine ih m (i + 1) W2 (by omega) (by omega) (by omega) fun W' f1 f2 f3 => ?_
      refine hq W' (f1.trans e4) (fun k k1 k2 => (f2 k k1 k2).trans (e3 k k1 k2)) fun j => ?_
      rw [(f3 j).1, (f3 j).2, e1, e2]
      by_cases c : j = (x * 71 + n) * 13 + i
      · rw [if_pos c, if_pos c, if_pos (show (x * 71 + n) * 13 + i ≤ j ∧ j < (x * 71 + n) * 13 + 13 by omega)]
        rw [if_neg (by omega), if_pos (by omega)]
        exact ⟨rfl, rfl⟩
      · rw [if_neg c, if_neg c]
        have e : ((x * 71 + n) * 13 + (i + 1) ≤ j ∧ j < (x * 71 + n) * 13 + 13) = ((x * 71 + n) * 13 + i ≤ j ∧ j < (x * 71 + n) * 13 + 13) := propext ⟨fun q => by omega, fun q => by omega⟩
        simp only [e]
        first | done | trivial | exact ⟨trivial, rfl⟩ | exact ⟨trivial, trivial⟩ | exact ⟨rfl, trivial⟩
theorem m_add {s z : Int} (hx : 0 ≤ x ∧ x < 8) (h6 : W.2 6 x = n) (hn : 0 ≤ n ∧ n < 71) {Q : Unit → IS → Prop} (hq : ∀ W', FrB x W W' → W'.2 6 x = n + 1 → (∀ p, 0 ≤ p → p < n + 1 → W'.2 7 (x * 71 + p) = (if p = n then s else W.2 7 (x * 71 + p)) ∧ W'.2 8 (x * 71 + p) = (if p = n then z else W.2 8 (x * 71 + p))) → (∀ p i, 0 ≤ p → p < n + 1 → 0 ≤ i → i ≤ 12 → W'.2 9 ((x * 71 + p) * 13 + i) = (if p = n then 0 else W.2 9 ((x * 71 + p) * 13 + i)) ∧ W'.2 10 ((x * 71 + p) * 13 + i) = (if p = n then 0 else W.2 10 ((x * 71 + p) * 13 + i))) → Q () W') : wp (I12_add x s z) Q W := by
  unfold I12_add
  rw [wp_ib, wA6, h6]
  refine ⟨by omega, ?_⟩
  rw [wp_ib, wS7]
  refine ⟨⟨by omega, by omega⟩, ?_⟩
  rw [wp_ib, wS8]
  refine ⟨⟨by omega, by omega⟩, ?_⟩
  have e7 : ∀ j, (iu2 (iu2 W 7 (x * 71 + n) s) 8 (x * 71 + n) z).2 7 j = if j = x * 71 + n then s else W.2 7 j := fun j => by
    rw [iu2_2, if_neg (by omega), iu2_2]
    by_cases e : j = x * 71 + n
    · rw [if_pos ⟨rfl, e⟩, if_pos e]
    · rw [if_neg (fun q => e q.2), if_neg e]
  have e8 : ∀ j, (iu2 (iu2 W 7 (x * 71 + n) s) 8 (x * 71 + n) z).2 8 j = if j = x * 71 + n then z else W.2 8 j := fun j => by
    rw [iu2_2]
    by_cases e : j = x * 71 + n
    · rw [if_pos ⟨rfl, e⟩, if_pos e]
    · rw [if_neg (fun q => e q.2), if_neg e, iu2_2, if_neg (by omega)]
  have e3 : ∀ k, k ≠ 7 → k ≠ 8 → (iu2 (iu2 W 7 (x * 71 + n) s) 8 (x * 71 + n) z).2 k = W.2 k := fun k k1 k2 => by
    funext j
    rw [iu2_2, if_neg (by omega), iu2_2, if_neg (by omega)]
  have e4 : (iu2 (iu2 W 7 (x * 71 + n) s) 8 (x * 71 + n) z).1 = W.1 := rfl
  revert e7 e8 e3 e4
  generalize iu2 (iu2 W 7 (x * 71 + n) s) 8 (x * 71 + n) z = W1
  intro e7 e8 e3 e4
  refine m_add37 hx hn 13 LFU 0 W1 (by unfold LFU; omega) (by omega) (by omega) fun W2 f1 f2 f3 => ?_
  unfold I12_add_78
  have h62 : W2.2 6 x = n := by rw [f2 6 (by omega) (by omega), e3 6 (by omega) (by omega)]; exact h6
  rw [wp_ib, wA6, h62]
  refine ⟨by omega, ?_⟩
  rw [wp_ib, wS6]
  refine ⟨by omega, ?_⟩
  have g6 : ∀ j, (iu2 W2 6 x (n + 1)).2 6 j = if j = x then n + 1 else W2.2 6 j := fun j => by
    rw [iu2_2]
    by_cases e : j = x
    · rw [if_pos ⟨rfl, e⟩, if_pos e]
    · rw [if_neg (fun q => e q.2), if_neg e]
  have gk : ∀ k, k ≠ 6 → (iu2 W2 6 x (n + 1)).2 k = W2.2 k := fun k k1 => by
    funext j
    rw [iu2_2, if_neg (by omega)]
  have g4 : (iu2 W2 6 x (n + 1)).1 = W2.1 := rfl
  show Q () (iu2 W2 6 x (n + 1))
  revert g6 gk g4
  generalize iu2 W2 6 x (n + 1) = W3
  intro g6 gk g4
  refine hq W3 ⟨g4.trans (f1.trans e4), fun k k1 => ?_, fun i i0 => ?_, fun i i0 => ⟨?_, ?_⟩, fun i i0 => ⟨?_, ?_⟩⟩ ?_ (fun p p0 p1 => ⟨?_, ?_⟩) (fun p i p0 p1 i0 i1 => ⟨?_, ?_⟩)
  · rw [gk k (by omega), f2 k (by omega) (by omega), e3 k (by omega) (by omega)]
  · rw [g6, if_neg i0, f2 6 (by omega) (by omega), e3 6 (by omega) (by omega)]
  · rw [gk 7 (by omega), f2 7 (by omega) (by omega), e7, if_neg (by omega)]
  · rw [gk 8 (by omega), f2 8 (by omega) (by omega), e8, if_neg (by omega)]
  · rw [gk 9 (by omega), (f3 i).1, if_neg (by omega), e3 9 (by omega) (by omega)]
  · rw [gk 10 (by omega), (f3 i).2, if_neg (by omega), e3 10 (by omega) (by omega)]
  · rw [g6, if_pos rfl]
  · rw [gk 7 (by omega), f2 7 (by omega) (by omega), e7]
    by_cases c : p = n
    · rw [if_pos (by omega), if_pos c]
    · rw [if_neg (by omega), if_neg c]
  · rw [gk 8 (by omega), f2 8 (by omega) (by omega), e8]
    by_cases c : p = n
    · rw [if_pos (by omega), if_pos c]
    · rw [if_neg (by omega), if_neg c]
  · rw [gk 9 (by omega), (f3 _).1, e3 9 (by omega) (by omega)]
    by_cases c : p = n
    · rw [if_pos (by omega), if_pos c]
    · rw [if_neg (by omega), if_neg c]
  · rw [gk 10 (by omega), (f3 _).2, e3 10 (by omega) (by omega)]
    by_cases c : p = n
    · rw [if_pos (by omega), if_pos c]
    · rw [if_neg (by omega), if_neg c]
end MKB
