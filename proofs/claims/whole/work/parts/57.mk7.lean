section MK7
variable {W : IS} {J : JS} {R : Nat → Int → Int} {x n hi : Int} {P Z S F I : Int → Int}
/-- the class's draft holds the model's book -/
theorem DrR.pl (hD : DrR J n hi P S F I) (hBm : BmC W x n P Z F I) (hP : PZok n P Z) (hS : ∀ p, 0 ≤ p → p < n → S (P p) = Z p) (hS0 : ∀ s, 0 ≤ s → s ≤ 70 → (∀ p, 0 ≤ p → p < n → P p ≠ s) → S s = 0) (hF : ∀ l, F l = 0 ∨ F l = 45 ∨ F l = 61) (h0 : ∀ l, 0 ≤ l → l < 852 → (∀ p i, 0 ≤ p → p < n → 1 ≤ i → i ≤ Z p → P p * 12 + i - 1 ≠ l) → F l = 0 ∧ I l = 0) : PlR J 0 (mB W x) := by
  obtain ⟨d1, d2, d3, d4, d5⟩ := hD
  obtain ⟨h1, h2, h3⟩ := hBm
  obtain ⟨p1, p2, p3⟩ := hP
  have en : bn (mB W x) = n := h1
  have es : ∀ g, 0 ≤ g → g < n → bs (mB W x) g = P g := fun g g0 g1 => (h2 g g0 g1).1
  have ez : ∀ g, 0 ≤ g → g < n → bz (mB W x) g = Z g := fun g g0 g1 => (h2 g g0 g1).2
  have hf : ∀ l, fC (fM (F l)) = F l := fun l => by
    rcases hF l with q | q | q <;> rw [q] <;> rfl
  refine ⟨by rw [en]; exact d1, fun g g0 g1 => ?_, fun g i hv => ?_, fun s s0 s1 hs => ?_, fun l l0 l1 hl => ?_⟩
  · rw [en] at g1
    have q := p2 g g0 g1
    rw [es g g0 g1, ez g g0 g1, d3 g g0 g1, d4 _ q.1.1 q.1.2, hS g g0 g1]
    exact ⟨rfl, rfl⟩
  · obtain ⟨⟨g0, g1⟩, i0, i1⟩ := hv
    rw [en] at g1
    rw [ez g g0 g1] at i1
    have q := p2 g g0 g1
    have r := h3 g i g0 g1 i0 i1
    have ef : bf (mB W x) g i = fM (F (P g * 12 + i - 1)) := r.1
    have em : bm (mB W x) g i = I (P g * 12 + i - 1) := r.2
    have d := d5 (P g * 12 + i - 1) (by omega) (by omega)
    unfold slt
    rw [es g g0 g1, ef, em, hf]
    exact d
  · rw [d4 s s0 (by omega)]
    refine hS0 s s0 (by omega) fun p q0 q1 e => hs p q0 (by rw [en]; exact q1) ?_
    rw [es p q0 q1]
    exact e
  · have d := d5 l l0 l1
    have q := h0 l l0 l1 fun p i q0 q1 i0 i1 e => hl p i ⟨⟨q0, by rw [en]; exact q1⟩, i0, by rw [ez p q0 q1]; exact i1⟩ (by unfold slt; rw [es p q0 q1]; exact e)
    rw [d.1, d.2]
    exact q
end MK7
