/-! ===== a book is made ===== -/
section MDE
variable {W W' : IS} {J J' : JS} {R R' : Nat → Int → Int} {B : BK}
theorem gH_cg (h : ∀ t, 26 ≤ t → R' t = R t) : ∀ k : Nat, gH R' k = gH R k ∧ gX R' k = gX R k
  | 0 => ⟨rfl, rfl⟩
  | k + 1 => by
    have ih := gH_cg h k
    unfold gH gX
    rw [ih.1, ih.2, h 26 (by omega), h 27 (by omega)]
    exact ⟨rfl, rfl⟩
theorem FG_cg (h : ∀ t, 26 ≤ t → R' t = R t) {k hi x v : Int} (hF : FG R k hi x v) : FG R' k hi x v := by
  unfold FG bad1 bad2 bad3 FT P4 P5 P6 tw G4 at hF ⊢
  rw [h 26 (by omega), h 27 (by omega), h 28 (by omega), h 29 (by omega), h 30 (by omega), h 31 (by omega), h 32 (by omega), h 33 (by omega), h 34 (by omega), h 35 (by omega)]
  exact hF
theorem FA_cg (h : ∀ t, 26 ≤ t → R' t = R t) {n : Nat} {v : Int} (hF : FA R n v) : FA R' n v := by
  have key : ∀ (i : Nat) (v : Int), FG R i (gH R i) (gX R i) v → FG R' i (gH R' i) (gX R' i) v := fun i v q => by
    rw [(gH_cg h i).1, (gH_cg h i).2]
    exact FG_cg h q
  rcases hF with ⟨h1, h2⟩ | ⟨h1, k, k1, k2, k3⟩
  · exact Or.inl ⟨h1, fun i hi => key i 0 (h2 i hi)⟩
  · exact Or.inr ⟨h1, k, k1, fun i hi => key i 0 (k2 i hi), key k v k3⟩
theorem tot_bd (hB : BOK B) : 0 ≤ tot B ∧ tot B ≤ 4260 := by
  have h := smz_bd (f := fun g => bz B g + smz (bm B g) (bz B g).toNat 1) (K := 60) (bn B).toNat 0 fun g g0 g1 => by
    have hz := (hB.2.1 g g0 (by omega)).2
    have h2 := smz_bd (f := bm B g) (K := 4) (bz B g).toNat 1 fun i i0 i1 => by
      have := hB.2.2.1 g i g0 (by omega) i0 (by omega)
      exact this.2
    show 0 ≤ bz B g + smz (bm B g) (bz B g).toNat 1 ∧ bz B g + smz (bm B g) (bz B g).toNat 1 ≤ 60
    omega
  have h71 := hB.1
  unfold tot
  omega
end MDE
