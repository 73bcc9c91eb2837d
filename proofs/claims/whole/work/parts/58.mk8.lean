section MK8
variable {W : IS} {R : Nat → Int → Int} {x n : Int} {F I : Int → Int}
theorem rFt_cg {R' : Nat → Int → Int} (h : ∀ t, 11 ≤ t → R' t = R t) {e : Int} {l : Int} : ∀ d : Nat, rFt F R' e d l = rFt F R e d l ∧ rIt I R' e d l = rIt I R e d l
  | 0 => ⟨rfl, rfl⟩
  | d + 1 => by
    have ih := rFt_cg h (e := e) (l := l) d
    unfold rFt rIt slo
    rw [h 32 (by omega), h 33 (by omega), h 34 (by omega), h 35 (by omega), ih.1, ih.2]
    exact ⟨rfl, rfl⟩
theorem gPZ {g : Nat} (hn : 0 ≤ n ∧ n ≤ 60) (hB : chB R n) (hG : grB R g n) (hA : FA R g 0) : PZok (gN R g) (gP R g) (gZ R g) := by
  obtain ⟨i1, i2, i3⟩ := gP_all hn hB hG hA g (Nat.le_refl _)
  obtain ⟨a1, _, _, _, a4, _⟩ := GG_all hn hB hG hA g (Nat.le_refl _)
  have hx := gX_bd (R := R) g
  exact ⟨by omega, fun p p0 p1 => (i1 p p0 p1).2, i2⟩
/-- the model builds the book of good rows -/
theorem m_build {g : Nat} (hg : (g : Int) ≤ 60) (hx : 0 ≤ x ∧ x < 8) (hn : 0 ≤ n ∧ n ≤ 60) (hB : chB W.2 n) (hG : grB W.2 g n) (h24 : W.1 24 = g) (h25 : W.1 25 = n) (hA : FA W.2 g 0) (h6 : W.2 6 x = 0) {Q : Int → IS → Prop}
    (hq : ∀ W', FrB x W W' → BmC W' x (gN W.2 g) (gP W.2 g) (gZ W.2 g) (gFt W.2 g) (gIt W.2 g) → wp (I12_book_203 x) Q W') : wp (I12_book_110 LFU x 0) Q W := by
  refine m_book110 hg hx hn hB hG h24 hA (fun W1 hF1 hB1 => ?_) g LFU 0 0 W (by unfold LFU; omega) rfl (by omega) FrB.refl ⟨h6, fun p p0 p1 => ?_, fun p i p0 p1 _ _ => ?_⟩
  · have r : ∀ t, 11 ≤ t → W1.2 t = W.2 t := fun t t0 => hF1.2.1 t (by omega)
    obtain ⟨i1, i2, i3⟩ := gP_all hn hB hG hA g (Nat.le_refl _)
    have hch := GG_ch hn hB hG hA g (Nat.le_refl _)
    rw [hG.2.2] at hch
    have hB' : chB W1.2 n := by
      unfold chB
      rw [r 32 (by omega), r 33 (by omega), r 34 (by omega), r 35 (by omega)]
      exact hB
    unfold I12_book_181
    refine m_book183 (W := W1) (F := fun _ => 0) (I := fun _ => 0) (N := n) (P := gP W.2 g) (Z := gZ W.2 g) (n := gN W.2 g) hx hn hB' (by rw [hF1.1]; exact h25) (gPZ hn hB hG hA) (fun l => ⟨Int.le_refl _, by decide⟩) (fun c c0 c1 => ?_) (fun W2 hF2 hB2 => ?_) n.toNat LFU 0 0 W1 (by unfold LFU; omega) rfl (by omega) FrB.refl ⟨hB1.1, hB1.2.1, fun p i p0 p1 i0 i1' => ?_⟩
    · rw [r 32 (by omega), r 33 (by omega), r 34 (by omega), r 35 (by omega)]
      obtain ⟨q1, q2⟩ := hch c c0 c1
      obtain ⟨p, hp, hps⟩ := i3 (W.2 33 c) (by omega)
      refine ⟨⟨p, hp, hps, q1.1, ?_⟩, q2⟩
      rw [← (i1 p hp.1 hp.2).1, hps]
      exact q1.2
    · refine hq W2 (hF1.trans hF2) ?_
      have e1 : gFt W.2 g = rFt (fun _ => 0) W1.2 0 n.toNat := funext fun l => by
        rw [(gFt_eq hG g l (Int.le_refl _)).1, hG.2.2, (rFt_cg (I := fun _ => 0) r _).1]
      have e2 : gIt W.2 g = rIt (fun _ => 0) W1.2 0 n.toNat := funext fun l => by
        rw [(gFt_eq hG g l (Int.le_refl _)).2, hG.2.2, (rFt_cg (F := fun _ => 0) r _).2]
      rw [e1, e2]
      exact hB2
    · have hz := (i1 p p0 p1).2.2
      exact hB1.2.2 p i p0 p1 (by omega) (by omega)
  · unfold gN at p1; omega
  · unfold gN at p1; omega
end MK8
