section MK9
variable {W : IS} {J : JS} {R : Nat → Int → Int} {x n : Int} {F I : Int → Int}
theorem rFt_v (hB : chB R n) (hF : ∀ l, F l = 0 ∨ F l = 45 ∨ F l = 61) : ∀ (d : Nat) (l : Int), (d : Int) ≤ n → rFt F R 0 d l = 0 ∨ rFt F R 0 d l = 45 ∨ rFt F R 0 d l = 61
  | 0, l, _ => hF l
  | d + 1, l, h => by
    have ih := rFt_v hB hF d l (by omega)
    have hb := (hB (0 + d) (by omega) (by omega)).1
    unfold rFt
    split
    · rename_i q
      omega
    · exact ih
/-- of good rows: the class's draft holds the model's book -/
theorem c_draft {g : Nat} (hn : 0 ≤ n ∧ n ≤ 60) (hB : chB R n) (hG : grB R g n) (hA : FA R g 0) (hD : DrR J (gN R g) (gH R g) (gP R g) (gS R g) (gFt R g) (gIt R g)) (hBm : BmC W x (gN R g) (gP R g) (gZ R g) (gFt R g) (gIt R g)) : PlR J 0 (mB W x) := by
  obtain ⟨i1, i2, i3⟩ := gP_all hn hB hG hA g (Nat.le_refl _)
  have hch := GG_ch hn hB hG hA g (Nat.le_refl _)
  rw [hG.2.2] at hch
  have ef : ∀ l, gFt R g l = rFt (fun _ => 0) R 0 n.toNat l ∧ gIt R g l = rIt (fun _ => 0) R 0 n.toNat l := fun l => by
    have := gFt_eq hG g l (Int.le_refl _)
    rw [hG.2.2] at this
    exact this
  refine hD.pl hBm (gPZ hn hB hG hA) (fun p p0 p1 => (i1 p p0 p1).1) (fun s s0 s1 hs => ?_) (fun l => ?_) (fun l l0 l1 hl => ?_)
  · by_cases c : gS R g s = 0
    · exact c
    · obtain ⟨p, hp, hps⟩ := i3 s c
      exact absurd hps (hs p hp.1 hp.2)
  · rw [(ef l).1]
    exact rFt_v hB (fun _ => Or.inl rfl) _ l (by omega)
  · have nsl : ∀ c, 0 ≤ c → c < n → ¬ l = slo R c := fun c c0 c1 e => by
      obtain ⟨q1, q2⟩ := hch c c0 c1
      obtain ⟨p, hp, hps⟩ := i3 (R 33 c) (by omega)
      have hz := (i1 p hp.1 hp.2).1
      rw [hps] at hz
      refine hl p (R 34 c) hp.1 hp.2 q1.1 (by omega) ?_
      rw [hps, e]
      rfl
    rw [(ef l).1, (ef l).2]
    constructor
    · exact (rFt_0 hB (Int.le_refl _) n.toNat (by omega)).mpr ⟨rfl, fun c c0 c1 q => nsl c c0 (by omega) q.2⟩
    · exact (rIt_0 (n := n) (Int.le_refl _) (fun c c0 c1 c2 => ((hch c c0 c1).2 c2).1) n.toNat (by omega)).mpr ⟨rfl, fun c c0 c1 q => nsl c c0 (by omega) q.2⟩
end MK9
