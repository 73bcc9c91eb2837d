/-! ===== the model takes changes into a book ===== -/
def fM (v : Int) : Int := if v = 45 then 1 else if v = 61 then 2 else 0
def BmC (W : IS) (x n : Int) (P Z F I : Int → Int) : Prop := W.2 6 x = n ∧ (∀ p, 0 ≤ p → p < n → W.2 7 (x * 71 + p) = P p ∧ W.2 8 (x * 71 + p) = Z p) ∧ ∀ p i, 0 ≤ p → p < n → 1 ≤ i → i ≤ Z p → W.2 9 ((x * 71 + p) * 13 + i) = fM (F (P p * 12 + i - 1)) ∧ W.2 10 ((x * 71 + p) * 13 + i) = I (P p * 12 + i - 1)
/-- signs and sizes as they may be -/
def PZok (n : Int) (P Z : Int → Int) : Prop := (0 ≤ n ∧ n ≤ 71) ∧ (∀ p, 0 ≤ p → p < n → (0 ≤ P p ∧ P p ≤ 70) ∧ (1 ≤ Z p ∧ Z p ≤ 12)) ∧ ∀ p q, 0 ≤ p → p < q → q < n → P p ≠ P q
section MK4
variable {W : IS} {R : Nat → Int → Int} {x n : Int} {P Z F I : Int → Int}
theorem rFt_add {e : Int} {d : Nat} {l : Int} : ∀ d' : Nat, rFt (rFt F R e d) R (e + d) d' l = rFt F R e (d + d') l
  | 0 => rfl
  | d' + 1 => by
    show (if R 32 (e + d + d') ≠ 43 ∧ l = slo R (e + d + d') then R 32 (e + d + d') else rFt (rFt F R e d) R (e + d) d' l) = if R 32 (e + ((d + d' : Nat) : Int)) ≠ 43 ∧ l = slo R (e + ((d + d' : Nat) : Int)) then R 32 (e + ((d + d' : Nat) : Int)) else rFt F R e (d + d') l
    rw [rFt_add d', show e + ((d + d' : Nat) : Int) = e + d + d' by omega]
theorem rIt_add {e : Int} {d : Nat} {l : Int} : ∀ d' : Nat, rIt (rIt I R e d) R (e + d) d' l = rIt I R e (d + d') l
  | 0 => rfl
  | d' + 1 => by
    show (if R 32 (e + d + d') = 43 ∧ l = slo R (e + d + d') then R 35 (e + d + d') else rIt (rIt I R e d) R (e + d) d' l) = if R 32 (e + ((d + d' : Nat) : Int)) = 43 ∧ l = slo R (e + ((d + d' : Nat) : Int)) then R 35 (e + ((d + d' : Nat) : Int)) else rIt I R e (d + d') l
    rw [rIt_add d', show e + ((d + d' : Nat) : Int) = e + d + d' by omega]
theorem gFt_eq {g : Int} (hG : grB R g n) : ∀ (k : Nat) (l : Int), (k : Int) ≤ g → gFt R k l = rFt (fun _ => 0) R 0 (R 31 k).toNat l ∧ gIt R k l = rIt (fun _ => 0) R 0 (R 31 k).toNat l
  | 0, l, _ => by
    have h0 : R 31 ((0 : Nat) : Int) = 0 := hG.2.1
    rw [h0]
    exact ⟨rfl, rfl⟩
  | k + 1, l, hk => by
    have hb := (hG.1 k (by omega) (by omega)).2.2.2.2.2
    have ih := fun l => gFt_eq hG k l (by omega)
    have e1 : gFt R k = rFt (fun _ => 0) R 0 (R 31 k).toNat := funext fun l => (ih l).1
    have e2 : gIt R k = rIt (fun _ => 0) R 0 (R 31 k).toNat := funext fun l => (ih l).2
    have ek : ((k + 1 : Nat) : Int) = (k : Int) + 1 := by omega
    show rFt (gFt R k) R (R 31 k) (R 31 (k + 1) - R 31 k).toNat l = _ ∧ rIt (gIt R k) R (R 31 k) (R 31 (k + 1) - R 31 k).toNat l = _
    have es : (0 : Int) + ((R 31 k).toNat : Int) = R 31 k := by omega
    have h1 := rFt_add (F := fun _ => 0) (R := R) (e := 0) (d := (R 31 k).toNat) (l := l) (R 31 (k + 1) - R 31 k).toNat
    have h2 := rIt_add (I := fun _ => 0) (R := R) (e := 0) (d := (R 31 k).toNat) (l := l) (R 31 (k + 1) - R 31 k).toNat
    rw [es] at h1 h2
    rw [e1, e2, h1, h2, ek, show (R 31 k).toNat + (R 31 (k + 1) - R 31 k).toNat = (R 31 (k + 1)).toNat by omega]
    exact ⟨rfl, rfl⟩
theorem BmC.ok (h : BmC W x n P Z F I) (hP : PZok n P Z) (hI : ∀ l, 0 ≤ I l ∧ I l ≤ 4) : BOK (mB W x) := by
  obtain ⟨h1, h2, h3⟩ := h
  obtain ⟨p1, p2, p3⟩ := hP
  have e1 : bn (mB W x) = n := h1
  refine ⟨by rw [e1]; exact p1, fun g g0 g1 => ?_, fun g i g0 g1 i0 i1 => ?_, fun g h g0 gh h1 => ?_⟩
  · rw [e1] at g1
    have := p2 g g0 g1
    have q := h2 g g0 g1
    show (0 ≤ W.2 7 (x * 71 + g) ∧ W.2 7 (x * 71 + g) ≤ 70) ∧ (1 ≤ W.2 8 (x * 71 + g) ∧ W.2 8 (x * 71 + g) ≤ 12)
    rw [q.1, q.2]
    exact this
  · rw [e1] at g1
    have q := h2 g g0 g1
    have i1' : i ≤ W.2 8 (x * 71 + g) := i1
    rw [q.2] at i1'
    have r := h3 g i g0 g1 i0 i1'
    show (0 ≤ W.2 9 ((x * 71 + g) * 13 + i) ∧ W.2 9 ((x * 71 + g) * 13 + i) ≤ 2) ∧ 0 ≤ W.2 10 ((x * 71 + g) * 13 + i) ∧ W.2 10 ((x * 71 + g) * 13 + i) ≤ 4
    rw [r.1, r.2]
    refine ⟨?_, hI _⟩
    unfold fM
    split
    · omega
    · split <;> omega
  · rw [e1] at h1
    show W.2 7 (x * 71 + g) ≠ W.2 7 (x * 71 + h)
    rw [(h2 g g0 (by omega)).1, (h2 h (by omega) h1).1]
    exact p3 g h g0 gh h1
end MK4
