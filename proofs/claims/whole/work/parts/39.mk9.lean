/-! ===== a Copy is made: the room ===== -/
def amC (am : AM) (c C base : Nat) : AM := (am.1, (fun j => if 200 + 5 * c ≤ j ∧ j < 205 + 5 * c then base + 2 * (j - (200 + 5 * c)) else aRo am j), aPl am, aBo am, aLe am, (fun j => if j = c then C else aCo am j), aSt am, (fun a => if a = C then none else aSp am a))
def uC (S : CS) (n : Int32) (b s : Nat) : CS :=
  ((fun t i => if t = 1 ∧ 200 + 5 * zC S ≤ i ∧ i < 205 + 5 * zC S then 0 else if t = 12 ∧ i = zC S then n else zs S t i),
   (fun t i => if t = 1 ∧ 200 + 5 * zC S ≤ i ∧ i < 205 + 5 * zC S then (fun _ => 0) else za S t i),
   (fun i => if 200 + 5 * zC S ≤ i ∧ i < 205 + 5 * zC S then 400 else zc S i),
   zp S, (zB S, zC S + 1, zT S), S.2.2.2.2.2.1, S.2.2.2.2.2.2.1, S.2.2.2.2.2.2.2.1,
   (zw S, (fun i => if i = zC S then b else zr S i), (fun i => if i = zC S then s else zn S i)))
def nwC (c : Nat) (q : Nat × Nat) : Prop := ((q.1 = 1 ∨ q.1 = 21) ∧ 200 + 5 * c ≤ q.2 ∧ q.2 < 205 + 5 * c) ∨ (q.1 = 4 ∧ q.2 = c)
def oC (own : Nat → Nat × Nat) (c C base a : Nat) : Nat × Nat := if a = C then (4, c) else if a < base then own a else if (a - base) % 2 = 0 then (1, 200 + 5 * c + (a - base) / 2) else (21, 200 + 5 * c + (a - base) / 2)
section MKI
variable {am : AM} {b1 b2 : Nat} {S : CS} {h : AH} {C base s b c : Nat} {n : Int32} {own : Nat → Nat × Nat}
theorem oC_old {a : Nat} (h1 : a ≠ C) (h2 : a < base) : oC own c C base a = own a := (if_neg h1).trans (if_pos h2)
theorem oC_row {k : Nat} (h1 : C < base) : oC own c C base (base + 2 * k) = (1, 200 + 5 * c + k) ∧ oC own c C base (base + 2 * k + 1) = (21, 200 + 5 * c + k) := by
  unfold oC
  constructor
  · rw [if_neg (by omega), if_neg (by omega), if_pos (by omega)]
    exact Prod.ext rfl (by show 200 + 5 * c + (base + 2 * k - base) / 2 = 200 + 5 * c + k; omega)
  · rw [if_neg (by omega), if_neg (by omega), if_neg (by omega)]
    exact Prod.ext rfl (by show 200 + 5 * c + (base + 2 * k + 1 - base) / 2 = 200 + 5 * c + k; omega)
theorem amC_ro {j : Nat} (hj : ¬ (200 + 5 * c ≤ j ∧ j < 205 + 5 * c)) : aRo (amC am c C base) j = aRo am j := if_neg hj
theorem amC_co {j : Nat} (hj : j ≠ c) : aCo (amC am c C base) j = aCo am j := if_neg hj
theorem amC_ar {t i : Nat} (hn : ¬ nwC c (20 + t, i)) : aAr (amC am c C base) t i = aAr am t i := by
  unfold nwC at hn
  simp only at hn
  unfold aAr
  by_cases h1 : t = 1
  · rw [if_pos h1, if_pos h1, amC_ro (by omega)]
  rw [if_neg h1, if_neg h1]
  rfl
theorem adr_C {q : Nat × Nat} (hn : ¬ nwC c q) : adr (amC am c C base) q = adr am q := by
  obtain ⟨d, i⟩ := q
  have hn0 := hn
  unfold nwC at hn
  simp only at hn
  by_cases h14 : 14 ≤ d
  · by_cases h20 : 20 ≤ d
    · obtain ⟨t, rfl⟩ : ∃ t, d = 20 + t := ⟨d - 20, by omega⟩
      rw [adr_ar, adr_ar, amC_ar hn0]
    · have e : ∀ a9 : AM, adr a9 (d, i) = aAr a9 0 i := fun a9 => by
        unfold adr
        simp only
        rw [if_neg (by omega), if_neg (by omega), if_neg (by omega), if_neg (by omega), if_neg (by omega), if_neg (by omega), if_neg (by omega), if_neg (by omega), if_neg (by omega), if_neg (by omega), if_neg (by omega), if_neg (by omega), if_neg (by omega), show d - 20 = 0 by omega]
      rw [e, e]
      rfl
  · unfold adr
    simp only
    by_cases h1 : d = 1
    · rw [if_pos h1, if_pos h1, amC_ro (by omega)]
    rw [if_neg h1, if_neg h1]
    by_cases h2 : d = 2
    · rw [if_pos h2, if_pos h2]; rfl
    rw [if_neg h2, if_neg h2]
    by_cases h3 : d = 3
    · rw [if_pos h3, if_pos h3]; rfl
    rw [if_neg h3, if_neg h3]
    by_cases h4 : d = 4
    · rw [if_pos h4, if_pos h4, amC_co (by omega)]
    rw [if_neg h4, if_neg h4]
    by_cases h0 : d = 0
    · subst h0; rfl
    have : d = 5 ∨ d = 6 ∨ d = 7 ∨ d = 8 ∨ d = 9 ∨ d = 10 ∨ d = 11 ∨ d = 12 ∨ d = 13 := by omega
    rcases this with rfl | rfl | rfl | rfl | rfl | rfl | rfl | rfl | rfl <;> rfl
theorem uC_zs {t i : Nat} (h1 : ¬ (t = 1 ∧ 200 + 5 * zC S ≤ i ∧ i < 205 + 5 * zC S)) (h2 : ¬ (t = 12 ∧ i = zC S)) : zs (uC S n b s) t i = zs S t i := (if_neg h1).trans (if_neg h2)
theorem cel_C (hb : zB S ≤ 24) (hW : WF S) {q : Nat × Nat} (hq : kx S q = true) (hn : ¬ nwC (zC S) q) : cel (amC am (zC S) C base) (uC S n b s) q = cel am S q := by
  obtain ⟨d, i⟩ := q
  have hn0 := hn
  unfold nwC at hn
  simp only at hn
  have hlt := kx_lt hq
  unfold cel
  by_cases h14 : 14 ≤ d
  · rw [if_pos h14, if_pos h14]
    simp only
    have h20 : 20 ≤ d := by
      by_cases h20 : 20 ≤ d
      · exact h20
      · exfalso
        unfold kx at hq
        simp only at hq
        rw [if_neg (by omega), if_neg (by omega), if_neg (by omega), if_neg (by omega), if_neg (by omega)] at hq
        cases hq
    have e1 : za (uC S n b s) (d - 20) i = za S (d - 20) i := if_neg (by omega)
    have e2 : zl (uC S n b s) (d - 20) i = zl S (d - 20) i := by
      unfold zl
      by_cases h1 : d - 20 = 1
      · rw [if_pos h1, if_pos h1]
        exact if_neg (by omega)
      · rw [if_neg h1, if_neg h1]
    rw [e1, e2]
  rw [if_neg h14, if_neg h14]
  simp only
  by_cases h1 : d = 1
  · subst h1
    rw [if_pos rfl, if_pos rfl, uC_zs (by omega) (by omega), amC_ar (fun q => hn0 (by unfold nwC at q ⊢; simp only at q ⊢; omega))]
  rw [if_neg h1, if_neg h1]
  by_cases h2 : d = 2
  · subst h2
    rw [if_pos rfl, if_pos rfl, uC_zs (by omega) (by omega), uC_zs (by omega) (by omega)]
    rfl
  rw [if_neg h2, if_neg h2]
  by_cases h3 : d = 3
  · subst h3
    have hi : i < zB S := of_decide_eq_true hq
    have ew : zw (uC S n b s) i = zw S i := rfl
    rw [if_pos rfl, if_pos rfl, ew, amC_ro (by omega), amC_ro (by omega), amC_ro (by omega), amC_ro (by omega)]
    rfl
  rw [if_neg h3, if_neg h3]
  by_cases h4 : d = 4
  · subst h4
    have hi : i < zC S := of_decide_eq_true hq
    have er : zr (uC S n b s) i = zr S i := if_neg (by omega)
    have en : zn (uC S n b s) i = zn S i := if_neg (by omega)
    rw [if_pos rfl, if_pos rfl, er, en, uC_zs (by omega) (by omega), amC_ro (by omega), amC_ro (by omega), amC_ro (by omega), amC_ro (by omega), amC_ro (by omega)]
    rfl
  rw [if_neg h4, if_neg h4]
  by_cases h5 : d = 5
  · rw [if_pos h5, if_pos h5, uC_zs (by omega) (by omega), uC_zs (by omega) (by omega), uC_zs (by omega) (by omega), uC_zs (by omega) (by omega), amC_ro (by omega)]
    rfl
  rw [if_neg h5, if_neg h5]
  by_cases h6 : d = 6
  · rw [if_pos h6, if_pos h6, uC_zs (by omega) (by omega), amC_ro (by omega), amC_ro (by omega), amC_ro (by omega)]
    rfl
  rw [if_neg h6, if_neg h6]
  by_cases h7 : d = 7
  · rw [if_pos h7, if_pos h7, uC_zs (by omega) (by omega), uC_zs (by omega) (by omega), uC_zs (by omega) (by omega)]
    rfl
  rw [if_neg h7, if_neg h7]
  by_cases h8 : d = 8
  · rw [if_pos h8, if_pos h8, amC_ro (by omega), amC_ro (by omega), amC_ro (by omega), amC_ro (by omega), amC_ro (by omega)]
  rw [if_neg h8, if_neg h8]
  by_cases h9 : d = 9
  · rw [if_pos h9, if_pos h9, amC_ro (by omega), amC_ro (by omega), amC_ro (by omega), amC_ro (by omega)]
  rw [if_neg h9, if_neg h9]
  by_cases h10 : d = 10
  · rw [if_pos h10, if_pos h10]; rfl
  rw [if_neg h10, if_neg h10]
  by_cases h11 : d = 11
  · rw [if_pos h11, if_pos h11]; rfl
  rw [if_neg h11, if_neg h11]
  by_cases h12 : d = 12
  · rw [if_pos h12, if_pos h12]
    have : (fun i => (zd (uC S n b s) i).map (aCo (amC am (zC S) C base))) = fun i => (zd S i).map (aCo am) := funext fun j => by
      show (zd S j).map _ = _
      cases hz : zd S j with
      | none => rfl
      | some x =>
        have := hW.2.2.2 j x hz
        exact congrArg some (amC_co (by omega))
    rw [this]
  rw [if_neg h12, if_neg h12]
  rfl
end MKI
