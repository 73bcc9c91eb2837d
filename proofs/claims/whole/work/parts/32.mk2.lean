/-! ===== a Book is made ===== -/
def amB (am : AM) (b B base : Nat) : AM := (am.1, (fun j => if 100 + 4 * b ≤ j ∧ j < 104 + 4 * b then base + 6 + 2 * (j - (100 + 4 * b)) else aRo am j), (fun j => if j = b + 1 then base else aPl am j), (fun j => if j = b then B else aBo am j), (fun j => if j = b then base + 5 else aLe am j), aCo am, aSt am, (fun a => if a = B then none else aSp am a))
def uB (S : CS) (s : Nat) : CS :=
  ((fun t i => if t = 1 ∧ 100 + 4 * zB S ≤ i ∧ i < 104 + 4 * zB S then 0 else if t = 6 ∧ i = zB S + 1 then 0 else if t = 7 ∧ i = zB S + 1 then -1 else zs S t i),
   (fun t i => if (t = 1 ∧ 100 + 4 * zB S ≤ i ∧ i < 104 + 4 * zB S) ∨ ((t = 3 ∨ t = 4 ∨ t = 5 ∨ t = 6) ∧ i = zB S + 1) ∨ (t = 7 ∧ i = zB S) then (fun _ => 0) else za S t i),
   (fun i => if 100 + 4 * zB S ≤ i ∧ i < 104 + 4 * zB S then 400 else zc S i),
   (fun i => if i = zB S + 1 then true else zp S i),
   (zB S + 1, zC S, zT S), S.2.2.2.2.2.1, S.2.2.2.2.2.2.1, S.2.2.2.2.2.2.2.1,
   ((fun i => if i = zB S then s else zw S i), zr S, zn S))
def nwB (b : Nat) (q : Nat × Nat) : Prop := ((q.1 = 1 ∨ q.1 = 21) ∧ 100 + 4 * b ≤ q.2 ∧ q.2 < 104 + 4 * b) ∨ ((q.1 = 2 ∨ q.1 = 23 ∨ q.1 = 24 ∨ q.1 = 25 ∨ q.1 = 26) ∧ q.2 = b + 1) ∨ ((q.1 = 3 ∨ q.1 = 27) ∧ q.2 = b)
section MKB
variable {am : AM} {b1 b2 : Nat} {S : CS} {h : AH} {B base s : Nat}
theorem amB_ro {b j : Nat} (hj : ¬ (100 + 4 * b ≤ j ∧ j < 104 + 4 * b)) : aRo (amB am b B base) j = aRo am j := if_neg hj
theorem amB_pl {b j : Nat} (hj : j ≠ b + 1) : aPl (amB am b B base) j = aPl am j := if_neg hj
theorem amB_bo {b j : Nat} (hj : j ≠ b) : aBo (amB am b B base) j = aBo am j := if_neg hj
theorem amB_le {b j : Nat} (hj : j ≠ b) : aLe (amB am b B base) j = aLe am j := if_neg hj
theorem amB_ar {b t i : Nat} (hn : ¬ nwB b (20 + t, i)) : aAr (amB am b B base) t i = aAr am t i := by
  unfold nwB at hn
  simp only at hn
  unfold aAr
  by_cases h1 : t = 1
  · rw [if_pos h1, if_pos h1, amB_ro (by omega)]
  rw [if_neg h1, if_neg h1]
  by_cases h2 : t = 2
  · rw [if_pos h2, if_pos h2]; rfl
  rw [if_neg h2, if_neg h2]
  by_cases h3 : t = 3
  · rw [if_pos h3, if_pos h3, amB_pl (by omega)]
  rw [if_neg h3, if_neg h3]
  by_cases h4 : t = 4
  · rw [if_pos h4, if_pos h4, amB_pl (by omega)]
  rw [if_neg h4, if_neg h4]
  by_cases h5 : t = 5
  · rw [if_pos h5, if_pos h5, amB_pl (by omega)]
  rw [if_neg h5, if_neg h5]
  by_cases h6 : t = 6
  · rw [if_pos h6, if_pos h6, amB_pl (by omega)]
  rw [if_neg h6, if_neg h6]
  by_cases h7 : t = 7
  · rw [if_pos h7, if_pos h7, amB_le (by omega)]
  rw [if_neg h7, if_neg h7]
  rfl
theorem adr_B {b : Nat} {q : Nat × Nat} (hn : ¬ nwB b q) : adr (amB am b B base) q = adr am q := by
  obtain ⟨c, i⟩ := q
  have hn0 := hn
  unfold nwB at hn
  simp only at hn
  by_cases h14 : 14 ≤ c
  · by_cases h20 : 20 ≤ c
    · obtain ⟨t, rfl⟩ : ∃ t, c = 20 + t := ⟨c - 20, by omega⟩
      rw [adr_ar, adr_ar, amB_ar hn0]
    · have e : ∀ a9 : AM, adr a9 (c, i) = aAr a9 0 i := fun a9 => by
        unfold adr
        simp only
        rw [if_neg (by omega), if_neg (by omega), if_neg (by omega), if_neg (by omega), if_neg (by omega), if_neg (by omega), if_neg (by omega), if_neg (by omega), if_neg (by omega), if_neg (by omega), if_neg (by omega), if_neg (by omega), if_neg (by omega), show c - 20 = 0 by omega]
      rw [e, e]
      rfl
  · unfold adr
    simp only
    by_cases h1 : c = 1
    · rw [if_pos h1, if_pos h1, amB_ro (by omega)]
    rw [if_neg h1, if_neg h1]
    by_cases h2 : c = 2
    · rw [if_pos h2, if_pos h2, amB_pl (by omega)]
    rw [if_neg h2, if_neg h2]
    by_cases h3 : c = 3
    · rw [if_pos h3, if_pos h3, amB_bo (by omega)]
    rw [if_neg h3, if_neg h3]
    by_cases h4 : c = 4
    · rw [if_pos h4, if_pos h4]; rfl
    rw [if_neg h4, if_neg h4]
    by_cases h0 : c = 0
    · subst h0; rfl
    have : c = 5 ∨ c = 6 ∨ c = 7 ∨ c = 8 ∨ c = 9 ∨ c = 10 ∨ c = 11 ∨ c = 12 ∨ c = 13 := by omega
    rcases this with rfl | rfl | rfl | rfl | rfl | rfl | rfl | rfl | rfl <;> rfl
theorem uB_zs {t i : Nat} (h1 : ¬ (t = 1 ∧ 100 + 4 * zB S ≤ i ∧ i < 104 + 4 * zB S)) (h2 : ¬ ((t = 6 ∨ t = 7) ∧ i = zB S + 1)) : zs (uB S s) t i = zs S t i := (if_neg h1).trans ((if_neg (by omega)).trans (if_neg (by omega)))
theorem cel_B (hb : zB S ≤ 24) (hW : WF S) {q : Nat × Nat} (hq : kx S q = true) (hn : ¬ nwB (zB S) q) : cel (amB am (zB S) B base) (uB S s) q = cel am S q := by
  obtain ⟨c, i⟩ := q
  have hn0 := hn
  unfold nwB at hn
  simp only at hn
  have hlt := kx_lt hq
  unfold cel
  by_cases h14 : 14 ≤ c
  · rw [if_pos h14, if_pos h14]
    simp only
    have h20 : 20 ≤ c := by
      by_cases h20 : 20 ≤ c
      · exact h20
      · exfalso
        unfold kx at hq
        simp only at hq
        rw [if_neg (by omega), if_neg (by omega), if_neg (by omega), if_neg (by omega), if_neg (by omega)] at hq
        cases hq
    have e1 : za (uB S s) (c - 20) i = za S (c - 20) i := if_neg (by omega)
    have e2 : zl (uB S s) (c - 20) i = zl S (c - 20) i := by
      unfold zl
      by_cases h1 : c - 20 = 1
      · rw [if_pos h1, if_pos h1]
        exact if_neg (by omega)
      · rw [if_neg h1, if_neg h1]
    rw [e1, e2]
  rw [if_neg h14, if_neg h14]
  simp only
  by_cases h1 : c = 1
  · subst h1
    rw [if_pos rfl, if_pos rfl, uB_zs (by omega) (by omega), amB_ar (fun q => hn0 (by unfold nwB at q ⊢; simp only at q ⊢; omega))]
  rw [if_neg h1, if_neg h1]
  by_cases h2 : c = 2
  · subst h2
    rw [if_pos rfl, if_pos rfl, uB_zs (by omega) (by omega), uB_zs (by omega) (by omega), amB_ar (t := 3) (fun q => hn0 (by unfold nwB at q ⊢; simp only at q ⊢; omega)), amB_ar (t := 4) (fun q => hn0 (by unfold nwB at q ⊢; simp only at q ⊢; omega)), amB_ar (t := 5) (fun q => hn0 (by unfold nwB at q ⊢; simp only at q ⊢; omega)), amB_ar (t := 6) (fun q => hn0 (by unfold nwB at q ⊢; simp only at q ⊢; omega))]
  rw [if_neg h2, if_neg h2]
  by_cases h3 : c = 3
  · subst h3
    have hi : i < zB S := of_decide_eq_true hq
    have ew : zw (uB S s) i = zw S i := if_neg (by omega)
    rw [if_pos rfl, if_pos rfl, ew, amB_pl (by omega), amB_ar (t := 7) (fun q => hn0 (by unfold nwB at q ⊢; simp only at q ⊢; omega)), amB_ro (by omega), amB_ro (by omega), amB_ro (by omega), amB_ro (by omega)]
    rfl
  rw [if_neg h3, if_neg h3]
  by_cases h4 : c = 4
  · subst h4
    have hi : i < zC S := of_decide_eq_true hq
    have hr := (hW.2.1 i hi).2
    have er : zr (uB S s) i = zr S i := rfl
    have en : zn (uB S s) i = zn S i := rfl
    rw [if_pos rfl, if_pos rfl, er, en, uB_zs (by omega) (by omega), amB_bo (by omega), amB_ro (by omega), amB_ro (by omega), amB_ro (by omega), amB_ro (by omega), amB_ro (by omega)]
    rfl
  rw [if_neg h4, if_neg h4]
  by_cases h5 : c = 5
  · rw [if_pos h5, if_pos h5, uB_zs (by omega) (by omega), uB_zs (by omega) (by omega), uB_zs (by omega) (by omega), uB_zs (by omega) (by omega), amB_pl (by omega), amB_ro (by omega)]
    rfl
  rw [if_neg h5, if_neg h5]
  by_cases h6 : c = 6
  · rw [if_pos h6, if_pos h6, uB_zs (by omega) (by omega), amB_ar (t := 2) (fun q => by unfold nwB at q; simp only at q; omega), amB_ro (by omega), amB_ro (by omega), amB_ro (by omega)]
  rw [if_neg h6, if_neg h6]
  by_cases h7 : c = 7
  · rw [if_pos h7, if_pos h7, uB_zs (by omega) (by omega), uB_zs (by omega) (by omega), uB_zs (by omega) (by omega)]
    rfl
  rw [if_neg h7, if_neg h7]
  by_cases h8 : c = 8
  · rw [if_pos h8, if_pos h8, amB_ro (by omega), amB_ro (by omega), amB_ro (by omega), amB_ro (by omega), amB_ro (by omega)]
  rw [if_neg h8, if_neg h8]
  by_cases h9 : c = 9
  · rw [if_pos h9, if_pos h9, amB_ro (by omega), amB_ro (by omega), amB_ro (by omega), amB_ro (by omega)]
  rw [if_neg h9, if_neg h9]
  by_cases h10 : c = 10
  · rw [if_pos h10, if_pos h10, amB_ar (t := 8) (fun q => by unfold nwB at q; simp only at q; omega), amB_ar (t := 9) (fun q => by unfold nwB at q; simp only at q; omega), amB_ar (t := 10) (fun q => by unfold nwB at q; simp only at q; omega)]
  rw [if_neg h10, if_neg h10]
  by_cases h11 : c = 11
  · rw [if_pos h11, if_pos h11]
    have : (fun i => (zb (uB S s) i).map (aBo (amB am (zB S) B base))) = fun i => (zb S i).map (aBo am) := funext fun j => by
      show (zb S j).map _ = _
      cases hz : zb S j with
      | none => rfl
      | some x =>
        have := hW.2.2.1 j x hz
        exact congrArg some (amB_bo (by omega))
    rw [this]
  rw [if_neg h11, if_neg h11]
  by_cases h12 : c = 12
  · rw [if_pos h12, if_pos h12]; rfl
  rw [if_neg h12, if_neg h12]
  rfl
end MKB
