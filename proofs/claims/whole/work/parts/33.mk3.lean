/-! ===== a Book is made: the room ===== -/
def oB (own : Nat → Nat × Nat) (b B base a : Nat) : Nat × Nat := if a = B then (3, b) else if a < base then own a else if a = base then (2, b + 1) else if a < base + 5 then (22 + (a - base), b + 1) else if a = base + 5 then (27, b) else if (a - base) % 2 = 0 then (1, 97 + 4 * b + (a - base) / 2) else (21, 97 + 4 * b + (a - base) / 2)
section MKB
variable {am : AM} {b1 b2 : Nat} {S : CS} {h : AH} {B base s : Nat} {own : Nat → Nat × Nat} {b : Nat}
theorem uB_6 : zs (uB S s) 6 (zB S + 1) = 0 := by
  show (if (6 : Nat) = 1 ∧ 100 + 4 * zB S ≤ zB S + 1 ∧ zB S + 1 < 104 + 4 * zB S then (0 : Int32) else if (6 : Nat) = 6 ∧ zB S + 1 = zB S + 1 then 0 else if (6 : Nat) = 7 ∧ zB S + 1 = zB S + 1 then -1 else zs S 6 (zB S + 1)) = 0
  rw [if_neg (by omega), if_pos ⟨rfl, rfl⟩]
theorem uB_7 : zs (uB S s) 7 (zB S + 1) = -1 := by
  show (if (7 : Nat) = 1 ∧ 100 + 4 * zB S ≤ zB S + 1 ∧ zB S + 1 < 104 + 4 * zB S then (0 : Int32) else if (7 : Nat) = 6 ∧ zB S + 1 = zB S + 1 then 0 else if (7 : Nat) = 7 ∧ zB S + 1 = zB S + 1 then -1 else zs S 7 (zB S + 1)) = -1
  rw [if_neg (by omega), if_neg (by omega), if_pos ⟨rfl, rfl⟩]
theorem oB_old {a : Nat} (h1 : a ≠ B) (h2 : a < base) : oB own b B base a = own a := (if_neg h1).trans (if_pos h2)
theorem oB_row {k : Nat} (h1 : B < base) : oB own b B base (base + 6 + 2 * k) = (1, 100 + 4 * b + k) ∧ oB own b B base (base + 6 + 2 * k + 1) = (21, 100 + 4 * b + k) := by
  unfold oB
  constructor
  · rw [if_neg (by omega), if_neg (by omega), if_neg (by omega), if_neg (by omega), if_neg (by omega), if_pos (by omega)]
    exact Prod.ext rfl (by show 97 + 4 * b + (base + 6 + 2 * k - base) / 2 = 100 + 4 * b + k; omega)
  · rw [if_neg (by omega), if_neg (by omega), if_neg (by omega), if_neg (by omega), if_neg (by omega), if_neg (by omega)]
    exact Prod.ext rfl (by show 97 + 4 * b + (base + 6 + 2 * k + 1 - base) / 2 = 100 + 4 * b + k; omega)
theorem oB_pl {k : Nat} (h1 : B < base) (hk : k < 4) : oB own b B base (base + 1 + k) = (23 + k, b + 1) := by
  unfold oB
  rw [if_neg (by omega), if_neg (by omega), if_neg (by omega), if_pos (by omega)]
  exact Prod.ext (by show 22 + (base + 1 + k - base) = 23 + k; omega) rfl
theorem RC.newB (hR : RC am b1 b2 S h) (hb : zB S ≤ 24) {e0 : va_E} (hB : aSp am B = some e0) (hB9 : am.1 + 79 ≤ B) (hs9 : s < zT S) {h' : AH} (e1 : h'.1 = h.1 + 14) (e2 : h'.2.1 = h.2.1 + 4312) (e3 : h'.2.2.2 = h.2.2.2) (e4 : ∀ a, a < h.1 → a ≠ B → ce h' a = ce h a) (e5 : ce h' B = .inr (2, [.ref h.1, .ref (h.1 + 5), .ref (h.1 + 6), .ref (h.1 + 8), .ref (h.1 + 10), .ref (h.1 + 12), .ref (aSt am s)])) (e6 : ce h' h.1 = .inr (7, [.ref (h.1 + 1), .ref (h.1 + 2), .ref (h.1 + 3), .ref (h.1 + 4), .int 0, .int (-1)])) (e7 : ce h' (h.1 + 1) = .inl (0, 71, .inl fun _ => 0)) (e8 : ce h' (h.1 + 2) = .inl (0, 71, .inl fun _ => 0)) (e9 : ce h' (h.1 + 3) = .inl (1, 852, .inl fun _ => 0)) (e10 : ce h' (h.1 + 4) = .inl (1, 852, .inl fun _ => 0)) (e11 : ce h' (h.1 + 5) = .inl (0, 852, .inl fun _ => 0)) (e12 : ∀ i, i < 4 → ce h' (h.1 + 6 + 2 * i) = .inr (9, [.ref (h.1 + 6 + 2 * i + 1), .int 0]) ∧ ce h' (h.1 + 6 + 2 * i + 1) = .inl (0, 400, .inl fun _ => 0)) : RC (amB am (zB S) B h.1) (b1 + 14) (b2 + 4312) (uB S s) h' ∧ FrC am h h' := by
  obtain ⟨own, v, cap, gr, fb, q1, hT, o1, o2, v1, v2, v3, hst, r1, r2, r3, r4, r5, r6, r7, hW⟩ := hR
  obtain ⟨z, t1, t2, t3, t4, t5, t6, t7, t8, t9⟩ := hT
  obtain ⟨w1, w2, w3⟩ := r7 B e0 hB
  have ne : ∀ a k, own a = k → k ≠ (70, 0) → a ≠ B := fun a k ha hk e => hk (by rw [← ha, e, w2])
  have nk : ∀ a b : Nat, a ≠ 70 → ((a, b) : Nat × Nat) ≠ (70, 0) := fun a b hk e => hk (congrArg Prod.fst e)
  have sp : ∀ a e, aSp (amB am (zB S) B h.1) a = some e → a ≠ B ∧ aSp am a = some e := fun a e he => by
    by_cases ha : a = B
    · have : aSp (amB am (zB S) B h.1) a = none := if_pos ha
      rw [this] at he
      cases he
    · have : aSp (amB am (zB S) B h.1) a = aSp am a := if_neg ha
      exact ⟨ha, by rw [← this]; exact he⟩
  have nM := ne (am.1 + 42) _ o1 (nk _ _ (by omega))
  have nV := ne v _ o2 (nk _ _ (by omega))
  refine ⟨⟨oB own (zB S) B h.1, v, cap, gr, fb, fun q hq => ?_, ⟨z, ?_, t2, ?_, t4, t5, t6, t7, t8, t9⟩, ?_, ?_, ?_, v2, v3, fun i hi => ?_, ?_, ?_, ?_, ?_, r5, ?_, fun a e he => ?_, ?_⟩, ?_, e3, fun a ha => e4 a ?_ ?_⟩
  · by_cases hn : nwB (zB S) q
    · obtain ⟨c, i⟩ := q
      unfold nwB at hn
      simp only at hn
      rcases hn with ⟨hc, hi, hi2⟩ | ⟨hc, hi⟩ | ⟨hc, hi⟩
      · obtain ⟨k, rfl⟩ : ∃ k, i = 100 + 4 * zB S + k := ⟨i - (100 + 4 * zB S), by omega⟩
        have hk : k < 4 := by omega
        have ea : aRo (amB am (zB S) B h.1) (100 + 4 * zB S + k) = h.1 + 6 + 2 * k := (if_pos ⟨hi, hi2⟩).trans (by omega)
        have e13 : aAr (amB am (zB S) B h.1) 1 (100 + 4 * zB S + k) = h.1 + 6 + 2 * k + 1 := congrArg (· + 1) ea
        obtain ⟨u1, u2⟩ := e12 k hk
        obtain ⟨y1, y2⟩ := oB_row (own := own) (b := zB S) (k := k) w3
        rcases hc with rfl | rfl
        · have e14 : adr (amB am (zB S) B h.1) (1, 100 + 4 * zB S + k) = h.1 + 6 + 2 * k := ea
          have e15 : cel (amB am (zB S) B h.1) (uB S s) (1, 100 + 4 * zB S + k) = .inr (9, [.ref (aAr (amB am (zB S) B h.1) 1 (100 + 4 * zB S + k)), .int (zs (uB S s) 1 (100 + 4 * zB S + k))]) := rfl
          have e16 : zs (uB S s) 1 (100 + 4 * zB S + k) = 0 := if_pos ⟨rfl, hi, hi2⟩
          rw [e14, e15, e13, e16]
          exact ⟨u1, y1, by omega, Or.inr (by show am.1 + 79 ≤ _; omega), by show am.1 ≤ _; omega⟩
        · have e14 : adr (amB am (zB S) B h.1) (21, 100 + 4 * zB S + k) = h.1 + 6 + 2 * k + 1 := e13
          have e15 : cel (amB am (zB S) B h.1) (uB S s) (21, 100 + 4 * zB S + k) = .inl (0, zl (uB S s) 1 (100 + 4 * zB S + k), .inl (za (uB S s) 1 (100 + 4 * zB S + k))) := rfl
          have e16 : za (uB S s) 1 (100 + 4 * zB S + k) = fun _ => 0 := if_pos (Or.inl ⟨rfl, hi, hi2⟩)
          have e17 : zl (uB S s) 1 (100 + 4 * zB S + k) = 400 := by
            unfold zl
            rw [if_pos rfl]
            exact if_pos ⟨hi, hi2⟩
          rw [e14, e15, e16, e17]
          exact ⟨u2, y2, by omega, Or.inr (by show am.1 + 79 ≤ _; omega), by show am.1 ≤ _; omega⟩
      · subst hi
        have ea : aPl (amB am (zB S) B h.1) (zB S + 1) = h.1 := if_pos rfl
        have e3' : aAr (amB am (zB S) B h.1) 3 (zB S + 1) = h.1 + 1 := congrArg (· + 1) ea
        have e4' : aAr (amB am (zB S) B h.1) 4 (zB S + 1) = h.1 + 2 := congrArg (· + 2) ea
        have e5' : aAr (amB am (zB S) B h.1) 5 (zB S + 1) = h.1 + 3 := congrArg (· + 3) ea
        have e6' : aAr (amB am (zB S) B h.1) 6 (zB S + 1) = h.1 + 4 := congrArg (· + 4) ea
        have f16 : zs (uB S s) 6 (zB S + 1) = 0 := uB_6
        have f17 : zs (uB S s) 7 (zB S + 1) = -1 := uB_7
        have fz : ∀ t, (t = 3 ∨ t = 4 ∨ t = 5 ∨ t = 6) → za (uB S s) t (zB S + 1) = fun _ => 0 := fun t ht => if_pos (Or.inr (Or.inl ⟨ht, rfl⟩))
        rcases hc with rfl | rfl | rfl | rfl | rfl
        · have e14 : adr (amB am (zB S) B h.1) (2, zB S + 1) = h.1 := ea
          have e15 : cel (amB am (zB S) B h.1) (uB S s) (2, zB S + 1) = .inr (7, [.ref (aAr (amB am (zB S) B h.1) 3 (zB S + 1)), .ref (aAr (amB am (zB S) B h.1) 4 (zB S + 1)), .ref (aAr (amB am (zB S) B h.1) 5 (zB S + 1)), .ref (aAr (amB am (zB S) B h.1) 6 (zB S + 1)), .int (zs (uB S s) 6 (zB S + 1)), .int (zs (uB S s) 7 (zB S + 1))]) := rfl
          rw [e14, e15, e3', e4', e5', e6', f16, f17]
          exact ⟨e6, (if_neg (by omega)).trans ((if_neg (by omega)).trans (if_pos rfl)), by omega, Or.inr (by show am.1 + 79 ≤ _; omega), by show am.1 ≤ _; omega⟩
        · have e14 : adr (amB am (zB S) B h.1) (23, zB S + 1) = h.1 + 1 := e3'
          have e15 : cel (amB am (zB S) B h.1) (uB S s) (23, zB S + 1) = .inl (0, 71, .inl (za (uB S s) 3 (zB S + 1))) := rfl
          rw [e14, e15, fz 3 (by omega)]
          exact ⟨e7, oB_pl (k := 0) w3 (by omega), by omega, Or.inr (by show am.1 + 79 ≤ _; omega), by show am.1 ≤ _; omega⟩
        · have e14 : adr (amB am (zB S) B h.1) (24, zB S + 1) = h.1 + 2 := e4'
          have e15 : cel (amB am (zB S) B h.1) (uB S s) (24, zB S + 1) = .inl (0, 71, .inl (za (uB S s) 4 (zB S + 1))) := rfl
          rw [e14, e15, fz 4 (by omega)]
          exact ⟨e8, oB_pl (k := 1) w3 (by omega), by omega, Or.inr (by show am.1 + 79 ≤ _; omega), by show am.1 ≤ _; omega⟩
        · have e14 : adr (amB am (zB S) B h.1) (25, zB S + 1) = h.1 + 3 := e5'
          have e15 : cel (amB am (zB S) B h.1) (uB S s) (25, zB S + 1) = .inl (1, 852, .inl (za (uB S s) 5 (zB S + 1))) := rfl
          rw [e14, e15, fz 5 (by omega)]
          exact ⟨e9, oB_pl (k := 2) w3 (by omega), by omega, Or.inr (by show am.1 + 79 ≤ _; omega), by show am.1 ≤ _; omega⟩
        · have e14 : adr (amB am (zB S) B h.1) (26, zB S + 1) = h.1 + 4 := e6'
          have e15 : cel (amB am (zB S) B h.1) (uB S s) (26, zB S + 1) = .inl (1, 852, .inl (za (uB S s) 6 (zB S + 1))) := rfl
          rw [e14, e15, fz 6 (by omega)]
          exact ⟨e10, oB_pl (k := 3) w3 (by omega), by omega, Or.inr (by show am.1 + 79 ≤ _; omega), by show am.1 ≤ _; omega⟩
      · subst hi
        rcases hc with rfl | rfl
        · have e14 : adr (amB am (zB S) B h.1) (3, zB S) = B := if_pos rfl
          have p1 : aPl (amB am (zB S) B h.1) (zB S + 1) = h.1 := if_pos rfl
          have p2 : aAr (amB am (zB S) B h.1) 7 (zB S) = h.1 + 5 := if_pos rfl
          have p3 : ∀ k, k < 4 → aRo (amB am (zB S) B h.1) (100 + k + 4 * zB S) = h.1 + 6 + 2 * k := fun k hk => (if_pos (by omega)).trans (by omega)
          have p4 : zw (uB S s) (zB S) = s := if_pos rfl
          have e15 : cel (amB am (zB S) B h.1) (uB S s) (3, zB S) = .inr (2, [.ref (aPl (amB am (zB S) B h.1) (zB S + 1)), .ref (aAr (amB am (zB S) B h.1) 7 (zB S)), .ref (aRo (amB am (zB S) B h.1) (100 + 0 + 4 * zB S)), .ref (aRo (amB am (zB S) B h.1) (100 + 1 + 4 * zB S)), .ref (aRo (amB am (zB S) B h.1) (100 + 2 + 4 * zB S)), .ref (aRo (amB am (zB S) B h.1) (100 + 3 + 4 * zB S)), .ref (aSt (amB am (zB S) B h.1) (zw (uB S s) (zB S)))]) := rfl
          rw [e14, e15, p1, p2, p3 0 (by omega), p3 1 (by omega), p3 2 (by omega), p3 3 (by omega), p4]
          exact ⟨e5, if_pos rfl, by omega, Or.inr hB9, by show am.1 ≤ B; omega⟩
        · have e14 : adr (amB am (zB S) B h.1) (27, zB S) = h.1 + 5 := if_pos rfl
          have e15 : cel (amB am (zB S) B h.1) (uB S s) (27, zB S) = .inl (0, 852, .inl (za (uB S s) 7 (zB S))) := rfl
          have e16 : za (uB S s) 7 (zB S) = fun _ => 0 := if_pos (Or.inr (Or.inr ⟨rfl, rfl⟩))
          rw [e14, e15, e16]
          exact ⟨e11, (if_neg (by omega)).trans ((if_neg (by omega)).trans ((if_neg (by omega)).trans ((if_neg (by omega)).trans (if_pos rfl)))), by omega, Or.inr (by show am.1 + 79 ≤ _; omega), by show am.1 ≤ _; omega⟩
    · have hq0 : kx S q = true := by
        obtain ⟨c, i⟩ := q
        have hn0 := hn
        unfold nwB at hn
        simp only at hn
        unfold kx at hq ⊢
        simp only at hq ⊢
        by_cases k1 : c = 1 ∨ c = 21
        · rw [if_pos k1] at hq ⊢
          have e : zc (uB S s) i = zc S i := if_neg (by omega)
          rw [e] at hq; exact hq
        rw [if_neg k1] at hq ⊢
        by_cases k2 : c = 2 ∨ c = 23 ∨ c = 24 ∨ c = 25 ∨ c = 26
        · rw [if_pos k2] at hq ⊢
          have e : zp (uB S s) i = zp S i := if_neg (by omega)
          rw [e] at hq; exact hq
        rw [if_neg k2] at hq ⊢
        by_cases k3 : c = 3 ∨ c = 27
        · rw [if_pos k3] at hq ⊢
          have e : i < zB S + 1 := of_decide_eq_true hq
          exact decide_eq_true (by omega)
        rw [if_neg k3] at hq ⊢
        exact hq
      obtain ⟨c1, c2, c3, c4, c5⟩ := q1 q hq0
      have hlt := kx_lt hq0
      have na : adr am q ≠ B := ne _ _ c2 (fun e => by rw [e] at hlt; exact absurd hlt (by decide))
      rw [adr_B hn, cel_B hb hW hq0 hn]
      exact ⟨by rw [e4 _ c3 na]; exact c1, by rw [oB_old na c3]; exact c2, by omega, c4, c5⟩
  · exact (e4 _ (show am.1 + 42 < h.1 by omega) nM).trans t1
  · exact (e4 _ v1 nV).trans t3
  · exact (oB_old nM (show am.1 + 42 < h.1 by omega)).trans o1
  · exact (oB_old nV v1).trans o2
  · omega
  · obtain ⟨c, w, j0, s1, s2, s8, s9, s3, s4, s5, cc, t, f, rest, u1, u2, u3, u4⟩ := hst i hi
    have n1 := ne _ _ s1 (nk _ _ (by omega))
    have n2 := ne _ _ s2 (nk _ _ (by omega))
    exact ⟨c, w, j0, (oB_old n1 s4).trans s1, (oB_old n2 s5).trans s2, s8, s9, s3, by rw [e1]; exact Nat.lt_of_lt_of_le s4 (by omega), by omega, cc, t, f, rest, (e4 _ s4 n1).trans u1, u2, (e4 _ s5 n2).trans u3, u4⟩
  · omega
  · omega
  · show am.1 + 79 ≤ h'.1
    omega
  · intro i hi
    rw [e3]
    exact r4 i hi
  · exact r6.fr e3 (fun a ha => e4 a (by omega) (by omega))
  · obtain ⟨ha, he⟩ := sp a e he
    obtain ⟨x1, x2, x3⟩ := r7 a e he
    exact ⟨(e4 _ x3 ha).trans x1, (oB_old ha x3).trans x2, by omega⟩
  · refine ⟨fun i hi => ?_, fun c hc => ⟨(hW.2.1 c hc).1, Nat.lt_succ_of_lt (hW.2.1 c hc).2⟩, fun i c hc => Nat.lt_succ_of_lt (hW.2.2.1 i c hc), hW.2.2.2⟩
    by_cases hi9 : i = zB S
    · have : zw (uB S s) i = s := if_pos hi9
      rw [this]; exact hs9
    · have : zw (uB S s) i = zw S i := if_neg hi9
      have hi : i < zB S + 1 := hi
      rw [this]; exact hW.1 i (by omega)
  · omega
  · omega
  · omega
end MKB
