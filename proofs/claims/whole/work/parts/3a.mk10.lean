/-! ===== a Copy is made ===== -/
def cNC (n : Int32) (b s : Nat) : CM Nat := fun S => if zB S ≤ 24 ∧ b < zB S ∧ s < zT S then some (zC S, uC S n b s) else none
section MKJ
variable {am : AM} {b1 b2 : Nat} {S : CS} {h : AH} {C base s b c : Nat} {n : Int32}
theorem RC.newC (hR : RC am b1 b2 S h) (hb : zB S ≤ 24) {e0 : va_E} (hC : aSp am C = some e0) (hC9 : am.1 + 79 ≤ C) (hbb : b < zB S) (hs9 : s < zT S) {h' : AH} (e1 : h'.1 = h.1 + 10) (e2 : h'.2.1 = h.2.1 + 2010) (e3 : h'.2.2.2 = h.2.2.2) (e4 : ∀ a, a < h.1 → a ≠ C → ce h' a = ce h a) (e5 : ce h' C = .inr (4, [.int n, .ref (aBo am b), .ref (h.1 + 0), .ref (h.1 + 2), .ref (h.1 + 4), .ref (h.1 + 6), .ref (h.1 + 8), .ref (aSt am s)])) (e12 : ∀ i, i < 5 → ce h' (h.1 + 2 * i) = .inr (9, [.ref (h.1 + 2 * i + 1), .int 0]) ∧ ce h' (h.1 + 2 * i + 1) = .inl (0, 400, .inl fun _ => 0)) : RC (amC am (zC S) C h.1) (b1 + 10) (b2 + 2010) (uC S n b s) h' ∧ FrC am h h' := by
  obtain ⟨own, v, cap, gr, fb, q1, hT, o1, o2, v1, v2, v3, hst, r1, r2, r3, r4, r5, r6, r7, hW⟩ := hR
  obtain ⟨z, t1, t2, t3, t4, t5, t6, t7, t8, t9⟩ := hT
  obtain ⟨w1, w2, w3⟩ := r7 C e0 hC
  have ne : ∀ a k, own a = k → k ≠ (70, 0) → a ≠ C := fun a k ha hk e => hk (by rw [← ha, e, w2])
  have nk : ∀ a b : Nat, a ≠ 70 → ((a, b) : Nat × Nat) ≠ (70, 0) := fun a b hk e => hk (congrArg Prod.fst e)
  have sp : ∀ a e, aSp (amC am (zC S) C h.1) a = some e → a ≠ C ∧ aSp am a = some e := fun a e he => by
    by_cases ha : a = C
    · have : aSp (amC am (zC S) C h.1) a = none := if_pos ha
      rw [this] at he
      cases he
    · have : aSp (amC am (zC S) C h.1) a = aSp am a := if_neg ha
      exact ⟨ha, by rw [← this]; exact he⟩
  have nM := ne (am.1 + 42) _ o1 (nk _ _ (by omega))
  have nV := ne v _ o2 (nk _ _ (by omega))
  refine ⟨⟨oC own (zC S) C h.1, v, cap, gr, fb, fun q hq => ?_, ⟨z, ?_, t2, ?_, t4, t5, t6, t7, t8, t9⟩, ?_, ?_, ?_, v2, v3, fun i hi => ?_, ?_, ?_, ?_, ?_, r5, ?_, fun a e he => ?_, ?_⟩, ?_, e3, fun a ha => e4 a ?_ ?_⟩
  · by_cases hn : nwC (zC S) q
    · obtain ⟨d, i⟩ := q
      unfold nwC at hn
      simp only at hn
      rcases hn with ⟨hc, hi, hi2⟩ | ⟨hc, hi⟩
      · obtain ⟨k, rfl⟩ : ∃ k, i = 200 + 5 * zC S + k := ⟨i - (200 + 5 * zC S), by omega⟩
        have hk : k < 5 := by omega
        have ea : aRo (amC am (zC S) C h.1) (200 + 5 * zC S + k) = h.1 + 2 * k := (if_pos ⟨hi, hi2⟩).trans (by omega)
        have e13 : aAr (amC am (zC S) C h.1) 1 (200 + 5 * zC S + k) = h.1 + 2 * k + 1 := congrArg (· + 1) ea
        obtain ⟨u1, u2⟩ := e12 k hk
        obtain ⟨y1, y2⟩ := oC_row (own := own) (c := zC S) (k := k) w3
        rcases hc with rfl | rfl
        · have e14 : adr (amC am (zC S) C h.1) (1, 200 + 5 * zC S + k) = h.1 + 2 * k := ea
          have e15 : cel (amC am (zC S) C h.1) (uC S n b s) (1, 200 + 5 * zC S + k) = .inr (9, [.ref (aAr (amC am (zC S) C h.1) 1 (200 + 5 * zC S + k)), .int (zs (uC S n b s) 1 (200 + 5 * zC S + k))]) := rfl
          have e16 : zs (uC S n b s) 1 (200 + 5 * zC S + k) = 0 := if_pos ⟨rfl, hi, hi2⟩
          rw [e14, e15, e13, e16]
          exact ⟨u1, y1, by omega, Or.inr (by show am.1 + 79 ≤ _; omega), by show am.1 ≤ _; omega⟩
        · have e14 : adr (amC am (zC S) C h.1) (21, 200 + 5 * zC S + k) = h.1 + 2 * k + 1 := e13
          have e15 : cel (amC am (zC S) C h.1) (uC S n b s) (21, 200 + 5 * zC S + k) = .inl (0, zl (uC S n b s) 1 (200 + 5 * zC S + k), .inl (za (uC S n b s) 1 (200 + 5 * zC S + k))) := rfl
          have e16 : za (uC S n b s) 1 (200 + 5 * zC S + k) = fun _ => 0 := if_pos ⟨rfl, hi, hi2⟩
          have e17 : zl (uC S n b s) 1 (200 + 5 * zC S + k) = 400 := by
            unfold zl
            rw [if_pos rfl]
            exact if_pos ⟨hi, hi2⟩
          rw [e14, e15, e16, e17]
          exact ⟨u2, y2, by omega, Or.inr (by show am.1 + 79 ≤ _; omega), by show am.1 ≤ _; omega⟩
      · subst hi
        subst hc
        have e14 : adr (amC am (zC S) C h.1) (4, zC S) = C := if_pos rfl
        have p3 : ∀ k, k < 5 → aRo (amC am (zC S) C h.1) (200 + k + 5 * zC S) = h.1 + 2 * k := fun k hk => (if_pos (by omega)).trans (by omega)
        have p4 : zn (uC S n b s) (zC S) = s := if_pos rfl
        have p5 : zr (uC S n b s) (zC S) = b := if_pos rfl
        have g1 : ¬ ((12 : Nat) = 1 ∧ 200 + 5 * zC S ≤ zC S ∧ zC S < 205 + 5 * zC S) := by omega
        have p6 : zs (uC S n b s) 12 (zC S) = n := by
          show (if (12 : Nat) = 1 ∧ 200 + 5 * zC S ≤ zC S ∧ zC S < 205 + 5 * zC S then (0 : Int32) else if (12 : Nat) = 12 ∧ zC S = zC S then n else zs S 12 (zC S)) = n
          rw [if_neg g1, if_pos ⟨rfl, rfl⟩]
        have e15 : cel (amC am (zC S) C h.1) (uC S n b s) (4, zC S) = .inr (4, [.int (zs (uC S n b s) 12 (zC S)), .ref (aBo (amC am (zC S) C h.1) (zr (uC S n b s) (zC S))), .ref (aRo (amC am (zC S) C h.1) (200 + 0 + 5 * zC S)), .ref (aRo (amC am (zC S) C h.1) (200 + 1 + 5 * zC S)), .ref (aRo (amC am (zC S) C h.1) (200 + 2 + 5 * zC S)), .ref (aRo (amC am (zC S) C h.1) (200 + 3 + 5 * zC S)), .ref (aRo (amC am (zC S) C h.1) (200 + 4 + 5 * zC S)), .ref (aSt (amC am (zC S) C h.1) (zn (uC S n b s) (zC S)))]) := rfl
        rw [e14, e15, p3 0 (by omega), p3 1 (by omega), p3 2 (by omega), p3 3 (by omega), p3 4 (by omega), p4, p5, p6]
        exact ⟨e5, if_pos rfl, by omega, Or.inr hC9, by show am.1 ≤ C; omega⟩
    · have hq0 : kx S q = true := by
        obtain ⟨d, i⟩ := q
        have hn0 := hn
        unfold nwC at hn
        simp only at hn
        unfold kx at hq ⊢
        simp only at hq ⊢
        by_cases k1 : d = 1 ∨ d = 21
        · rw [if_pos k1] at hq ⊢
          have e : zc (uC S n b s) i = zc S i := if_neg (by omega)
          rw [e] at hq; exact hq
        rw [if_neg k1] at hq ⊢
        by_cases k2 : d = 2 ∨ d = 23 ∨ d = 24 ∨ d = 25 ∨ d = 26
        · rw [if_pos k2] at hq ⊢; exact hq
        rw [if_neg k2] at hq ⊢
        by_cases k3 : d = 3 ∨ d = 27
        · rw [if_pos k3] at hq ⊢; exact hq
        rw [if_neg k3] at hq ⊢
        by_cases k4 : d = 4
        · rw [if_pos k4] at hq ⊢
          have e : i < zC S + 1 := of_decide_eq_true hq
          exact decide_eq_true (by omega)
        rw [if_neg k4] at hq ⊢
        exact hq
      obtain ⟨c1, c2, c3, c4, c5⟩ := q1 q hq0
      have hlt := kx_lt hq0
      have na : adr am q ≠ C := ne _ _ c2 (fun e => by rw [e] at hlt; exact absurd hlt (by decide))
      rw [adr_C hn, cel_C hb hW hq0 hn]
      exact ⟨by rw [e4 _ c3 na]; exact c1, by rw [oC_old na c3]; exact c2, by omega, c4, c5⟩
  · exact (e4 _ (show am.1 + 42 < h.1 by omega) nM).trans t1
  · exact (e4 _ v1 nV).trans t3
  · exact (oC_old nM (show am.1 + 42 < h.1 by omega)).trans o1
  · exact (oC_old nV v1).trans o2
  · omega
  · obtain ⟨c, w, j0, s1, s2, s8, s9, s3, s4, s5, cc, t, f, rest, u1, u2, u3, u4⟩ := hst i hi
    have n1 := ne _ _ s1 (nk _ _ (by omega))
    have n2 := ne _ _ s2 (nk _ _ (by omega))
    exact ⟨c, w, j0, (oC_old n1 s4).trans s1, (oC_old n2 s5).trans s2, s8, s9, s3, by rw [e1]; exact Nat.lt_of_lt_of_le s4 (by omega), by omega, cc, t, f, rest, (e4 _ s4 n1).trans u1, u2, (e4 _ s5 n2).trans u3, u4⟩
  · omega
  · omega
  · show am.1 + 79 ≤ h'.1
    omega
  · intro i hi
    rw [e3]
    exact r4 i hi
  · exact r6.fr e3 (fun a ha => e4 a (by omega) (by omega))
  · obtain ⟨ha, he⟩ := sp a e he
    obtain ⟨x1, x2, x3⟩ := r7 a e he
    exact ⟨(e4 _ x3 ha).trans x1, (oC_old ha x3).trans x2, by omega⟩
  · refine ⟨hW.1, fun i hi => ?_, hW.2.2.1, fun i c hc => Nat.lt_succ_of_lt (hW.2.2.2 i c hc)⟩
    by_cases hi9 : i = zC S
    · have p4 : zn (uC S n b s) i = s := if_pos hi9
      have p5 : zr (uC S n b s) i = b := if_pos hi9
      rw [p4, p5]; exact ⟨hs9, hbb⟩
    · have p4 : zn (uC S n b s) i = zn S i := if_neg hi9
      have p5 : zr (uC S n b s) i = zr S i := if_neg hi9
      have hi : i < zC S + 1 := hi
      rw [p4, p5]; exact hW.2.1 i (by omega)
  · omega
  · omega
  · omega
end MKJ
