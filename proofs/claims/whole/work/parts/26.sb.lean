/-! ===== the text that is written: what the builder's methods do ===== -/
def uxS (S : CS) (l : List Nat) : CS := (S.1, S.2.1, S.2.2.1, S.2.2.2.1, S.2.2.2.2.1, S.2.2.2.2.2.1, S.2.2.2.2.2.2.1, l, S.2.2.2.2.2.2.2.2)
theorem kx_lt {S : CS} {q : Nat × Nat} (hq : kx S q = true) : q.1 < 40 := by
  unfold kx at hq
  by_cases hc : q.1 < 40
  · exact hc
  · rw [if_neg (by omega), if_neg (by omega), if_neg (by omega), if_neg (by omega), if_neg (by omega)] at hq
    cases hq
theorem hs_hs (h : AH) (a : Nat) (x y : va_E) : hs (hs h a x) a y = hs h a y := by
  unfold hs
  refine Prod.ext rfl (Prod.ext rfl (Prod.ext (funext fun b => ?_) rfl))
  show (if b = a then y else if b = a then x else h.2.2.1 b) = if b = a then y else h.2.2.1 b
  split <;> rfl
theorem hs_self (h : AH) (a : Nat) (x : va_E) (e : ce h a = x) : hs h a x = h := by
  unfold hs
  refine Prod.ext rfl (Prod.ext rfl (Prod.ext (funext fun b => ?_) rfl))
  show (if b = a then x else h.2.2.1 b) = h.2.2.1 b
  split
  · rename_i q; rw [q]; exact e.symm
  · rfl
section SB
variable {am : AM} {b1 b2 : Nat} {S : CS} {h : AH} {own : Nat → Nat × Nat} {v cap gr : Nat} {fb : Nat → Int32}
theorem RCb.move {h' : AH} {l' : List Nat} {v' cap' gr' : Nat} {fb' : Nat → Int32} (hR : RCb am b1 b2 S h own v cap gr fb) (hc : ∀ a, a ≠ am.1 + 42 → a ≠ v → a < h.1 → ce h' a = ce h a) (hT : RTx am l' v' cap' gr' fb' h') (hv : v' = v ∨ (v' = h.1 ∧ h.1 < h'.1)) (hb : h.1 ≤ h'.1) (h1 : h'.1 ≤ b1 + gr') (h2 : h'.2.1 ≤ b2 + 2 * cap') (hr : h'.2.2.2 = h.2.2.2) : (∃ own', RCb am b1 b2 (uxS S l') h' own' v' cap' gr' fb') ∧ FrC am h h' := by
  obtain ⟨q1, q2, o1, o2, v1, v2, v3, hst, r1, r2, r3, r4, r5, r6, r7, r8⟩ := hR
  have hne : am.1 + 42 ≠ v := fun e => by
    rw [← e, o1] at o2
    exact absurd (congrArg Prod.fst o2) (by decide)
  refine ⟨⟨fun a => if a = v' then (41, 0) else if a = v then (99, 99) else own a, fun q hq => ?_, hT, ?_, if_pos rfl, by omega, by omega, by omega, fun i hi => ?_, h1, h2, by omega, ?_, r5, r6.fr hr fun a ha => hc a (by omega) (by omega) (by omega), fun a e he => ?_, r8⟩, hb, hr, fun a ha => hc a (by omega) (by omega) (by omega)⟩
  · have hq : kx S q = true := hq
    obtain ⟨c1, c2, c3, c4, c5⟩ := q1 q hq
    have hlt := kx_lt hq
    have n1 : adr am q ≠ am.1 + 42 := fun e => by rw [e, o1] at c2; rw [← c2] at hlt; exact absurd hlt (by decide)
    have n2 : adr am q ≠ v := fun e => by rw [e, o2] at c2; rw [← c2] at hlt; exact absurd hlt (by decide)
    have n3 : adr am q ≠ v' := by rcases hv with e | ⟨e, _⟩ <;> rw [e] <;> omega
    refine ⟨by rw [hc _ n1 n2 c3, c1]; rfl, ?_, by omega, c4, c5⟩
    exact (if_neg n3).trans ((if_neg n2).trans c2)
  · exact (if_neg (by omega)).trans ((if_neg (by omega)).trans o1)
  · obtain ⟨c, w, j0, s1, s2, s8, s9, s3, s4, s5, cc, t, f, rest, u1, u2, u3, u4⟩ := hst i hi
    have g : ∀ b k, own b = k → 50 ≤ k.1 → b < h.1 → b ≠ am.1 + 42 ∧ b ≠ v ∧ b ≠ v' := fun b k hb hk hlt => by
      refine ⟨fun e => ?_, fun e => ?_, ?_⟩
      · rw [e, o1] at hb; rw [← hb] at hk; exact absurd hk (by decide)
      · rw [e, o2] at hb; rw [← hb] at hk; exact absurd hk (by decide)
      · rcases hv with e | ⟨e, _⟩ <;> rw [e]
        · intro e; rw [e, o2] at hb; rw [← hb] at hk; exact absurd hk (by decide)
        · omega
    obtain ⟨a1, a2, a3⟩ := g _ _ s1 (by show 50 ≤ c; omega) s4
    obtain ⟨d1, d2, d3⟩ := g _ _ s2 (by show 50 ≤ c + 1; omega) s5
    exact ⟨c, w, j0, (if_neg a3).trans ((if_neg a2).trans s1), (if_neg d3).trans ((if_neg d2).trans s2), s8, s9, s3, by omega, by omega, cc, t, f, rest, by rw [hc _ a1 a2 s4]; exact u1, u2, by rw [hc _ d1 d2 s5]; exact u3, u4⟩
  · rw [hr]; exact r4
  · obtain ⟨w1, w2, w3⟩ := r7 a e he
    have a1 : a ≠ am.1 + 42 := fun q => by
      rw [q, o1] at w2
      exact absurd (congrArg Prod.fst w2) (by decide)
    have a2 : a ≠ v := fun q => by
      rw [q, o2] at w2
      exact absurd (congrArg Prod.fst w2) (by decide)
    have a3 : a ≠ v' := by rcases hv with q | ⟨q, _⟩ <;> rw [q] <;> omega
    exact ⟨by rw [hc a a1 a2 w3]; exact w1, (if_neg a3).trans ((if_neg a2).trans w2), by omega⟩
theorem shr0 (x : Int32) : x >>> ((0 : Int32) &&& 31) = x := by
  rw [show ((0 : Int32) &&& 31) = 0 from rfl]
  exact Int32.shiftRight_zero
theorem shl0 (x : Int32) : x <<< ((0 : Int32) &&& 31) = x := by
  rw [show ((0 : Int32) &&& 31) = 0 from rfl]
  exact Int32.shiftLeft_zero
theorem aN_at {a t n : Nat} {f : Nat → Int32} (e : ce h a = .inl (t, n, .inl f)) (ht : t = 1 ∨ t = 11) : aN (some a) h = some (nI n, h) := by
  unfold aN
  simp only [e]
  have ht2 : t < 5 ∨ t = 10 ∨ t = 11 := by omega
  rw [if_pos ht2]
  rfl
theorem wb_cap {n : Nat} (hn : n ≤ 16384) {l : List Nat} (hT : RTx am l v cap gr fb h) (hc : cap < n) : wc 1 (some (am.1 + 42)) (fun t => J5_newCapacity_0f7a4 t (nI n)) h = some (nI (if 2 * cap + 2 < n then n else 2 * cap + 2), h) := by
  obtain ⟨z, t1, t2, t3, t4, t5, t6, t7, t8, t9⟩ := hT
  unfold wc
  simp only [t1]
  rw [if_pos (okc_self _)]
  unfold J5_newCapacity_0f7a4
  rw [mb_s (v := some v) (h1 := h) (by simp [gR, gV, t1, okc])]
  rw [mb_s (v := nI cap) (h1 := h) (aN_at t3 (Or.inl rfl))]
  rw [mb_s (v := (0 : Int32)) (h1 := h) (by simp [gI, gV, t1, okc])]
  rw [mb_s (v := (0 : Int32)) (h1 := h) (by simp [gI, gV, t1, okc])]
  rw [shl0, shl0]
  have e1 : J8_newLength_cabcc (nI cap) (nI n - nI cap) (nI cap + 2) h = some (nI (if 2 * cap + 2 < n then n else 2 * cap + 2), h) := by
    unfold J8_newLength_cabcc
    have a1 : nI cap + 2 = nI (cap + 2) := nI_add cap 2
    have a2 : nI n - nI cap = nI (n - cap) := nI_sub9 (by omega)
    have c1 : nI cap + (if nI n - nI cap < nI cap + 2 then nI cap + 2 else nI n - nI cap) = nI (if 2 * cap + 2 < n then n else 2 * cap + 2) := by
      rw [a1, a2]
      by_cases hx : n - cap < cap + 2
      · rw [if_pos (nI_lt hx (by omega)), if_neg (by omega), nI_add]
        exact congrArg nI (by omega)
      · rw [if_neg (nI_nlt (by omega) (by omega)), nI_add]
        exact congrArg nI (by split <;> omega)
    have e4 : (if 2 * cap + 2 < n then n else 2 * cap + 2) ≤ 40000 ∧ 1 ≤ (if 2 * cap + 2 < n then n else 2 * cap + 2) := by split <;> omega
    rw [c1]
    have b1 : ¬ nI (if 2 * cap + 2 < n then n else 2 * cap + 2) ≤ (0 : Int32) := nI_ge (a := 0) (by omega) (by omega)
    have b2 : ¬ (2147483639 : Int32) < nI (if 2 * cap + 2 < n then n else 2 * cap + 2) := nI_nlt (a := 2147483639) (by omega) (by omega)
    rw [if_neg b1, if_neg b2]
    rfl
  rw [mb_s e1]
  have e5 : ¬ nI (if 2 * cap + 2 < n then n else 2 * cap + 2) = (2147483647 : Int32) := fun q => by
    have e4 : (if 2 * cap + 2 < n then n else 2 * cap + 2) ≤ 40000 := by split <;> omega
    have := (nI_eq (b := 2147483647) (by omega) (by omega)).mp q
    omega
  rw [if_neg e5]
  rw [mb_s (v := (0 : Int32)) (h1 := h) (by simp [gI, gV, t1, okc])]
  rw [shr0]
  rfl
theorem wb_copyOf {n : Nat} (hn9 : n ≤ 40000) (hc : cap < n) (t3 : ce h v = .inl (1, cap, .inl fb)) (hv : v < h.1) (t5 : ∀ j, fb j = (fb j).toInt8.toInt32) : J7_copyOf_9075b (some v) (nI n) h = some (some h.1, hs (hn h n (.inl (1, n, .inl (fun _ => 0)))) h.1 (.inl (1, n, .inl (va_cpy fb (fun _ => 0) 0 0 cap)))) := by
  unfold J7_copyOf_9075b
  rw [mb_s (v := nI cap) (h1 := h) (aN_at t3 (Or.inl rfl))]
  rw [if_neg (fun q => by have := (nI_eq (by omega) (by omega)).mp q; omega)]
  have hcl : (nI n).toNatClampNeg = n := nI_clamp (by omega)
  have e1 : nA 1 (nI n) h = some (some h.1, hn h n (.inl (1, n, .inl (fun _ => 0)))) := by
    unfold nA
    rw [hcl, if_pos ⟨nI_pos (by omega), by omega⟩]
  rw [mb_s e1]
  have t3' : ce (hn h n (.inl (1, n, .inl (fun _ => 0)))) v = .inl (1, cap, .inl fb) := by rw [ce_hn, if_neg (by omega)]; exact t3
  have t3n : ce (hn h n (.inl (1, n, .inl (fun _ => 0)))) h.1 = .inl (1, n, .inl (fun _ => 0)) := by rw [ce_hn, if_pos rfl]
  rw [mb_s (v := nI cap) (aN_at t3' (Or.inl rfl))]
  rw [if_neg (nI_nlt (by omega) (by omega))]
  have hcl2 : (nI cap).toNatClampNeg = cap := nI_clamp (by omega)
  have e2 : cpy (some v) 0 (some h.1) 0 (nI cap) (hn h n (.inl (1, n, .inl (fun _ => 0)))) = some ((), hs (hn h n (.inl (1, n, .inl (fun _ => 0)))) h.1 (.inl (1, n, .inl (va_cpy fb (fun _ => 0) 0 0 cap)))) := by
    unfold cpy
    simp only [t3', t3n, hcl2]
    rw [if_pos]
    · rfl
    · exact ⟨Or.inr (Or.inl ⟨trivial, trivial, fun j hj => (t5 _).symm⟩), by decide, by decide, nI_pos (by omega), by show 0 + cap ≤ cap; omega, by show 0 + cap ≤ n; omega⟩
  rw [mb_s e2]
  rfl
theorem cpy_in (f g : Nat → Int32) (d n j : Nat) (h1 : d ≤ j) (h2 : j < d + n) : va_cpy f g 0 d n j = f (j - d) := by
  unfold va_cpy
  rw [if_pos ⟨h1, h2⟩]
  exact congrArg f (by omega)
theorem cpy_out (f g : Nat → Int32) (d n j : Nat) (h : ¬ (d ≤ j ∧ j < d + n)) : va_cpy f g 0 d n j = g j := by
  unfold va_cpy
  rw [if_neg h]
theorem wb_ens {n : Nat} (hn9 : n ≤ 16384) (hR : RCb am b1 b2 S h own v cap gr fb) : ∃ (h' : AH) (own' : Nat → Nat × Nat) (v' cap' gr' : Nat) (fb' : Nat → Int32), J5_ensureCapacityInternal_d00df (am.1 + 42) (nI n) h = some ((), h') ∧ RCb am b1 b2 S h' own' v' cap' gr' fb' ∧ FrC am h h' ∧ n ≤ cap' := by
  have hR0 := hR
  obtain ⟨q1, hT, o1, o2, v1, v2, v3, hst, r1, r2, r3, r4, r5, r6, r7, r8⟩ := hR
  have hT0 := hT
  obtain ⟨z, t1, t2, t3, t4, t5, t6, t7, t8, t9⟩ := hT
  have hne : am.1 + 42 ≠ v := fun e => by
    rw [← e, o1] at o2
    exact absurd (congrArg Prod.fst o2) (by decide)
  unfold J5_ensureCapacityInternal_d00df
  rw [mb_s (v := some v) (h1 := h) (by simp [gR, gV, t1, okc])]
  rw [mb_s (v := nI cap) (h1 := h) (aN_at t3 (Or.inl rfl))]
  rw [mb_s (v := (0 : Int32)) (h1 := h) (by simp [gI, gV, t1, okc])]
  rw [shr0]
  by_cases hc : n ≤ cap
  · rw [if_pos ((nI_sle (by omega) (by omega)).mpr hc)]
    exact ⟨h, own, v, cap, gr, fb, rfl, hR0, FrC.refl, hc⟩
  · rw [if_neg (fun q => hc ((nI_sle (by omega) (by omega)).mp q))]
    rw [mb_s (v := some v) (h1 := h) (by simp [gR, gV, t1, okc])]
    rw [mb_s (wb_cap hn9 hT0 (by omega))]
    rw [mb_s (v := (0 : Int32)) (h1 := h) (by simp [gI, gV, t1, okc])]
    rw [shl0]
    have e4 : (if 2 * cap + 2 < n then n else 2 * cap + 2) ≤ 40000 ∧ 2 * cap + 2 ≤ (if 2 * cap + 2 < n then n else 2 * cap + 2) ∧ n ≤ (if 2 * cap + 2 < n then n else 2 * cap + 2) := by split <;> omega
    generalize (if 2 * cap + 2 < n then n else 2 * cap + 2) = m at *
    rw [mb_s (wb_copyOf e4.1 (by omega) t3 v1 t5)]
    have c1 : ce (hs (hn h m (.inl (1, m, .inl (fun _ => 0)))) h.1 (.inl (1, m, .inl (va_cpy fb (fun _ => 0) 0 0 cap)))) (am.1 + 42) = .inr (1, [.ref v, .int 0, .int z, .int (nI (zx S).length)]) := by
      rw [ce_hs, if_neg (by omega), ce_hn, if_neg (by omega)]; exact t1
    have e5 : pR 1 (some (am.1 + 42)) 0 (some h.1) (hs (hn h m (.inl (1, m, .inl (fun _ => 0)))) h.1 (.inl (1, m, .inl (va_cpy fb (fun _ => 0) 0 0 cap)))) = some ((), hs (hs (hn h m (.inl (1, m, .inl (fun _ => 0)))) h.1 (.inl (1, m, .inl (va_cpy fb (fun _ => 0) 0 0 cap)))) (am.1 + 42) (.inr (1, [.ref h.1, .int 0, .int z, .int (nI (zx S).length)]))) := by
      unfold pR pV
      simp only [c1]
      rfl
    rw [mb_s e5]
    obtain ⟨⟨own', r⟩, f⟩ := RCb.move (h' := hs (hs (hn h m (.inl (1, m, .inl (fun _ => 0)))) h.1 (.inl (1, m, .inl (va_cpy fb (fun _ => 0) 0 0 cap)))) (am.1 + 42) (.inr (1, [.ref h.1, .int 0, .int z, .int (nI (zx S).length)]))) (l' := zx S) (v' := h.1) (cap' := m) (gr' := gr + 1) (fb' := va_cpy fb (fun _ => 0) 0 0 cap) hR0 (fun a a1 a2 a3 => by rw [ce_hs, if_neg a1, ce_hs, if_neg (by omega), ce_hn, if_neg (by omega)]) ⟨z, by rw [ce_hs, if_pos rfl], t2, by rw [ce_hs, if_neg (by omega), ce_hs, if_pos rfl], by omega, fun j => by
        by_cases hj : j < cap
        · rw [cpy_in _ _ _ _ _ (by omega) (by omega)]; exact t5 _
        · rw [cpy_out _ _ _ _ _ (by omega)]; rfl, fun j hj => by rw [cpy_in _ _ _ _ _ (by omega) (by omega)]; exact t6 j hj, t7, e4.1, by rw [Nat.pow_succ]; omega⟩ (Or.inr ⟨rfl, Nat.lt_succ_self _⟩) (Nat.le_succ _) (by show h.1 + 1 ≤ _; omega) (by show h.2.1 + m ≤ _; omega) rfl
    exact ⟨_, own', _, _, _, _, rfl, r, f, e4.2.2⟩
end SB
