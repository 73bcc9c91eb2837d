/-! ===== a text is made ===== -/
def amT (am : AM) (i a : Nat) : AM := (am.1, aRo am, aPl am, aBo am, aLe am, aCo am, (fun j => if j = i then a else aSt am j), aSp am)
def uT (S : CS) : CS := (S.1, S.2.1, S.2.2.1, S.2.2.2.1, (zB S, zC S, zT S + 1), S.2.2.2.2.2.1, (fun j => if j = zT S then zx S else zt S j), S.2.2.2.2.2.2.2)
theorem wn_s {α : Type} {a : Nat} {f : Nat → MM α} : wn (some a) f = f a := rfl
section MK
variable {am : AM} {b1 b2 : Nat} {S : CS} {h : AH} {v cap gr : Nat} {fb : Nat → Int32}
theorem cel_T (hW : WF S) (a : Nat) (k : Nat × Nat) (hx : kx S k = true) : cel (amT am (zT S) a) (uT S) k = cel am S k := by
  obtain ⟨c, b⟩ := k
  have hst : ∀ i, i < zT S → aSt (amT am (zT S) a) i = aSt am i := fun i hi => if_neg (by omega)
  unfold cel
  by_cases h14 : 14 ≤ c
  · rw [if_pos h14, if_pos h14]; rfl
  · rw [if_neg h14, if_neg h14]
    by_cases h1 : c = 1
    · subst h1; rw [if_pos rfl, if_pos rfl]; rfl
    · rw [if_neg h1, if_neg h1]
      by_cases h2 : c = 2
      · subst h2; rw [if_pos rfl, if_pos rfl]; rfl
      · rw [if_neg h2, if_neg h2]
        by_cases h3 : c = 3
        · subst h3
          have hb : b < zB S := of_decide_eq_true hx
          have e := hst _ (hW.1 b hb)
          rw [if_pos rfl, if_pos rfl]
          show Sum.inr (2, [_, _, _, _, _, _, Value.ref (aSt (amT am (zT S) a) (zw S b))]) = _
          rw [e]
          rfl
        · rw [if_neg h3, if_neg h3]
          by_cases h4 : c = 4
          · subst h4
            have hb : b < zC S := of_decide_eq_true hx
            have e := hst _ (hW.2.1 b hb).1
            rw [if_pos rfl, if_pos rfl]
            show Sum.inr (4, [_, _, _, _, _, _, _, Value.ref (aSt (amT am (zT S) a) (zn S b))]) = _
            rw [e]
            rfl
          · rw [if_neg h4, if_neg h4]
            rfl
theorem RC.newT (hR : RC am b1 b2 S h) {h' : AH} {F : Nat → Int32} {rest : List Value} (e1 : h'.1 = h.1 + 2) (e2 : h'.2.1 = h.2.1 + 4 + (zx S).length) (e3 : h'.2.2.2 = h.2.2.2) (e4 : ∀ a, a < h.1 → ce h' a = ce h a) (e5 : ce h' h.1 = .inr (0, .ref (h.1 + 1) :: .int 0 :: rest)) (e6 : ce h' (h.1 + 1) = .inl (1, (zx S).length, .inl F)) (e7 : ∀ j, j < (zx S).length → (zx S).getD j 0 < 256 ∧ F j = sb_b ((zx S).getD j 0)) : RC (amT am (zT S) h.1) (b1 + 2) (b2 + 4 + (zx S).length) (uT S) h' ∧ FrC am h h' := by
  obtain ⟨own, v, cap, gr, fb, q1, hT, o1, o2, v1, v2, v3, hst, r1, r2, r3, r4, r5, r6, r7, hW⟩ := hR
  obtain ⟨z, t1, t2, t3, t4, t5, t6, t7, t8, t9⟩ := hT
  have n0 : ∀ a, a < h.1 → (if a = h.1 then ((50, zT S) : Nat × Nat) else if a = h.1 + 1 then (51, zT S) else own a) = own a := fun a ha => (if_neg (by omega)).trans (if_neg (by omega))
  refine ⟨⟨fun a => if a = h.1 then (50, zT S) else if a = h.1 + 1 then (51, zT S) else own a, v, cap, gr, fb, fun q hq => ?_, ⟨z, ?_, t2, ?_, t4, t5, t6, t7, t8, t9⟩, ?_, ?_, ?_, v2, v3, fun i hi => ?_, ?_, ?_, ?_, ?_, ?_, ?_, ?_, ⟨fun b hb => Nat.lt_succ_of_lt (hW.1 b hb), fun c hc => ⟨Nat.lt_succ_of_lt (hW.2.1 c hc).1, (hW.2.1 c hc).2⟩, hW.2.2⟩⟩, ?_, e3, fun a ha => e4 a (by omega)⟩
  · have hq : kx S q = true := hq
    obtain ⟨c1, c2, c3, c4, c5⟩ := q1 q hq
    refine ⟨?_, (n0 _ c3).trans c2, by rw [e1]; exact Nat.lt_of_lt_of_le c3 (by omega), c4, c5⟩
    rw [cel_T hW _ q hq]
    exact (e4 _ c3).trans c1
  · exact (e4 _ (show am.1 + 42 < h.1 by omega)).trans t1
  · exact (e4 _ v1).trans t3
  · exact (n0 _ (show am.1 + 42 < h.1 by omega)).trans o1
  · exact (n0 _ v1).trans o2
  · omega
  · by_cases hi9 : i = zT S
    · subst hi9
      have ez : zt (uT S) (zT S) = zx S := if_pos rfl
      have ea : aSt (amT am (zT S) h.1) (zT S) = h.1 := if_pos rfl
      rw [ez, ea]
      exact ⟨50, h.1 + 1, zT S, if_pos rfl, (if_neg (by omega)).trans (if_pos rfl), Nat.lt_succ_self _, ez, Or.inl rfl, by omega, by omega, 0, 1, F, rest, e5, rfl, e6, Or.inl rfl, e7, by omega⟩
    · have hi8 : i < zT S := by
        have : i < zT S + 1 := hi
        omega
      have ez : zt (uT S) i = zt S i := if_neg hi9
      have ea : aSt (amT am (zT S) h.1) i = aSt am i := if_neg hi9
      obtain ⟨c, w, j0, s1, s2, s8, s9, s3, s4, s5, cc, t, f, rest, u1, u2, u3, u4⟩ := hst i hi8
      rw [ez, ea]
      exact ⟨c, w, j0, (n0 _ s4).trans s1, (n0 _ s5).trans s2, Nat.lt_succ_of_lt s8, (if_neg (show j0 ≠ zT S by omega)).trans s9, s3, by omega, by omega, cc, t, f, rest, (e4 _ s4).trans u1, u2, (e4 _ s5).trans u3, u4⟩
  · omega
  · omega
  · show am.1 + 79 ≤ h'.1
    omega
  · intro i hi
    rw [e3, r4 i hi]
    exact congrArg some (if_neg (show i ≠ zT S by omega)).symm
  · show 19 ≤ zT S + 1
    omega
  · exact r6.fr e3 (fun a ha => e4 a (by omega))
  · intro a e he
    obtain ⟨w1, w2, w3⟩ := r7 a e he
    exact ⟨(e4 _ w3).trans w1, (n0 _ w3).trans w2, by omega⟩
  · omega
theorem wb_len2 {l : List Nat} (hT : RTx am l v cap gr fb h) : wc 1 (some (am.1 + 42)) (fun t => J4_length_8abf5 t) h = some (nI l.length, h) := by
  rw [wc_sb hT]
  obtain ⟨z, t1, -⟩ := id hT
  unfold J4_length_8abf5
  rw [mb_s (v := nI l.length) (h1 := h) (by rw [wc_sb hT]; unfold J5_length_8abf5; rw [mb_s (v := nI l.length) (h1 := h) (by simp [gI, gV, t1, okc])]; rfl)]
  rfl
theorem wb_lat2 {l : List Nat} (hT : RTx am l v cap gr fb h) : wc 1 (some (am.1 + 42)) (fun t => J5_isLatin1_aae02 t) h = some (1, h) := by
  rw [wc_sb hT]
  obtain ⟨z, t1, -⟩ := hT
  unfold J5_isLatin1_aae02
  rw [if_neg (by decide)]
  rw [mb_s (v := (0 : Int32)) (h1 := h) (by simp [gI, gV, t1, okc])]
  rfl
theorem wb_range {l : List Nat} (hT : RTx am l v cap gr fb h) (hv : v < h.1) : ∃ (h' : AH) (F : Nat → Int32), J7_copyOfRange_39247 (some v) (0 : Int32) (nI l.length) h = some (some h.1, h') ∧ h'.1 = h.1 + 1 ∧ h'.2.1 = h.2.1 + l.length ∧ h'.2.2.2 = h.2.2.2 ∧ (∀ a, a < h.1 → ce h' a = ce h a) ∧ ce h' h.1 = .inl (1, l.length, .inl F) ∧ ∀ j, j < l.length → F j = fb j := by
  obtain ⟨z, t1, t2, t3, t4, t5, t6, t7, t8, t9⟩ := hT
  unfold J7_copyOfRange_39247
  rw [if_pos rfl]
  rw [mb_s (v := nI cap) (h1 := h) (aN_at t3 (Or.inl rfl))]
  by_cases hl : l.length = cap
  · rw [if_pos (by rw [hl])]
    have e1 : cln (some v) h = some (some h.1, hn h l.length (.inl (1, l.length, .inl fb))) := by
      unfold cln
      simp only [t3]
      rw [if_pos ⟨trivial, fun i _ => (t5 i).symm⟩, hl]
    rw [mb_s e1]
    have c1 : ce (hn h l.length (.inl (1, l.length, .inl fb))) h.1 = .inl (1, l.length, .inl fb) := by rw [ce_hn, if_pos rfl]
    rw [mb_s (v := (0 : Int32)) (h1 := hn h l.length (.inl (1, l.length, .inl fb))) (by unfold aBn; simp only [c1]; rfl)]
    exact ⟨_, fb, rfl, rfl, rfl, rfl, fun a ha => by rw [ce_hn, if_neg (by omega)], c1, fun j _ => rfl⟩
  · rw [if_neg (fun q => hl ((nI_eq (by omega) (by omega)).mp q))]
    unfold J7_copyOfRange_39247_10
    have s0 : ∀ k : Nat, nI k - (0 : Int32) = nI k := fun k => by
      rw [nI_iI, show (0 : Int32) = iI 0 from rfl, iI_sub]
      exact congrArg iI (by omega)
    have hcl : (nI l.length).toNatClampNeg = l.length := nI_clamp (by omega)
    have e0 : J7_copyOfRangeByte_39247 (some v) (0 : Int32) (nI l.length) h = some (some h.1, hs (hn h l.length (.inl (1, l.length, .inl (fun _ => 0)))) h.1 (.inl (1, l.length, .inl (va_cpy fb (fun _ => 0) 0 0 l.length)))) := by
      unfold J7_copyOfRangeByte_39247
      rw [mb_s (v := ()) (h1 := h) (by unfold J7_checkLength_df160; rw [if_pos (nI_pos' (by omega))]; rfl)]
      rw [s0]
      have e1 : nA 1 (nI l.length) h = some (some h.1, hn h l.length (.inl (1, l.length, .inl (fun _ => 0)))) := by
        unfold nA
        rw [hcl, if_pos ⟨nI_pos (by omega), by omega⟩]
      rw [mb_s e1]
      have t3' : ce (hn h l.length (.inl (1, l.length, .inl (fun _ => 0)))) v = .inl (1, cap, .inl fb) := by rw [ce_hn, if_neg (by omega)]; exact t3
      have t3n : ce (hn h l.length (.inl (1, l.length, .inl (fun _ => 0)))) h.1 = .inl (1, l.length, .inl (fun _ => 0)) := by rw [ce_hn, if_pos rfl]
      rw [mb_s (v := nI cap) (aN_at t3' (Or.inl rfl)), s0, if_pos (nI_lt (by omega) (by omega))]
      have e2 : cpy (some v) 0 (some h.1) 0 (nI l.length) (hn h l.length (.inl (1, l.length, .inl (fun _ => 0)))) = some ((), hs (hn h l.length (.inl (1, l.length, .inl (fun _ => 0)))) h.1 (.inl (1, l.length, .inl (va_cpy fb (fun _ => 0) 0 0 l.length)))) := by
        unfold cpy
        simp only [t3', t3n, hcl]
        rw [if_pos]
        · rfl
        · exact ⟨Or.inr (Or.inl ⟨trivial, trivial, fun j hj => (t5 _).symm⟩), by decide, by decide, nI_pos (by omega), by show 0 + l.length ≤ cap; omega, by show 0 + l.length ≤ l.length; omega⟩
      rw [mb_s e2]
      rfl
    rw [mb_s e0]
    exact ⟨_, va_cpy fb (fun _ => 0) 0 0 l.length, rfl, rfl, rfl, rfl, fun a ha => by rw [ce_hs, if_neg (by omega), ce_hn, if_neg (by omega)], by rw [ce_hs, if_pos rfl], fun j hj => by rw [cpy_in _ _ _ _ _ (by omega) (by omega)]; rfl⟩
theorem wb_tos (hR : RC am b1 b2 S h) : ∃ h', wc 1 (some (am.1 + 42)) (fun t => J4_toString_0e30d t) h = some (some h.1, h') ∧ RC (amT am (zT S) h.1) (b1 + 2) (b2 + 4 + (zx S).length) (uT S) h' ∧ FrC am h h' := by
  have hR0 := hR
  obtain ⟨own, v, cap, gr, fb, hR⟩ := hR
  obtain ⟨hne, hv⟩ := hR.hv
  have hT := hR.tx
  have h79 : am.1 + 79 ≤ h.1 := by
    obtain ⟨-, -, -, -, -, -, -, -, -, -, r3, -⟩ := hR
    exact r3
  obtain ⟨z, t1, t2, t3, t4, t5, t6, t7, t8, t9⟩ := id hT
  have g : ∀ (x : va_E) (a : Nat), a < h.1 → ce (hs (hn h 4 (.inr (0, [.null, .int 0, .int 0, .int 0]))) h.1 x) a = ce h a := fun x a ha => by rw [ce_hs, if_neg (by omega), ce_hn, if_neg (by omega)]
  have hT1 : RTx am (zx S) v cap gr fb (hn h 4 (.inr (0, [.null, .int 0, .int 0, .int 0]))) := ⟨z, by rw [ce_hn, if_neg (by omega)]; exact t1, t2, by rw [ce_hn, if_neg (by omega)]; exact t3, t4, t5, t6, t7, t8, t9⟩
  have c0 : ce (hn h 4 (.inr (0, [.null, .int 0, .int 0, .int 0]))) h.1 = .inr (0, [.null, .int 0, .int 0, .int 0]) := by rw [ce_hn, if_pos rfl]
  have hT2 : RTx am (zx S) v cap gr fb (hs (hn h 4 (.inr (0, [.null, .int 0, .int 0, .int 0]))) h.1 (.inr (0, [.null, .int 0, .int 0, .int 0]))) := ⟨z, by rw [g _ _ (by omega)]; exact t1, t2, by rw [g _ _ hv]; exact t3, t4, t5, t6, t7, t8, t9⟩
  obtain ⟨h3, F, p1, p2, p3, p4, p5, p6, p7⟩ := wb_range hT2 (show v < h.1 + 1 by omega)
  have p1 : J7_copyOfRange_39247 (some v) (0 : Int32) (nI (zx S).length) (hs (hn h 4 (.inr (0, [.null, .int 0, .int 0, .int 0]))) h.1 (.inr (0, [.null, .int 0, .int 0, .int 0]))) = some (some (h.1 + 1), h3) := p1
  have c3 : ce h3 h.1 = .inr (0, [.null, .int 0, .int 0, .int 0]) := by rw [p5 h.1 (show h.1 < h.1 + 1 by omega), ce_hs, if_pos rfl]
  obtain ⟨r, f⟩ := RC.newT hR0 (h' := hs h3 h.1 (.inr (0, [.ref (h.1 + 1), .int 0, .int 0, .int 0]))) (F := F) (rest := [.int 0, .int 0]) (by show h3.1 = _; rw [p2]; rfl) (by show h3.2.1 = _; rw [p3]; rfl) (by show h3.2.2.2 = _; rw [p4]; rfl) (fun a ha => by rw [ce_hs, if_neg (by omega), p5 a (show a < h.1 + 1 by omega), g _ _ ha]) (by rw [ce_hs, if_pos rfl]) (by rw [ce_hs, if_neg (by omega)]; exact p6) (fun j hj => ⟨(t6 j hj).1, by rw [p7 j hj]; exact (t6 j hj).2⟩)
  refine ⟨_, ?_, r, f⟩
  rw [wc_sb hT]
  unfold J4_toString_0e30d
  rw [mb_s (v := some h.1) (h1 := hn h 4 (.inr (0, [.null, .int 0, .int 0, .int 0]))) rfl]
  have e9 : J0_init_db425 h.1 (some (am.1 + 42)) none (hn h 4 (.inr (0, [.null, .int 0, .int 0, .int 0]))) = some ((), hs h3 h.1 (.inr (0, [.ref (h.1 + 1), .int 0, .int 0, .int 0]))) := by
    unfold J0_init_db425
    rw [wn_s]
    rw [mb_s (v := some v) (h1 := hn h 4 (.inr (0, [.null, .int 0, .int 0, .int 0]))) (by
      rw [wc_sb hT1]
      obtain ⟨z', t1', -⟩ := hT1
      unfold J5_getValue_6d5f1
      rw [mb_s (v := some v) (h1 := hn h 4 (.inr (0, [.null, .int 0, .int 0, .int 0]))) (by simp [gR, gV, t1', okc])]
      rfl)]
    rw [mb_s (wb_len2 hT1), mb_s (wb_lat2 hT1), if_neg (by decide)]
    rw [mb_s (v := ()) (h1 := hs (hn h 4 (.inr (0, [.null, .int 0, .int 0, .int 0]))) h.1 (.inr (0, [.null, .int 0, .int 0, .int 0]))) (by
      unfold pB
      rw [if_pos (by decide)]
      unfold pV
      simp only [c0]
      rfl)]
    rw [mb_s p1]
    rw [mb_s (v := ()) (h1 := hs h3 h.1 (.inr (0, [.ref (h.1 + 1), .int 0, .int 0, .int 0]))) (by
      unfold pR pV
      simp only [c3]
      rfl)]
    rfl
  have e8 : wn (some h.1) (fun t => J0_init_81219 t (some (am.1 + 42))) (hn h 4 (.inr (0, [.null, .int 0, .int 0, .int 0]))) = some ((), hs h3 h.1 (.inr (0, [.ref (h.1 + 1), .int 0, .int 0, .int 0]))) := by
    show J0_init_81219 h.1 (some (am.1 + 42)) _ = _
    unfold J0_init_81219
    rw [wn_s, mb_s e9]
    rfl
  rw [mb_s e8]
  rfl
end MK
