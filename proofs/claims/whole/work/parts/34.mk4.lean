/-! ===== a Book is made: its program's start ===== -/
section MKC
variable {h : AH} {B ci k c t : Nat} {es : List Value} {c32 : Int32}
/-- a row of numbers is made and set into a field -/
theorem st_arr (hB : ce h B = .inr (ci, es)) (hk : k < es.length) (hBh : B < h.1) (hc : c ≤ 10000) (e : c32 = nI c) : ∃ h', (∀ (β : Type) (f : Unit → MM β), mb (nA t c32) (fun v => mb (pR ci (some B) k v) f) h = f () h') ∧ h'.1 = h.1 + 1 ∧ h'.2.1 = h.2.1 + c ∧ h'.2.2.2 = h.2.2.2 ∧ (∀ a, a < h.1 → a ≠ B → ce h' a = ce h a) ∧ ce h' B = .inr (ci, es.set k (.ref h.1)) ∧ ce h' h.1 = .inl (t, c, .inl fun _ => 0) := by
  subst e
  have hcl : (nI c).toNatClampNeg = c := nI_clamp (by omega)
  have e1 : nA t (nI c) h = some (some h.1, hn h c (.inl (t, c, .inl (fun _ => 0)))) := by
    unfold nA
    rw [hcl, if_pos ⟨nI_pos (by omega), by omega⟩]
  have c1 : ce (hn h c (.inl (t, c, .inl (fun _ => 0)))) B = .inr (ci, es) := by rw [ce_hn, if_neg (by omega)]; exact hB
  have e2 : pR ci (some B) k (some h.1) (hn h c (.inl (t, c, .inl (fun _ => 0)))) = some ((), hs (hn h c (.inl (t, c, .inl (fun _ => 0)))) B (.inr (ci, es.set k (.ref h.1)))) := by
    unfold pR pV
    simp only [c1]
    exact if_pos ⟨trivial, hk⟩
  refine ⟨hs (hn h c (.inl (t, c, .inl (fun _ => 0)))) B (.inr (ci, es.set k (.ref h.1))), fun β f => by rw [mb_s e1, mb_s e2], rfl, rfl, rfl, fun a a1 a2 => by rw [ce_hs, if_neg a2, ce_hn, if_neg (by omega)], by rw [ce_hs, if_pos rfl], by rw [ce_hs, if_neg (by omega), ce_hn, if_pos rfl]⟩
/-- a Row is made and set into a field -/
theorem st_row (hB : ce h B = .inr (ci, es)) (hk : k < es.length) (hBh : B < h.1) (hc : c ≤ 10000) (e : c32 = nI c) : ∃ h', (∀ (β : Type) (f : Unit → MM β), mb (nO 9 2 [.null, .int 0]) (fun v => mb (wn v fun t => X8_init t c32) fun _ => mb (pR ci (some B) k v) f) h = f () h') ∧ h'.1 = h.1 + 2 ∧ h'.2.1 = h.2.1 + 2 + c ∧ h'.2.2.2 = h.2.2.2 ∧ (∀ a, a < h.1 → a ≠ B → ce h' a = ce h a) ∧ ce h' B = .inr (ci, es.set k (.ref h.1)) ∧ ce h' h.1 = .inr (9, [.ref (h.1 + 1), .int 0]) ∧ ce h' (h.1 + 1) = .inl (0, c, .inl fun _ => 0) := by
  subst e
  have c0 : ce (hn h 2 (.inr (9, [.null, .int 0]))) h.1 = .inr (9, [.null, .int 0]) := by rw [ce_hn, if_pos rfl]
  obtain ⟨h1, p0, p1, p2, p3, p4, p5, p6⟩ := st_arr (t := 0) (k := 0) (c := c) c0 (by show 0 < 2; omega) (show h.1 < h.1 + 1 by omega) hc rfl
  have e1 : wn (some h.1) (fun t => X8_init t (nI c)) (hn h 2 (.inr (9, [.null, .int 0]))) = some ((), h1) := by
    rw [wn_s]
    unfold X8_init
    rw [wn_s, if_neg (nI_pos (by omega)), p0]
    rfl
  have c1 : ce h1 B = .inr (ci, es) := by rw [p4 B (show B < h.1 + 1 by omega) (by omega), ce_hn, if_neg (by omega)]; exact hB
  have e2 : pR ci (some B) k (some h.1) h1 = some ((), hs h1 B (.inr (ci, es.set k (.ref h.1)))) := by
    unfold pR pV
    simp only [c1]
    exact if_pos ⟨trivial, hk⟩
  have q1 : h1.1 = h.1 + 2 := p1
  have q2 : h1.2.1 = h.2.1 + 2 + c := p2
  have q5 : ce h1 h.1 = .inr (9, [.ref (h.1 + 1), .int 0]) := p5
  have q6 : ce h1 (h.1 + 1) = .inl (0, c, .inl fun _ => 0) := p6
  refine ⟨hs h1 B (.inr (ci, es.set k (.ref h.1))), fun β f => ?_, q1, q2, p3, fun a a1 a2 => by rw [ce_hs, if_neg a2, p4 a (show a < h.1 + 1 by omega) (by omega), ce_hn, if_neg (by omega)], by rw [ce_hs, if_pos rfl], by rw [ce_hs, if_neg (by omega)]; exact q5, by rw [ce_hs, if_neg (by omega)]; exact q6⟩
  have e0 : nO 9 2 [.null, .int 0] h = some (some h.1, hn h 2 (.inr (9, [.null, .int 0]))) := rfl
  rw [mb_s e0, mb_s e1, mb_s e2]
/-- a Plan is made -/
theorem st_plan (hB : ce h B = .inr (ci, es)) (hk : k < es.length) (hBh : B < h.1) : ∃ h', (∀ (β : Type) (f : Unit → MM β), mb (nO 7 6 [.null, .null, .null, .null, .int 0, .int 0]) (fun v => mb (wn v fun t => X6_init t) fun _ => mb (pR ci (some B) k v) f) h = f () h') ∧ h'.1 = h.1 + 5 ∧ h'.2.1 = h.2.1 + 1852 ∧ h'.2.2.2 = h.2.2.2 ∧ (∀ a, a < h.1 → a ≠ B → ce h' a = ce h a) ∧ ce h' B = .inr (ci, es.set k (.ref h.1)) ∧ ce h' h.1 = .inr (7, [.ref (h.1 + 1), .ref (h.1 + 2), .ref (h.1 + 3), .ref (h.1 + 4), .int 0, .int (-1)]) ∧ ce h' (h.1 + 1) = .inl (0, 71, .inl fun _ => 0) ∧ ce h' (h.1 + 2) = .inl (0, 71, .inl fun _ => 0) ∧ ce h' (h.1 + 3) = .inl (1, 852, .inl fun _ => 0) ∧ ce h' (h.1 + 4) = .inl (1, 852, .inl fun _ => 0) := by
  have c0 : ce (hn h 6 (.inr (7, [.null, .null, .null, .null, .int 0, .int 0]))) h.1 = .inr (7, [.null, .null, .null, .null, .int 0, .int 0]) := by rw [ce_hn, if_pos rfl]
  obtain ⟨h1, a0, a1, a2, a3, a4, a5, a6⟩ := st_arr (t := 0) (k := 0) (c := 71) (c32 := 71) c0 (by show 0 < 6; omega) (show h.1 < h.1 + 1 by omega) (by omega) rfl
  have a1 : h1.1 = h.1 + 2 := a1
  have a6 : ce h1 (h.1 + 1) = .inl (0, 71, .inl fun _ => 0) := a6
  obtain ⟨h2, b0, b1, b2, b3, b4, b5, b6⟩ := st_arr (t := 0) (k := 1) (c := 71) (c32 := 71) a5 (by show 1 < 6; omega) (by omega) (by omega) rfl
  obtain ⟨h3, d0, d1, d2, d3, d4, d5, d6⟩ := st_arr (t := 1) (k := 2) (c := 852) (c32 := 852) b5 (by show 2 < 6; omega) (by omega) (by omega) rfl
  obtain ⟨h4, g0, g1, g2, g3, g4, g5, g6⟩ := st_arr (t := 1) (k := 3) (c := 852) (c32 := 852) d5 (by show 3 < 6; omega) (by omega) (by omega) rfl
  have w1 : h2.1 = h.1 + 3 := by omega
  have w2 : h3.1 = h.1 + 4 := by omega
  have w3 : h4.1 = h.1 + 5 := by omega
  rw [a1] at b6
  rw [w1] at d6
  rw [w2] at g6
  have g5 : ce h4 h.1 = .inr (7, [.ref (h.1 + 1), .ref h1.1, .ref h2.1, .ref h3.1, .int 0, .int 0]) := g5
  rw [a1, w1, w2] at g5
  have e3 : pI 7 (some h.1) 5 (-1 : Int32) h4 = some ((), hs h4 h.1 (.inr (7, [.ref (h.1 + 1), .ref (h.1 + 2), .ref (h.1 + 3), .ref (h.1 + 4), .int 0, .int (-1)]))) := by
    unfold pI pV
    simp only [g5]
    rfl
  have old : ∀ a, a < h.1 → ce h4 a = ce h a := fun a ha => by
    rw [g4 a (by omega) (by omega), d4 a (by omega) (by omega), b4 a (by omega) (by omega), a4 a (show a < h.1 + 1 by omega) (by omega), ce_hn, if_neg (by omega)]
  have e1 : wn (some h.1) (fun t => X6_init t) (hn h 6 (.inr (7, [.null, .null, .null, .null, .int 0, .int 0]))) = some ((), hs h4 h.1 (.inr (7, [.ref (h.1 + 1), .ref (h.1 + 2), .ref (h.1 + 3), .ref (h.1 + 4), .int 0, .int (-1)]))) := by
    rw [wn_s]
    unfold X6_init
    rw [wn_s, a0, b0, d0, g0, mb_s e3]
    rfl
  have c1 : ce (hs h4 h.1 (.inr (7, [.ref (h.1 + 1), .ref (h.1 + 2), .ref (h.1 + 3), .ref (h.1 + 4), .int 0, .int (-1)]))) B = .inr (ci, es) := by rw [ce_hs, if_neg (by omega), old B hBh]; exact hB
  have e2 : pR ci (some B) k (some h.1) (hs h4 h.1 (.inr (7, [.ref (h.1 + 1), .ref (h.1 + 2), .ref (h.1 + 3), .ref (h.1 + 4), .int 0, .int (-1)]))) = some ((), hs (hs h4 h.1 (.inr (7, [.ref (h.1 + 1), .ref (h.1 + 2), .ref (h.1 + 3), .ref (h.1 + 4), .int 0, .int (-1)]))) B (.inr (ci, es.set k (.ref h.1)))) := by
    unfold pR pV
    simp only [c1]
    exact if_pos ⟨trivial, hk⟩
  have a2 : h1.2.1 = h.2.1 + 6 + 71 := a2
  have a3 : h1.2.2.2 = h.2.2.2 := a3
  refine ⟨hs (hs h4 h.1 (.inr (7, [.ref (h.1 + 1), .ref (h.1 + 2), .ref (h.1 + 3), .ref (h.1 + 4), .int 0, .int (-1)]))) B (.inr (ci, es.set k (.ref h.1))), fun β f => ?_, w3, by show h4.2.1 = _; omega, by show h4.2.2.2 = _; rw [g3, d3, b3, a3], fun a x1 x2 => by rw [ce_hs, if_neg x2, ce_hs, if_neg (by omega), old a x1], by rw [ce_hs, if_pos rfl], by rw [ce_hs, if_neg (by omega), ce_hs, if_pos rfl], ?_, ?_, ?_, ?_⟩
  · have e0 : nO 7 6 [.null, .null, .null, .null, .int 0, .int 0] h = some (some h.1, hn h 6 (.inr (7, [.null, .null, .null, .null, .int 0, .int 0]))) := rfl
    rw [mb_s e0, mb_s e1, mb_s e2]
  · rw [ce_hs, if_neg (by omega), ce_hs, if_neg (by omega), g4 _ (by omega) (by omega), d4 _ (by omega) (by omega), b4 _ (by omega) (by omega)]; exact a6
  · rw [ce_hs, if_neg (by omega), ce_hs, if_neg (by omega), g4 _ (by omega) (by omega), d4 _ (by omega) (by omega)]; exact b6
  · rw [ce_hs, if_neg (by omega), ce_hs, if_neg (by omega), g4 _ (by omega) (by omega)]; exact d6
  · rw [ce_hs, if_neg (by omega), ce_hs, if_neg (by omega)]; exact g6
end MKC
