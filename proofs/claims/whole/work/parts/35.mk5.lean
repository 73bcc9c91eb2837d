/-! ===== a Book is made ===== -/
def cNB (s : Nat) : CM Nat := fun S => if zB S ≤ 24 ∧ s < zT S then some (zB S, uB S s) else none
def C0_init2 (b : Nat) : CM Unit :=
  cb (cE (3, b)) fun _ =>
  cb (cE (2, b + 1)) fun _ =>
  cb (C6_copyFrom (b + 1) 0) fun _ =>
  C0_init_95 LFU b (0 : Int32)
section MKD
variable {am : AM} {b1 b2 : Nat} {S : CS} {h : AH} {B s : Nat}
theorem u_X0_init2 {b : Nat} : Sc am id (mb (gR 2 (some (aBo am b)) 0) fun v7 => mb (wc 7 v7 fun t => X6_copyFrom t (some (aPl am 0))) fun _ => X0_init_95 LFU (aBo am b) (0 : Int32)) (C0_init2 b) := by
  unfold C0_init2
  refine sc_gRd (q := (3, b)) (b := aPl am (b + 1)) rfl (fun _ => ⟨_, rfl, rfl⟩) ?_
  refine sc_wcd (q := (2, b + 1)) (k := id) rfl (fun _ => ⟨_, rfl⟩) (u_X6_copyFrom (b + 1) 0) fun _ => ?_
  exact u_X0_init_95 LFU b (0 : Int32)
theorem bk_start (hR : RC am b1 b2 S h) (hb : zB S ≤ 24) (hB : aSp am B = some (.inr (2, [.null, .null, .null, .null, .null, .null, .null]))) (hB9 : am.1 + 79 ≤ B) (hs9 : s < zT S) (a1 : Option Nat) : ∃ h', X0_init B a1 (some (aSt am s)) h = (mb (gR 2 (some B) 0) fun v7 => mb (wc 7 v7 fun t => X6_copyFrom t a1) fun _ => X0_init_95 LFU B (0 : Int32)) h' ∧ RC (amB am (zB S) B h.1) (b1 + 14) (b2 + 4312) (uB S s) h' ∧ FrC am h h' := by
  have hR0 := hR
  have hsp : ce h B = .inr (2, [.null, .null, .null, .null, .null, .null, .null]) ∧ B < h.1 := by
    obtain ⟨own, v, cap, gr, fb, -, -, -, -, -, -, -, -, -, -, -, -, -, -, r7, -⟩ := hR
    obtain ⟨x1, x2, x3⟩ := r7 B _ hB
    exact ⟨x1, x3⟩
  obtain ⟨c0, hBh⟩ := hsp
  obtain ⟨h1, a0, a1', a2, a3, a4, a5, a6, a7, a8, a9, a10⟩ := st_plan (k := 0) c0 (by show 0 < 7; omega) hBh
  obtain ⟨h2, d0, d1, d2, d3, d4, d5, d6⟩ := st_arr (t := 0) (k := 1) (c := 852) (c32 := 852) a5 (by show 1 < 7; omega) (by omega) (by omega) rfl
  obtain ⟨h3, e0, e1, e2, e3, e4, e5, e6, e7⟩ := st_row (k := 2) (c := 400) (c32 := 400) d5 (by show 2 < 7; omega) (by omega) (by omega) rfl
  obtain ⟨h4, f0, f1, f2, f3, f4, f5, f6, f7⟩ := st_row (k := 3) (c := 400) (c32 := 400) e5 (by show 3 < 7; omega) (by omega) (by omega) rfl
  obtain ⟨h5, g0, g1, g2, g3, g4, g5, g6, g7⟩ := st_row (k := 4) (c := 400) (c32 := 400) f5 (by show 4 < 7; omega) (by omega) (by omega) rfl
  obtain ⟨h6, i0, i1, i2, i3, i4, i5, i6, i7⟩ := st_row (k := 5) (c := 400) (c32 := 400) g5 (by show 5 < 7; omega) (by omega) (by omega) rfl
  have w2 : h2.1 = h.1 + 6 := by omega
  have w3 : h3.1 = h.1 + 8 := by omega
  have w4 : h4.1 = h.1 + 10 := by omega
  have w5 : h5.1 = h.1 + 12 := by omega
  have w6 : h6.1 = h.1 + 14 := by omega
  have i5 : ce h6 B = .inr (2, [.ref h.1, .ref h1.1, .ref h2.1, .ref h3.1, .ref h4.1, .ref h5.1, .null]) := i5
  rw [a1', w2, w3, w4, w5] at i5
  have j2 : pR 2 (some B) 6 (some (aSt am s)) h6 = some ((), hs h6 B (.inr (2, [.ref h.1, .ref (h.1 + 5), .ref (h.1 + 6), .ref (h.1 + 8), .ref (h.1 + 10), .ref (h.1 + 12), .ref (aSt am s)]))) := by
    unfold pR pV
    simp only [i5]
    rfl
  have s6 : ∀ a, a < h5.1 → a ≠ B → ce h6 a = ce h5 a := i4
  have s5 : ∀ a, a < h4.1 → a ≠ B → ce h6 a = ce h4 a := fun a x y => (s6 a (by omega) y).trans (g4 a x y)
  have s4 : ∀ a, a < h3.1 → a ≠ B → ce h6 a = ce h3 a := fun a x y => (s5 a (by omega) y).trans (f4 a x y)
  have s3 : ∀ a, a < h2.1 → a ≠ B → ce h6 a = ce h2 a := fun a x y => (s4 a (by omega) y).trans (e4 a x y)
  have s2 : ∀ a, a < h1.1 → a ≠ B → ce h6 a = ce h1 a := fun a x y => (s3 a (by omega) y).trans (d4 a x y)
  have s1 : ∀ a, a < h.1 → a ≠ B → ce h6 a = ce h a := fun a x y => (s2 a (by omega) y).trans (a4 a x y)
  have hh : ∀ a, a ≠ B → ce (hs h6 B (.inr (2, [.ref h.1, .ref (h.1 + 5), .ref (h.1 + 6), .ref (h.1 + 8), .ref (h.1 + 10), .ref (h.1 + 12), .ref (aSt am s)]))) a = ce h6 a := fun a ha => by rw [ce_hs, if_neg ha]
  rw [w2] at e6 e7
  rw [w3] at f6 f7
  rw [w4] at g6 g7
  rw [w5] at i6 i7
  rw [a1'] at d6
  obtain ⟨r, f⟩ := RC.newB hR0 hb hB hB9 hs9 (h' := hs h6 B (.inr (2, [.ref h.1, .ref (h.1 + 5), .ref (h.1 + 6), .ref (h.1 + 8), .ref (h.1 + 10), .ref (h.1 + 12), .ref (aSt am s)]))) w6 (by show h6.2.1 = _; omega) (by show h6.2.2.2 = _; rw [i3, g3, f3, e3, d3, a3]) (fun a x y => by rw [hh a y, s1 a x y]) (by rw [ce_hs, if_pos rfl]) (by rw [hh _ (by omega), s2 _ (by omega) (by omega)]; exact a6) (by rw [hh _ (by omega), s2 _ (by omega) (by omega)]; exact a7) (by rw [hh _ (by omega), s2 _ (by omega) (by omega)]; exact a8) (by rw [hh _ (by omega), s2 _ (by omega) (by omega)]; exact a9) (by rw [hh _ (by omega), s2 _ (by omega) (by omega)]; exact a10) (by rw [hh _ (by omega), s3 _ (by omega) (by omega)]; exact d6) (fun k hk => by
      have : k = 0 ∨ k = 1 ∨ k = 2 ∨ k = 3 := by omega
      rcases this with rfl | rfl | rfl | rfl
      · exact ⟨by rw [hh _ (by omega), s4 _ (by omega) (by omega)]; exact e6, by rw [hh _ (by omega), s4 _ (by omega) (by omega)]; exact e7⟩
      · exact ⟨by rw [hh _ (by omega), s5 _ (by omega) (by omega)]; exact f6, by rw [hh _ (by omega), s5 _ (by omega) (by omega)]; exact f7⟩
      · exact ⟨by rw [hh _ (by omega), s6 _ (by omega) (by omega)]; exact g6, by rw [hh _ (by omega), s6 _ (by omega) (by omega)]; exact g7⟩
      · exact ⟨by rw [hh _ (by omega)]; exact i6, by rw [hh _ (by omega)]; exact i7⟩)
  refine ⟨_, ?_, r, f⟩
  unfold X0_init
  rw [wn_s, a0, d0, e0, f0, g0, i0, mb_s j2]
end MKD
