/-! ===== a Copy is made: its program's start ===== -/
def C2_init2 (c : Nat) : CM Unit :=
  cb (cE (4, c)) fun _ =>
  cb (cE (1, 200 + 5 * c)) fun _ =>
  cb (C8_copyFrom (200 + 5 * c) 12) fun _ =>
  cr ()
section MKK
variable {α β γ δ : Type} {am : AM} {b1 b2 : Nat} {S : CS} {h : AH} {C s b : Nat} {k : Int32 → Nat × Nat} {n : Int32}
theorem u_X2_init2 {c : Nat} : Sc am id (mb (gR 4 (some (aCo am c)) 2) fun v7 => mb (wc 9 v7 fun t => X8_copyFrom t (some (aRo am 12))) fun _ => mr ()) (C2_init2 c) := by
  unfold C2_init2
  refine sc_gRd (q := (4, c)) (b := aRo am (200 + 5 * c)) rfl (fun _ => ⟨_, rfl, rfl⟩) ?_
  refine sc_wcd (q := (1, 200 + 5 * c)) (k := id) rfl (fun _ => ⟨_, rfl⟩) (u_X8_copyFrom (200 + 5 * c) 12) fun _ => ?_
  exact sc_ret
theorem cp_start (hR : RC am b1 b2 S h) (hb : zB S ≤ 24) (hC : aSp am C = some (.inr (4, [.int 0, .null, .null, .null, .null, .null, .null, .null]))) (hC9 : am.1 + 79 ≤ C) (hbb : b < zB S) (n : Int32) (a3 : Option Nat) : ∃ h', X2_init C n (some (aBo am b)) a3 h = (mb (gR 4 (some C) 2) fun v7 => mb (wc 9 v7 fun t => X8_copyFrom t a3) fun _ => mr ()) h' ∧ RC (amC am (zC S) C h.1) (b1 + 10) (b2 + 2010) (uC S n b 4) h' ∧ FrC am h h' := by
  have hR0 := hR
  have hsp : ce h C = .inr (4, [.int 0, .null, .null, .null, .null, .null, .null, .null]) ∧ C < h.1 ∧ h.2.2.2 4 = some (aSt am 4) ∧ 4 < zT S := by
    obtain ⟨own, v, cap, gr, fb, -, -, -, -, -, -, -, -, -, -, -, r4, r5, -, r7, -⟩ := hR
    obtain ⟨x1, x2, x3⟩ := r7 C _ hC
    exact ⟨x1, x3, r4 4 (by omega), by omega⟩
  obtain ⟨c0, hCh, hk4, hz4⟩ := hsp
  obtain ⟨h1, a0, a1, a2, a3', a4, a5, a6, a7⟩ := st_row (k := 2) (c := 400) (c32 := 400) c0 (by show 2 < 8; omega) hCh (by omega) rfl
  obtain ⟨h2, d0, d1, d2, d3, d4, d5, d6, d7⟩ := st_row (k := 3) (c := 400) (c32 := 400) a5 (by show 3 < 8; omega) (by omega) (by omega) rfl
  obtain ⟨h3, e0, e1, e2, e3, e4, e5, e6, e7⟩ := st_row (k := 4) (c := 400) (c32 := 400) d5 (by show 4 < 8; omega) (by omega) (by omega) rfl
  obtain ⟨h4, f0, f1, f2, f3, f4, f5, f6, f7⟩ := st_row (k := 5) (c := 400) (c32 := 400) e5 (by show 5 < 8; omega) (by omega) (by omega) rfl
  obtain ⟨h5, g0, g1, g2, g3, g4, g5, g6, g7⟩ := st_row (k := 6) (c := 400) (c32 := 400) f5 (by show 6 < 8; omega) (by omega) (by omega) rfl
  have w2 : h2.1 = h.1 + 4 := by omega
  have w3 : h3.1 = h.1 + 6 := by omega
  have w4 : h4.1 = h.1 + 8 := by omega
  have w5 : h5.1 = h.1 + 10 := by omega
  have g5 : ce h5 C = .inr (4, [.int 0, .null, .ref h.1, .ref h1.1, .ref h2.1, .ref h3.1, .ref h4.1, .null]) := g5
  rw [a1, w2, w3, w4] at g5
  have hrf : h5.2.2.2 = h.2.2.2 := by rw [g3, f3, e3, d3, a3']
  have j1 : kR 4 h5 = some (some (aSt am 4), h5) := by unfold kR; rw [hrf, hk4]
  have j2 : pR 4 (some C) 7 (some (aSt am 4)) h5 = some ((), hs h5 C (.inr (4, [.int 0, .null, .ref h.1, .ref (h.1 + 2), .ref (h.1 + 4), .ref (h.1 + 6), .ref (h.1 + 8), .ref (aSt am 4)]))) := by
    unfold pR pV
    simp only [g5]
    rfl
  have g6' : ce (hs h5 C (.inr (4, [.int 0, .null, .ref h.1, .ref (h.1 + 2), .ref (h.1 + 4), .ref (h.1 + 6), .ref (h.1 + 8), .ref (aSt am 4)]))) C = .inr (4, [.int 0, .null, .ref h.1, .ref (h.1 + 2), .ref (h.1 + 4), .ref (h.1 + 6), .ref (h.1 + 8), .ref (aSt am 4)]) := by rw [ce_hs, if_pos rfl]
  have j3 : pI 4 (some C) 0 n (hs h5 C (.inr (4, [.int 0, .null, .ref h.1, .ref (h.1 + 2), .ref (h.1 + 4), .ref (h.1 + 6), .ref (h.1 + 8), .ref (aSt am 4)]))) = some ((), hs h5 C (.inr (4, [.int n, .null, .ref h.1, .ref (h.1 + 2), .ref (h.1 + 4), .ref (h.1 + 6), .ref (h.1 + 8), .ref (aSt am 4)]))) := by
    unfold pI pV
    simp only [g6']
    rw [hs_hs]
    rfl
  have g7' : ce (hs h5 C (.inr (4, [.int n, .null, .ref h.1, .ref (h.1 + 2), .ref (h.1 + 4), .ref (h.1 + 6), .ref (h.1 + 8), .ref (aSt am 4)]))) C = .inr (4, [.int n, .null, .ref h.1, .ref (h.1 + 2), .ref (h.1 + 4), .ref (h.1 + 6), .ref (h.1 + 8), .ref (aSt am 4)]) := by rw [ce_hs, if_pos rfl]
  have j4 : pR 4 (some C) 1 (some (aBo am b)) (hs h5 C (.inr (4, [.int n, .null, .ref h.1, .ref (h.1 + 2), .ref (h.1 + 4), .ref (h.1 + 6), .ref (h.1 + 8), .ref (aSt am 4)]))) = some ((), hs h5 C (.inr (4, [.int n, .ref (aBo am b), .ref h.1, .ref (h.1 + 2), .ref (h.1 + 4), .ref (h.1 + 6), .ref (h.1 + 8), .ref (aSt am 4)]))) := by
    unfold pR pV
    simp only [g7']
    rw [hs_hs]
    rfl
  have s5 : ∀ a, a < h4.1 → a ≠ C → ce h5 a = ce h4 a := g4
  have s4 : ∀ a, a < h3.1 → a ≠ C → ce h5 a = ce h3 a := fun a x y => (s5 a (by omega) y).trans (f4 a x y)
  have s3 : ∀ a, a < h2.1 → a ≠ C → ce h5 a = ce h2 a := fun a x y => (s4 a (by omega) y).trans (e4 a x y)
  have s2 : ∀ a, a < h1.1 → a ≠ C → ce h5 a = ce h1 a := fun a x y => (s3 a (by omega) y).trans (d4 a x y)
  have s1 : ∀ a, a < h.1 → a ≠ C → ce h5 a = ce h a := fun a x y => (s2 a (by omega) y).trans (a4 a x y)
  have hh : ∀ a, a ≠ C → ce (hs h5 C (.inr (4, [.int n, .ref (aBo am b), .ref h.1, .ref (h.1 + 2), .ref (h.1 + 4), .ref (h.1 + 6), .ref (h.1 + 8), .ref (aSt am 4)]))) a = ce h5 a := fun a ha => by rw [ce_hs, if_neg ha]
  rw [a1] at d6 d7
  rw [w2] at e6 e7
  rw [w3] at f6 f7
  rw [w4] at g6 g7
  obtain ⟨r, f⟩ := RC.newC (n := n) hR0 hb hC hC9 hbb hz4 (h' := hs h5 C (.inr (4, [.int n, .ref (aBo am b), .ref h.1, .ref (h.1 + 2), .ref (h.1 + 4), .ref (h.1 + 6), .ref (h.1 + 8), .ref (aSt am 4)]))) w5 (by show h5.2.1 = _; omega) hrf (fun a x y => by rw [hh a y, s1 a x y]) (by rw [ce_hs, if_pos rfl]; rfl) (fun k hk => by
      have : k = 0 ∨ k = 1 ∨ k = 2 ∨ k = 3 ∨ k = 4 := by omega
      rcases this with rfl | rfl | rfl | rfl | rfl
      · exact ⟨by rw [hh _ (by omega), s2 _ (by omega) (by omega)]; exact a6, by rw [hh _ (by omega), s2 _ (by omega) (by omega)]; exact a7⟩
      · exact ⟨by rw [hh _ (by omega), s3 _ (by omega) (by omega)]; exact d6, by rw [hh _ (by omega), s3 _ (by omega) (by omega)]; exact d7⟩
      · exact ⟨by rw [hh _ (by omega), s4 _ (by omega) (by omega)]; exact e6, by rw [hh _ (by omega), s4 _ (by omega) (by omega)]; exact e7⟩
      · exact ⟨by rw [hh _ (by omega), s5 _ (by omega) (by omega)]; exact f6, by rw [hh _ (by omega), s5 _ (by omega) (by omega)]; exact f7⟩
      · exact ⟨by rw [hh _ (by omega)]; exact g6, by rw [hh _ (by omega)]; exact g7⟩)
  refine ⟨_, ?_, r, f⟩
  unfold X2_init
  rw [wn_s, a0, d0, e0, f0, g0, mb_s j1, mb_s j2, mb_s j3, mb_s j4]
end MKK
