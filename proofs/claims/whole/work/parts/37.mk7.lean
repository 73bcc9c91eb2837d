/-! ===== the texts of formulas, names, notes; a Book is kept ===== -/
def C9_formulaText_12_st (k12 : Nat → Int32 → Int32 → CM Nat) (x1 : Nat) (x2 x3 : Int32) : CM Nat :=
  cb (cG 6 x1) fun v1 =>
  if v1 ≤ x3 then (cTos 16384) else (cb (C9_goesOn x1 x3) fun v2 =>
  if v2 = 0 then (cb (C9_writeGroup x1 x2 x3) fun _ => k12 x1 (x3 + (1 : Int32)) (x3 + (1 : Int32))) else (k12 x1 x2 (x3 + (1 : Int32))))
def C9_formulaText_12 : Nat → Nat → Int32 → Int32 → CM Nat
  | 0 => fun _ _ _ => cf
  | n + 1 => fun x1 x2 x3 => C9_formulaText_12_st (C9_formulaText_12 n) x1 x2 x3
def C9_formulaText (p : Nat) : CM Nat := cb cX0 fun _ => C9_formulaText_12 LFU p (0 : Int32) (0 : Int32)
def C9_nameText (i : Nat) (p : Int32) : CM Nat := cb cX0 fun _ => cb (C9_writeName i p) fun _ => cTos 100
def C9_noteText (c : Nat) : CM Nat :=
  cb cX0 fun _ =>
  cb (cR c) fun v3 =>
  cb (cE (4, c)) fun _ =>
  cb (C9_writeRuns 5 v3 (201 + 5 * c)) fun _ =>
  cb (cR c) fun v6 =>
  cb (cE (4, c)) fun _ =>
  cb (C9_writeRuns 8 v6 (202 + 5 * c)) fun _ =>
  cb (C9_writeMoved c) fun _ =>
  cTos 16384
/-- an answer that is not BAD -/
def cg9 (v : Int32) : CM Int32 := if v = -9 then cf else cr v
def C11_closeBook (a1 : Int32) : CM Int32 :=
  cb (C10_cutTo (0 : Int32)) fun _ =>
  if a1 = 0 then (cb (cG 8 0) fun v2 =>
  if v2 < (8 : Int32) then (cb (cG 8 0) fun v6 =>
  cb (C9_formulaText 0) fun s =>
  cb (cNB s) fun b =>
  cb (C0_init2 b) fun _ =>
  cb (cSB v6 b) fun _ =>
  cb (cG 8 0) fun v12 =>
  cb (cP 8 0 (v12 + (1 : Int32))) fun _ =>
  cb (C11_answer v12) fun v13 =>
  cg9 v13) else (cb (C11_refuse (9 : Int32)) fun v14 => cr v14)) else (cb (C11_refuse a1) fun v15 => cr v15)
section MKF
variable {α β γ δ : Type} {am : AM} {L : Nat} {k : Int32 → Nat × Nat}
theorem gR_f {q : Nat × Nat} {ci k a b : Nat} (hk : ∀ S, kx S q = true) (ha : adr am q = a) (he : ∀ S, ∃ es, cel am S q = .inr (ci, es) ∧ es[k]? = some (.ref b)) (S : CS) (b1 b2 : Nat) (h : AH) (hR : RC am b1 b2 S h) : gR ci (some a) k h = some (some b, h) := by
  obtain ⟨es, e2, e3⟩ := he S
  have hc := hR.at (hk S)
  rw [ha, e2] at hc
  simp [gR, gV, hc, okc, e3]
theorem sa_rd {y : MM δ} {w : δ} {F : δ → MM (Option Nat)} {c : CM Nat} (h1 : ∀ S b1 b2 h, RC am b1 b2 S h → y h = some (w, h)) (h2 : Sa am L (F w) c) : Sa am L (mb y F) c := fun S v S' e b1 b2 h hR => by
  obtain ⟨a, len, h', e1, r⟩ := h2 S v S' e b1 b2 h hR
  exact ⟨a, len, h', by rw [mb_s (h1 S b1 b2 h hR)]; exact e1, r⟩
theorem so_rd {y : MM δ} {w : δ} {F : δ → MM Int32} {c : CM Int32} (h1 : ∀ S b1 b2 h, RC am b1 b2 S h → y h = some (w, h)) (h2 : So am k (F w) c) : So am k (mb y F) c := fun S v S' e b1 b2 h hR => by
  obtain ⟨a, h', c1, c2, e1, r⟩ := h2 S v S' e b1 b2 h hR
  exact ⟨a, h', c1, c2, by rw [mb_s (h1 S b1 b2 h hR)]; exact e1, r⟩
theorem kR_f {i : Nat} (hi : i < 19) (S : CS) (b1 b2 : Nat) (h : AH) (hR : RC am b1 b2 S h) : kR i h = some (some (aSt am i), h) := by
  obtain ⟨own, v, cap, gr, fb, -, -, -, -, -, -, -, -, -, -, -, hk, -⟩ := hR
  unfold kR
  rw [hk i hi]
theorem sc_g {t i ci k a : Nat} (ha : adr am (kyS t i) = a) (he : ∀ S, ∃ es, cel am S (kyS t i) = .inr (ci, es) ∧ es[k]? = some (.int (zs S t i))) : Sc am id (gI ci (some a) k) (cG t i) := sc_1 (sc_gI ha he fun v => sc_ret (a := v))
theorem sc_w {q : Nat × Nat} {ci a : Nat} {G : Nat → MM δ} {z : CM γ} {k : γ → δ} (hk : ∀ S, kx S q = true) (ha : adr am q = a) (he : ∀ S, ∃ es, cel am S q = .inr (ci, es)) (h1 : Sc am k (G a) z) : Sc am k (wc ci (some a) G) z := sc_1 (sc_wc hk ha he h1 fun v => sc_ret (a := v))
theorem sc_d {q : Nat × Nat} {ci k a b : Nat} (ha : adr am q = a) (he : ∀ S, ∃ es, cel am S q = .inr (ci, es) ∧ es[k]? = some (.ref b)) : Sc am (fun _ : Unit => some b) (gR ci (some a) k) (cE q) := fun S v S' e b1 b2 h hR => by
  unfold cE at e
  split at e
  · rename_i hq
    cases e
    obtain ⟨es, e2, e3⟩ := he S
    have hc := hR.at hq
    rw [ha, e2] at hc
    exact ⟨h, by simp [gR, gV, hc, okc, e3], hR, FrC.refl⟩
  · cases e
theorem u_X9_formulaText_12 : ∀ (n : Nat) (x1 : Nat) (x2 x3 : Int32), Sa am 16384 (X9_formulaText_12 n (am.1 + 41) (some (aPl am x1)) x2 x3) (C9_formulaText_12 n x1 x2 x3) := by
  intro n
  induction n with
  | zero => intro x1 x2 x3; exact sa_cf
  | succ n ih =>
    intro x1 x2 x3
    show Sa am 16384 (X9_formulaText_12_st (X9_formulaText_12 n) (am.1 + 41) (some (aPl am x1)) x2 x3) (C9_formulaText_12_st (C9_formulaText_12 n) x1 x2 x3)
    unfold X9_formulaText_12_st C9_formulaText_12_st
    refine sa_cal (k := id) (sc_g (t := 6) (i := x1) rfl (fun _ => ⟨_, rfl, rfl⟩)) fun v1 => ?_
    refine sa_ite ?_ ?_
    · unfold X9_formulaText_45
      refine sa_rd (gR_f (q := (13, 0)) (b := am.1 + 42) (fun _ => rfl) rfl (fun _ => ⟨_, rfl, rfl⟩)) ?_
      exact sa_tos
    · refine sa_cal (k := id) (u_X9_goesOn x1 x3) fun v2 => ?_
      refine sa_ite ?_ ?_
      · refine sa_cal (k := id) (sc_w (q := (13, 0)) (fun _ => rfl) rfl (fun _ => ⟨_, rfl⟩) (u_X9_writeGroup x1 x2 x3)) fun _ => ?_
        exact ih x1 _ _
      · exact ih x1 x2 _
theorem u_X9_formulaText (p : Nat) : Sa am 16384 (X9_formulaText (am.1 + 41) (some (aPl am p))) (C9_formulaText p) := by
  unfold X9_formulaText C9_formulaText
  refine sa_rd (gR_f (q := (13, 0)) (b := am.1 + 42) (fun _ => rfl) rfl (fun _ => ⟨_, rfl, rfl⟩)) ?_
  refine sa_cal (k := id) (sc_1 (sc_X0 sc_ret)) fun _ => ?_
  exact u_X9_formulaText_12 LFU p _ _
theorem u_X9_nameText (i : Nat) (p : Int32) : Sa am 100 (X9_nameText (am.1 + 41) (some (aBo am i)) p) (C9_nameText i p) := by
  unfold X9_nameText C9_nameText
  refine sa_rd (gR_f (q := (13, 0)) (b := am.1 + 42) (fun _ => rfl) rfl (fun _ => ⟨_, rfl, rfl⟩)) ?_
  refine sa_cal (k := id) (sc_1 (sc_X0 sc_ret)) fun _ => ?_
  refine sa_cal (k := id) (sc_w (q := (13, 0)) (fun _ => rfl) rfl (fun _ => ⟨_, rfl⟩) (u_X9_writeName i p)) fun _ => ?_
  refine sa_rd (gR_f (q := (13, 0)) (b := am.1 + 42) (fun _ => rfl) rfl (fun _ => ⟨_, rfl, rfl⟩)) ?_
  exact sa_tos
theorem u_X9_noteText (c : Nat) : Sa am 16384 (X9_noteText (am.1 + 41) (some (aCo am c))) (C9_noteText c) := by
  unfold X9_noteText C9_noteText
  refine sa_rd (gR_f (q := (13, 0)) (b := am.1 + 42) (fun _ => rfl) rfl (fun _ => ⟨_, rfl, rfl⟩)) ?_
  refine sa_cal (k := id) (sc_1 (sc_X0 sc_ret)) fun _ => ?_
  refine sa_rd (kR_f (i := 5) (by omega)) ?_
  refine sa_cal (k := fun s => some (aBo am s)) (sc_1 (sc_gS fun s => sc_ret (a := s))) fun v3 => ?_
  refine sa_cal (k := fun _ : Unit => some (aRo am (201 + 5 * c))) (sc_d (q := (4, c)) (b := aRo am (201 + 5 * c)) rfl (fun _ => ⟨_, rfl, rfl⟩)) fun _ => ?_
  refine sa_cal (k := id) (sc_w (q := (13, 0)) (fun _ => rfl) rfl (fun _ => ⟨_, rfl⟩) (u_X9_writeRuns 5 v3 (201 + 5 * c))) fun _ => ?_
  refine sa_rd (kR_f (i := 8) (by omega)) ?_
  refine sa_cal (k := fun s => some (aBo am s)) (sc_1 (sc_gS fun s => sc_ret (a := s))) fun v6 => ?_
  refine sa_cal (k := fun _ : Unit => some (aRo am (202 + 5 * c))) (sc_d (q := (4, c)) (b := aRo am (202 + 5 * c)) rfl (fun _ => ⟨_, rfl, rfl⟩)) fun _ => ?_
  refine sa_cal (k := id) (sc_w (q := (13, 0)) (fun _ => rfl) rfl (fun _ => ⟨_, rfl⟩) (u_X9_writeRuns 8 v6 (202 + 5 * c))) fun _ => ?_
  refine sa_cal (k := id) (sc_w (q := (13, 0)) (fun _ => rfl) rfl (fun _ => ⟨_, rfl⟩) (u_X9_writeMoved c)) fun _ => ?_
  refine sa_rd (gR_f (q := (13, 0)) (b := am.1 + 42) (fun _ => rfl) rfl (fun _ => ⟨_, rfl, rfl⟩)) ?_
  exact sa_tos
end MKF
