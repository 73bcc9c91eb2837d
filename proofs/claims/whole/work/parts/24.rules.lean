/-! ===== rules: what a program over the class's heap does, told by a program over its numbers ===== -/
def usA (S : CS) (t i : Nat) (F : Nat → Int32) : CS := (S.1, (fun a b => if a = t ∧ b = i then F else za S a b), S.2.2)
def cFi (t i : Nat) (b : Bool) (v : Int32) : CM Unit := fun S => if kx S (20 + t, i) = true ∧ by2 t = b ∧ zl S t i < 19999 then some ((), usA S t i (fun j => if j < zl S t i then (if b = true then vp_nar .byte v else v) else za S t i j)) else none
def cCp (t i t2 i2 : Nat) (n : Int32) : CM Unit := fun S => if kx S (20 + t, i) = true ∧ kx S (20 + t2, i2) = true ∧ by2 t = by2 t2 ∧ ¬ n < 0 ∧ n.toNatClampNeg ≤ zl S t i ∧ n.toNatClampNeg ≤ zl S t2 i2 ∧ (by2 t = true → ∀ j, j < n.toNatClampNeg → (za S t i j).toInt8.toInt32 = za S t i j) then some ((), usA S t2 i2 (va_cpy (za S t i) (za S t2 i2) 0 0 n.toNatClampNeg)) else none
section SCR
variable {α β γ δ : Type} {am : AM} {x : MM β} {n : CM α} {g : α → β}
theorem zs_same {S : CS} {t i : Nat} {v : Int32} : zs (us1 S t i v) t i = v := if_pos ⟨rfl, rfl⟩
theorem zs_not {S : CS} {t i t' j : Nat} {v : Int32} (h : t' ≠ t) : zs (us1 S t i v) t' j = zs S t' j := if_neg (fun q => h q.1)
theorem za_same {S : CS} {t i : Nat} {F : Nat → Int32} : za (usA S t i F) t i = F := if_pos ⟨rfl, rfl⟩
theorem celp1 {S : CS} {i : Nat} {v : Int32} : cel am (us1 S 1 i v) (1, i) = .inr (9, [.ref (aAr am 1 i), .int v]) := by
  show (Sum.inr (9, [Value.ref (aAr am 1 i), Value.int (zs (us1 S 1 i v) 1 i)]) : va_E) = _
  rw [(zs_same : zs (us1 S 1 i v) 1 i = v)]
theorem celp2 {S : CS} {i : Nat} {v : Int32} : cel am (us1 S 2 i v) (6, i) = .inr (11, [.ref (aAr am 2 i), .ref (aRo am 0), .ref (aRo am 1), .ref (aRo am 2), .int v]) := by
  show (Sum.inr (11, [Value.ref (aAr am 2 i), Value.ref (aRo am 0), Value.ref (aRo am 1), Value.ref (aRo am 2), Value.int (zs (us1 S 2 i v) 2 i)]) : va_E) = _
  rw [(zs_same : zs (us1 S 2 i v) 2 i = v)]
theorem celp3 {S : CS} {i : Nat} {v : Int32} : cel am (us1 S 3 i v) (7, i) = .inr (8, [.ref (am.1 + 1), .ref (am.1 + 10), .ref (am.1 + 21), .int v, .int (zs S 4 i), .int (zs S 5 i)]) := by
  show (Sum.inr (8, [Value.ref (am.1 + 1), Value.ref (am.1 + 10), Value.ref (am.1 + 21), Value.int (zs (us1 S 3 i v) 3 i), Value.int (zs (us1 S 3 i v) 4 i), Value.int (zs (us1 S 3 i v) 5 i)]) : va_E) = _
  rw [(zs_same : zs (us1 S 3 i v) 3 i = v), (zs_not (by decide) : zs (us1 S 3 i v) 4 i = zs S 4 i), (zs_not (by decide) : zs (us1 S 3 i v) 5 i = zs S 5 i)]
theorem celp4 {S : CS} {i : Nat} {v : Int32} : cel am (us1 S 4 i v) (7, i) = .inr (8, [.ref (am.1 + 1), .ref (am.1 + 10), .ref (am.1 + 21), .int (zs S 3 i), .int v, .int (zs S 5 i)]) := by
  show (Sum.inr (8, [Value.ref (am.1 + 1), Value.ref (am.1 + 10), Value.ref (am.1 + 21), Value.int (zs (us1 S 4 i v) 3 i), Value.int (zs (us1 S 4 i v) 4 i), Value.int (zs (us1 S 4 i v) 5 i)]) : va_E) = _
  rw [(zs_same : zs (us1 S 4 i v) 4 i = v), (zs_not (by decide) : zs (us1 S 4 i v) 3 i = zs S 3 i), (zs_not (by decide) : zs (us1 S 4 i v) 5 i = zs S 5 i)]
theorem celp5 {S : CS} {i : Nat} {v : Int32} : cel am (us1 S 5 i v) (7, i) = .inr (8, [.ref (am.1 + 1), .ref (am.1 + 10), .ref (am.1 + 21), .int (zs S 3 i), .int (zs S 4 i), .int v]) := by
  show (Sum.inr (8, [Value.ref (am.1 + 1), Value.ref (am.1 + 10), Value.ref (am.1 + 21), Value.int (zs (us1 S 5 i v) 3 i), Value.int (zs (us1 S 5 i v) 4 i), Value.int (zs (us1 S 5 i v) 5 i)]) : va_E) = _
  rw [(zs_same : zs (us1 S 5 i v) 5 i = v), (zs_not (by decide) : zs (us1 S 5 i v) 3 i = zs S 3 i), (zs_not (by decide) : zs (us1 S 5 i v) 4 i = zs S 4 i)]
theorem celp6 {S : CS} {i : Nat} {v : Int32} : cel am (us1 S 6 i v) (2, i) = .inr (7, [.ref (aAr am 3 i), .ref (aAr am 4 i), .ref (aAr am 5 i), .ref (aAr am 6 i), .int v, .int (zs S 7 i)]) := by
  show (Sum.inr (7, [Value.ref (aAr am 3 i), Value.ref (aAr am 4 i), Value.ref (aAr am 5 i), Value.ref (aAr am 6 i), Value.int (zs (us1 S 6 i v) 6 i), Value.int (zs (us1 S 6 i v) 7 i)]) : va_E) = _
  rw [(zs_same : zs (us1 S 6 i v) 6 i = v), (zs_not (by decide) : zs (us1 S 6 i v) 7 i = zs S 7 i)]
theorem celp7 {S : CS} {i : Nat} {v : Int32} : cel am (us1 S 7 i v) (2, i) = .inr (7, [.ref (aAr am 3 i), .ref (aAr am 4 i), .ref (aAr am 5 i), .ref (aAr am 6 i), .int (zs S 6 i), .int v]) := by
  show (Sum.inr (7, [Value.ref (aAr am 3 i), Value.ref (aAr am 4 i), Value.ref (aAr am 5 i), Value.ref (aAr am 6 i), Value.int (zs (us1 S 7 i v) 6 i), Value.int (zs (us1 S 7 i v) 7 i)]) : va_E) = _
  rw [(zs_same : zs (us1 S 7 i v) 7 i = v), (zs_not (by decide) : zs (us1 S 7 i v) 6 i = zs S 6 i)]
theorem celp8 {S : CS} {i : Nat} {v : Int32} : cel am (us1 S 8 i v) (5, i) = .inr (12, [.ref (am.1 + 1), .ref (am.1 + 9), .ref (aPl am 0), .ref (aRo am 12), .ref (am.1 + 37), .ref (am.1 + 41), .ref (am.1 + 44), .ref (am.1 + 45), .int v, .int (zs S 9 i), .int (zs S 10 i), .int (zs S 11 i)]) := by
  show (Sum.inr (12, [Value.ref (am.1 + 1), Value.ref (am.1 + 9), Value.ref (aPl am 0), Value.ref (aRo am 12), Value.ref (am.1 + 37), Value.ref (am.1 + 41), Value.ref (am.1 + 44), Value.ref (am.1 + 45), Value.int (zs (us1 S 8 i v) 8 i), Value.int (zs (us1 S 8 i v) 9 i), Value.int (zs (us1 S 8 i v) 10 i), Value.int (zs (us1 S 8 i v) 11 i)]) : va_E) = _
  rw [(zs_same : zs (us1 S 8 i v) 8 i = v), (zs_not (by decide) : zs (us1 S 8 i v) 9 i = zs S 9 i), (zs_not (by decide) : zs (us1 S 8 i v) 10 i = zs S 10 i), (zs_not (by decide) : zs (us1 S 8 i v) 11 i = zs S 11 i)]
theorem celp9 {S : CS} {i : Nat} {v : Int32} : cel am (us1 S 9 i v) (5, i) = .inr (12, [.ref (am.1 + 1), .ref (am.1 + 9), .ref (aPl am 0), .ref (aRo am 12), .ref (am.1 + 37), .ref (am.1 + 41), .ref (am.1 + 44), .ref (am.1 + 45), .int (zs S 8 i), .int v, .int (zs S 10 i), .int (zs S 11 i)]) := by
  show (Sum.inr (12, [Value.ref (am.1 + 1), Value.ref (am.1 + 9), Value.ref (aPl am 0), Value.ref (aRo am 12), Value.ref (am.1 + 37), Value.ref (am.1 + 41), Value.ref (am.1 + 44), Value.ref (am.1 + 45), Value.int (zs (us1 S 9 i v) 8 i), Value.int (zs (us1 S 9 i v) 9 i), Value.int (zs (us1 S 9 i v) 10 i), Value.int (zs (us1 S 9 i v) 11 i)]) : va_E) = _
  rw [(zs_same : zs (us1 S 9 i v) 9 i = v), (zs_not (by decide) : zs (us1 S 9 i v) 8 i = zs S 8 i), (zs_not (by decide) : zs (us1 S 9 i v) 10 i = zs S 10 i), (zs_not (by decide) : zs (us1 S 9 i v) 11 i = zs S 11 i)]
theorem celp10 {S : CS} {i : Nat} {v : Int32} : cel am (us1 S 10 i v) (5, i) = .inr (12, [.ref (am.1 + 1), .ref (am.1 + 9), .ref (aPl am 0), .ref (aRo am 12), .ref (am.1 + 37), .ref (am.1 + 41), .ref (am.1 + 44), .ref (am.1 + 45), .int (zs S 8 i), .int (zs S 9 i), .int v, .int (zs S 11 i)]) := by
  show (Sum.inr (12, [Value.ref (am.1 + 1), Value.ref (am.1 + 9), Value.ref (aPl am 0), Value.ref (aRo am 12), Value.ref (am.1 + 37), Value.ref (am.1 + 41), Value.ref (am.1 + 44), Value.ref (am.1 + 45), Value.int (zs (us1 S 10 i v) 8 i), Value.int (zs (us1 S 10 i v) 9 i), Value.int (zs (us1 S 10 i v) 10 i), Value.int (zs (us1 S 10 i v) 11 i)]) : va_E) = _
  rw [(zs_same : zs (us1 S 10 i v) 10 i = v), (zs_not (by decide) : zs (us1 S 10 i v) 8 i = zs S 8 i), (zs_not (by decide) : zs (us1 S 10 i v) 9 i = zs S 9 i), (zs_not (by decide) : zs (us1 S 10 i v) 11 i = zs S 11 i)]
theorem celp11 {S : CS} {i : Nat} {v : Int32} : cel am (us1 S 11 i v) (5, i) = .inr (12, [.ref (am.1 + 1), .ref (am.1 + 9), .ref (aPl am 0), .ref (aRo am 12), .ref (am.1 + 37), .ref (am.1 + 41), .ref (am.1 + 44), .ref (am.1 + 45), .int (zs S 8 i), .int (zs S 9 i), .int (zs S 10 i), .int v]) := by
  show (Sum.inr (12, [Value.ref (am.1 + 1), Value.ref (am.1 + 9), Value.ref (aPl am 0), Value.ref (aRo am 12), Value.ref (am.1 + 37), Value.ref (am.1 + 41), Value.ref (am.1 + 44), Value.ref (am.1 + 45), Value.int (zs (us1 S 11 i v) 8 i), Value.int (zs (us1 S 11 i v) 9 i), Value.int (zs (us1 S 11 i v) 10 i), Value.int (zs (us1 S 11 i v) 11 i)]) : va_E) = _
  rw [(zs_same : zs (us1 S 11 i v) 11 i = v), (zs_not (by decide) : zs (us1 S 11 i v) 8 i = zs S 8 i), (zs_not (by decide) : zs (us1 S 11 i v) 9 i = zs S 9 i), (zs_not (by decide) : zs (us1 S 11 i v) 10 i = zs S 10 i)]
theorem okc_self (c : Nat) : okc c c = true := by simp [okc]
theorem sc_gI {t i ci k a : Nat} {F : Int32 → MM β} {f : Int32 → CM α} (ha : adr am (kyS t i) = a) (he : ∀ S, ∃ es, cel am S (kyS t i) = .inr (ci, es) ∧ es[k]? = some (.int (zs S t i))) (h2 : ∀ v, Sc am g (F v) (f v)) : Sc am g (mb (gI ci (some a) k) F) (cb (cG t i) f) :=
  sc_rd (k := id) (fun S v S' e => by
    unfold cG at e
    split at e
    · rename_i hq
      cases e
      refine ⟨rfl, fun b1 b2 h hR => ?_⟩
      obtain ⟨es, e1, e2⟩ := he S
      have hc := hR.at hq
      rw [ha, e1] at hc
      simp [gI, gV, hc, okc, e2]
    · cases e) h2
theorem sc_pI {t i ci k a : Nat} {v : Int32} {F : Unit → MM β} {f : Unit → CM α} (ht : 1 ≤ t ∧ t ≤ 12) (ha : adr am (kyS t i) = a) (he : ∀ S, ∃ es, cel am S (kyS t i) = .inr (ci, es) ∧ k < es.length ∧ cel am (us1 S t i v) (kyS t i) = .inr (ci, es.set k (.int v))) (h2 : Sc am g (F ()) (f ())) : Sc am g (mb (pI ci (some a) k v) F) (cb (cP t i v) f) :=
  sc_cal (k := id) (fun S u S' e b1 b2 h hR => by
    unfold cP at e
    split at e
    · rename_i hq
      cases e
      obtain ⟨es, e1, e2, e3⟩ := he S
      have hc := hR.at hq
      obtain ⟨r, f2⟩ := hR.put (S' := us1 S t i v) hq (fun _ => rfl) (fun k' _ hk => cel_us1 ht k' hk) ⟨rfl, rfl, rfl⟩ id
      rw [ha] at hc r f2
      rw [e1] at hc
      rw [e3] at r f2
      refine ⟨_, ?_, r, f2⟩
      unfold pI pV
      simp only [hc]
      rw [if_pos ⟨trivial, e2⟩]
    · cases e) (fun _ => h2)
theorem sc_gR {q : Nat × Nat} {ci k a b : Nat} {F : Option Nat → MM β} (hk : ∀ S, kx S q = true) (ha : adr am q = a) (he : ∀ S, ∃ es, cel am S q = .inr (ci, es) ∧ es[k]? = some (.ref b)) (h2 : Sc am g (F (some b)) n) : Sc am g (mb (gR ci (some a) k) F) n := fun S v S' e b1 b2 h hR => by
  obtain ⟨h', e1, r1, f1⟩ := h2 S v S' e b1 b2 h hR
  refine ⟨h', ?_, r1, f1⟩
  obtain ⟨es, e2, e3⟩ := he S
  have hc := hR.at (hk S)
  rw [ha, e2] at hc
  unfold mb
  simp [gR, gV, hc, okc, e3, e1]
theorem sc_gRd {q : Nat × Nat} {ci k a b : Nat} {F : Option Nat → MM β} (ha : adr am q = a) (he : ∀ S, ∃ es, cel am S q = .inr (ci, es) ∧ es[k]? = some (.ref b)) (h2 : Sc am g (F (some b)) n) : Sc am g (mb (gR ci (some a) k) F) (cb (cE q) fun _ => n) := fun S v S' e b1 b2 h hR => by
  unfold cb cE at e
  by_cases hq : kx S q = true
  · rw [if_pos hq] at e
    obtain ⟨h', e1, r1, f1⟩ := h2 S v S' e b1 b2 h hR
    refine ⟨h', ?_, r1, f1⟩
    obtain ⟨es, e2, e3⟩ := he S
    have hc := hR.at hq
    rw [ha, e2] at hc
    unfold mb
    simp [gR, gV, hc, okc, e3, e1]
  · rw [if_neg hq] at e
    cases e
theorem sc_wc {q : Nat × Nat} {ci a : Nat} {G : Nat → MM δ} {z : CM γ} {k : γ → δ} {F : δ → MM β} {f : γ → CM α} (hk : ∀ S, kx S q = true) (ha : adr am q = a) (he : ∀ S, ∃ es, cel am S q = .inr (ci, es)) (h1 : Sc am k (G a) z) (h2 : ∀ v, Sc am g (F (k v)) (f v)) : Sc am g (mb (wc ci (some a) G) F) (cb z f) :=
  sc_cal (k := k) (fun S v S' e b1 b2 h hR => by
    obtain ⟨h', e1, r1, f1⟩ := h1 S v S' e b1 b2 h hR
    refine ⟨h', ?_, r1, f1⟩
    obtain ⟨es, e2⟩ := he S
    have hc := hR.at (hk S)
    rw [ha, e2] at hc
    unfold wc
    simp only [hc]
    rw [if_pos (okc_self _)]
    exact e1) h2
theorem sc_wcd {q : Nat × Nat} {ci a : Nat} {G : Nat → MM δ} {z : CM γ} {k : γ → δ} {F : δ → MM β} {f : γ → CM α} (ha : adr am q = a) (he : ∀ S, ∃ es, cel am S q = .inr (ci, es)) (h1 : Sc am k (G a) z) (h2 : ∀ v, Sc am g (F (k v)) (f v)) : Sc am g (mb (wc ci (some a) G) F) (cb (cE q) fun _ => cb z f) := fun S v S' e b1 b2 h hR => by
  by_cases hq : kx S q = true
  · have e : cb z f S = some (v, S') := by
      unfold cb cE at e
      rw [if_pos hq] at e
      exact e
    obtain ⟨h', e1, r1, f1⟩ := sc_cal (k := k) h1 h2 S v S' e b1 b2 h hR
    refine ⟨h', ?_, r1, f1⟩
    obtain ⟨es, e2⟩ := he S
    have hc := hR.at hq
    rw [ha, e2] at hc
    unfold mb at e1 ⊢
    have e3 : wc ci (some a) G h = G a h := by
      unfold wc
      simp only [hc]
      exact if_pos (okc_self _)
    rw [e3]
    exact e1
  · unfold cb cE at e
    rw [if_neg hq] at e
    cases e
theorem sc_gW {b : Nat} {F : Option Nat → MM β} {f : Nat → CM α} (h2 : ∀ s, Sc am g (F (some (aSt am s))) (f s)) : Sc am g (mb (gR 2 (some (aBo am b)) 6) F) (cb (cW b) f) :=
  sc_rd (k := fun s => some (aSt am s)) (fun S v S' e => by
    unfold cW at e
    split at e
    · rename_i hq
      cases e
      refine ⟨rfl, fun b1 b2 h hR => ?_⟩
      have hc : ce h (aBo am b) = cel am S (3, b) := hR.at hq
      simp [gR, gV, hc, okc, cel]
    · cases e) h2
theorem sc_gS {b : Nat} {F : Option Nat → MM β} {f : Nat → CM α} (h2 : ∀ s, Sc am g (F (some (aBo am s))) (f s)) : Sc am g (mb (gR 4 (some (aCo am b)) 1) F) (cb (cR b) f) :=
  sc_rd (k := fun s => some (aBo am s)) (fun S v S' e => by
    unfold cR at e
    split at e
    · rename_i hq
      cases e
      refine ⟨rfl, fun b1 b2 h hR => ?_⟩
      have hc : ce h (aCo am b) = cel am S (4, b) := hR.at hq
      simp [gR, gV, hc, okc, cel]
    · cases e) h2
theorem sc_gT {b : Nat} {F : Option Nat → MM β} {f : Nat → CM α} (h2 : ∀ s, Sc am g (F (some (aSt am s))) (f s)) : Sc am g (mb (gR 4 (some (aCo am b)) 7) F) (cb (cT b) f) :=
  sc_rd (k := fun s => some (aSt am s)) (fun S v S' e => by
    unfold cT at e
    split at e
    · rename_i hq
      cases e
      refine ⟨rfl, fun b1 b2 h hR => ?_⟩
      have hc : ce h (aCo am b) = cel am S (4, b) := hR.at hq
      simp [gR, gV, hc, okc, cel]
    · cases e) h2
theorem RC.ar {b1 b2 : Nat} {S : CS} {h : AH} (hR : RC am b1 b2 S h) {t i : Nat} (hq : kx S (20 + t, i) = true) : ce h (aAr am t i) = .inl (if by2 t = true then 1 else 0, zl S t i, .inl (za S t i)) := by
  have := hR.at hq
  rw [cel_ar, adr_ar] at this
  exact this
theorem cel_usA {S : CS} {t i : Nat} {F : Nat → Int32} (k : Nat × Nat) (hx : kx S k = true) (hk : k ≠ (20 + t, i)) : cel am (usA S t i F) k = cel am S k := by
  obtain ⟨a, b⟩ := k
  unfold cel
  by_cases h14 : 14 ≤ a
  · rw [if_pos h14, if_pos h14]
    have h20 : 20 ≤ a := by
      unfold kx at hx
      by_cases hc : 20 ≤ a
      · exact hc
      · rw [if_neg (by simp only; omega), if_neg (by simp only; omega), if_neg (by simp only; omega), if_neg (by simp only; omega), if_neg (by simp only; omega)] at hx
        cases hx
    have hn : ¬ (a - 20 = t ∧ b = i) := by
      rintro ⟨rfl, rfl⟩
      exact hk (by rw [show 20 + (a - 20) = a by omega])
    have e1 : za (usA S t i F) (a - 20) b = za S (a - 20) b := by
      show (if a - 20 = t ∧ b = i then _ else _) = _
      rw [if_neg hn]
    rw [e1]
    rfl
  · rw [if_neg h14, if_neg h14]
    rfl
/-- a row is written anew -/
theorem RC.putA {b1 b2 : Nat} {S : CS} {h : AH} (hR : RC am b1 b2 S h) {t i : Nat} (hq : kx S (20 + t, i) = true) (F : Nat → Int32) : RC am b1 b2 (usA S t i F) (hs h (aAr am t i) (.inl (if by2 t = true then 1 else 0, zl S t i, .inl F))) ∧ FrC am h (hs h (aAr am t i) (.inl (if by2 t = true then 1 else 0, zl S t i, .inl F))) := by
  have q := hR.put (S' := usA S t i F) hq (fun _ => rfl) (fun k' hx hk => cel_usA k' hx hk) ⟨rfl, rfl, rfl⟩ id
  rw [cel_ar, adr_ar, za_same] at q
  exact q
theorem sc_aI {t i : Nat} {k : Int32} {F : Int32 → MM β} {f : Int32 → CM α} (h2 : ∀ v, Sc am g (F v) (f v)) : Sc am g (mb (aI (some (aAr am t i)) k) F) (cb (cA t i k) f) :=
  sc_rd (k := id) (fun S v S' e => by
    unfold cA at e
    split at e
    · rename_i hq
      obtain ⟨hq, hb, hi⟩ := hq
      cases e
      refine ⟨rfl, fun b1 b2 h hR => ?_⟩
      have hc := hR.ar hq
      rw [hb] at hc
      unfold aI
      simp only [hc]
      exact if_pos ⟨Or.inl rfl, hi⟩
    · cases e) h2
theorem sc_aB {t i : Nat} {k : Int32} {F : Int32 → MM β} {f : Int32 → CM α} (h2 : ∀ v, Sc am g (F v) (f v)) : Sc am g (mb (aB (some (aAr am t i)) k) F) (cb (cAb t i k) f) :=
  sc_rd (k := id) (fun S v S' e => by
    unfold cAb at e
    split at e
    · rename_i hq
      obtain ⟨hq, hb, hi⟩ := hq
      cases e
      refine ⟨rfl, fun b1 b2 h hR => ?_⟩
      have hc := hR.ar hq
      rw [hb] at hc
      unfold aB
      simp only [hc]
      exact if_pos ⟨Or.inl rfl, hi⟩
    · cases e) h2
theorem sc_aN {t i : Nat} {F : Int32 → MM β} {f : Int32 → CM α} (h2 : ∀ v, Sc am g (F v) (f v)) : Sc am g (mb (aN (some (aAr am t i))) F) (cb (cN t i) f) :=
  sc_rd (k := id) (fun S v S' e => by
    unfold cN at e
    split at e
    · rename_i hq
      cases e
      refine ⟨rfl, fun b1 b2 h hR => ?_⟩
      have hc := hR.ar hq
      unfold aN
      simp only [hc]
      have ht : (if by2 t = true then (1 : Nat) else 0) < 5 := by split <;> decide
      rw [if_pos (Or.inl ht)]
      rfl
    · cases e) h2
theorem sc_sI {t i : Nat} {k v : Int32} {F : Unit → MM β} {f : Unit → CM α} (h2 : Sc am g (F ()) (f ())) : Sc am g (mb (sI (some (aAr am t i)) k v) F) (cb (cS t i k v) f) :=
  sc_cal (k := id) (fun S u S' e b1 b2 h hR => by
    unfold cS at e
    split at e
    · rename_i hq
      obtain ⟨hq, hb, hi⟩ := hq
      cases e
      have hc := hR.ar hq
      obtain ⟨r, f2⟩ := hR.putA hq (upd (za S t i) k.toNatClampNeg v)
      rw [hb] at hc r f2
      refine ⟨_, ?_, r, f2⟩
      unfold sI
      simp only [hc]
      exact if_pos ⟨rfl, hi⟩
    · cases e) (fun _ => h2)
theorem sc_sB {t i : Nat} {k v : Int32} {F : Unit → MM β} {f : Unit → CM α} (h2 : Sc am g (F ()) (f ())) : Sc am g (mb (sB (some (aAr am t i)) k v) F) (cb (cSb t i k v) f) :=
  sc_cal (k := id) (fun S u S' e b1 b2 h hR => by
    unfold cSb at e
    split at e
    · rename_i hq
      obtain ⟨hq, hb, hi⟩ := hq
      cases e
      have hc := hR.ar hq
      obtain ⟨r, f2⟩ := hR.putA hq (upd (za S t i) k.toNatClampNeg (vp_nar .byte v))
      rw [hb] at hc r f2
      refine ⟨_, ?_, r, f2⟩
      unfold sB
      simp only [hc]
      exact if_pos ⟨rfl, hi⟩
    · cases e) (fun _ => h2)
theorem sc_cp {t i t2 i2 : Nat} {k : Int32} {F : Unit → MM β} {f : Unit → CM α} (h2 : Sc am g (F ()) (f ())) : Sc am g (mb (cpy (some (aAr am t i)) (0 : Int32) (some (aAr am t2 i2)) (0 : Int32) k) F) (cb (cCp t i t2 i2 k) f) :=
  sc_cal (k := id) (fun S u S' e b1 b2 h hR => by
    unfold cCp at e
    split at e
    · rename_i hq
      obtain ⟨q1, q2, q3, q4, q5, q6, q7⟩ := hq
      cases e
      have c1 := hR.ar q1
      have c2 := hR.ar q2
      obtain ⟨r, f2⟩ := hR.putA q2 (va_cpy (za S t i) (za S t2 i2) 0 0 k.toNatClampNeg)
      refine ⟨_, ?_, r, f2⟩
      unfold cpy
      simp only [c1, c2]
      rw [if_pos]
      · rfl
      · refine ⟨?_, by decide, by decide, q4, by show 0 + _ ≤ _; omega, by show 0 + _ ≤ _; omega⟩
        rw [← q3]
        by_cases hb : by2 t = true
        · rw [if_pos hb]
          refine Or.inr (Or.inl ⟨rfl, rfl, fun j hj => ?_⟩)
          show (za S t i (0 + j)).toInt8.toInt32 = za S t i (0 + j)
          rw [Nat.zero_add]
          exact q7 hb j hj
        · rw [if_neg hb]
          exact Or.inl ⟨rfl, rfl⟩
    · cases e) (fun _ => h2)
theorem sc_aNB {F : Int32 → MM β} (h2 : Sc am g (F (8 : Int32)) n) : Sc am g (mb (aN (some (am.1 + 44))) F) n := fun S v S' e b1 b2 h hR => by
  obtain ⟨h', e1, r1, f1⟩ := h2 S v S' e b1 b2 h hR
  refine ⟨h', ?_, r1, f1⟩
  have hc : ce h (am.1 + 44) = cel am S (11, 0) := hR.at (q := (11, 0)) rfl
  unfold mb
  have e3 : aN (some (am.1 + 44)) h = some (8, h) := by
    unfold aN
    simp only [hc]
    rfl
  rw [e3]
  exact e1
theorem sc_aNC {F : Int32 → MM β} (h2 : Sc am g (F (16 : Int32)) n) : Sc am g (mb (aN (some (am.1 + 45))) F) n := fun S v S' e b1 b2 h hR => by
  obtain ⟨h', e1, r1, f1⟩ := h2 S v S' e b1 b2 h hR
  refine ⟨h', ?_, r1, f1⟩
  have hc : ce h (am.1 + 45) = cel am S (12, 0) := hR.at (q := (12, 0)) rfl
  unfold mb
  have e3 : aN (some (am.1 + 45)) h = some (16, h) := by
    unfold aN
    simp only [hc]
    rfl
  rw [e3]
  exact e1
theorem sc_aRB {k : Int32} {F : Option Nat → MM β} {f : Option Nat → CM α} (h2 : ∀ v : Option Nat, Sc am g (F (v.map (aBo am))) (f v)) : Sc am g (mb (aR (some (am.1 + 44)) k) F) (cb (cBk k) f) :=
  sc_rd (k := fun v : Option Nat => v.map (aBo am)) (fun S v S' e => by
    unfold cBk at e
    split at e
    · rename_i hi
      cases e
      refine ⟨rfl, fun b1 b2 h hR => ?_⟩
      have hc : ce h (am.1 + 44) = cel am S (11, 0) := hR.at (q := (11, 0)) rfl
      have hc : ce h (am.1 + 44) = .inl (3, 8, .inr (.inr (.inr (.inr (fun i => (zb S i).map (aBo am)))))) := hc
      unfold aR
      simp only [hc]
      exact if_pos ⟨Or.inl trivial, hi⟩
    · cases e) h2
theorem sc_aRC {k : Int32} {F : Option Nat → MM β} {f : Option Nat → CM α} (h2 : ∀ v : Option Nat, Sc am g (F (v.map (aCo am))) (f v)) : Sc am g (mb (aR (some (am.1 + 45)) k) F) (cb (cCk k) f) :=
  sc_rd (k := fun v : Option Nat => v.map (aCo am)) (fun S v S' e => by
    unfold cCk at e
    split at e
    · rename_i hi
      cases e
      refine ⟨rfl, fun b1 b2 h hR => ?_⟩
      have hc : ce h (am.1 + 45) = cel am S (12, 0) := hR.at (q := (12, 0)) rfl
      have hc : ce h (am.1 + 45) = .inl (4, 16, .inr (.inr (.inr (.inr (fun i => (zd S i).map (aCo am)))))) := hc
      unfold aR
      simp only [hc]
      exact if_pos ⟨Or.inr trivial, hi⟩
    · cases e) h2
theorem sc_kR {i : Nat} {F : Option Nat → MM β} (hi : Nat.ble (i + 1) 19 = true) (h2 : Sc am g (F (some (aSt am i))) n) : Sc am g (mb (kR i) F) n := fun S v S' e b1 b2 h hR => by
  obtain ⟨h', e1, r1, f1⟩ := h2 S v S' e b1 b2 h hR
  refine ⟨h', ?_, r1, f1⟩
  obtain ⟨own, v, cap, gr, fb, -, -, -, -, -, -, -, -, -, -, -, hk, -⟩ := hR
  unfold mb kR
  rw [hk i (Nat.le_of_ble_eq_true hi)]
  exact e1
theorem sc_dI {a b : Int32} {F : Int32 → MM β} {f : Int32 → CM α} (h2 : ∀ v, Sc am g (F v) (f v)) : Sc am g (mb (dI a b) F) (cb (cdI a b) f) :=
  sc_rd (k := id) (fun S v S' e => by
    unfold cdI at e
    split at e
    · cases e
    · rename_i hb
      cases e
      exact ⟨rfl, fun b1 b2 h hR => by unfold dI; rw [if_neg hb]; rfl⟩) h2
theorem sc_rI {a b : Int32} {F : Int32 → MM β} {f : Int32 → CM α} (h2 : ∀ v, Sc am g (F v) (f v)) : Sc am g (mb (rI a b) F) (cb (crI a b) f) :=
  sc_rd (k := id) (fun S v S' e => by
    unfold crI at e
    split at e
    · cases e
    · rename_i hb
      cases e
      exact ⟨rfl, fun b1 b2 h hR => by unfold rI; rw [if_neg hb]; rfl⟩) h2
theorem sc_nz {a : Int32} {F : Int32 → MM β} {f : Int32 → CM α} (h2 : ∀ v, Sc am g (F v) (f v)) : Sc am g (mb (nzI a) F) (cb (cnz a) f) :=
  sc_rd (k := id) (fun S v S' e => by
    unfold cnz at e
    split at e
    · rename_i hb
      cases e
      exact ⟨rfl, fun b1 b2 h hR => by unfold nzI; rw [if_pos hb]; rfl⟩
    · cases e) h2
theorem RC.str {b1 b2 : Nat} {S : CS} {h : AH} (hR : RC am b1 b2 S h) {i : Nat} (hi : i < zT S) : Str h (aSt am i) (zt S i) := by
  obtain ⟨own, v, cap, gr, fb, -, -, -, -, -, -, -, hst, -⟩ := hR
  obtain ⟨c, w, j0, s1, s2, s8, s9, s3, s4, s5, cc, t, f, rest, u1, u2, u3, u4, u5, u6⟩ := hst i hi
  exact ⟨cc, w, t, f, rest, u1, u2, u3, u4, u5, u6⟩
def cSl (i : Nat) : CM Int32 := fun S => if i < zT S then some (nI (zt S i).length, S) else none
def cSc (i : Nat) (k : Int32) : CM Int32 := fun S => if i < zT S ∧ inb k (zt S i).length then some (nI ((zt S i).getD k.toNatClampNeg 0), S) else none
def cSi (i : Nat) (c : Int32) : CM Int32 := fun S => if i < zT S ∧ (zt S i).length < 1000 ∧ inb c 256 then some (idxA (zt S i) c.toNatClampNeg, S) else none
theorem sc_cSl {i : Nat} {F : Int32 → MM β} {f : Int32 → CM α} (h2 : ∀ v, Sc am g (F v) (f v)) : Sc am g (mb (wc 0 (some (aSt am i)) fun t => J0_length_8abf5 t) F) (cb (cSl i) f) :=
  sc_rd (k := id) (fun S v S' e => by
    unfold cSl at e
    split at e
    · rename_i hi
      cases e
      refine ⟨rfl, fun b1 b2 h hR => ?_⟩
      have hs := hR.str hi
      rw [wc_str hs]
      exact str_length hs
    · cases e) h2
theorem sc_cSc {i : Nat} {k : Int32} {F : Int32 → MM β} {f : Int32 → CM α} (h2 : ∀ v, Sc am g (F v) (f v)) : Sc am g (mb (wc 0 (some (aSt am i)) fun t => J0_charAt_5068e t k) F) (cb (cSc i k) f) :=
  sc_rd (k := id) (fun S v S' e => by
    unfold cSc at e
    split at e
    · rename_i hi
      obtain ⟨hi, hk⟩ := hi
      obtain ⟨j, hj, rfl⟩ := inb_of hk
      cases e
      refine ⟨rfl, fun b1 b2 h hR => ?_⟩
      have hs := hR.str hi
      have hl : (zt S i).length < 2 ^ 30 := by
        obtain ⟨_, _, _, _, _, _, _, _, _, _, q⟩ := hs
        exact q
      rw [nI_clamp (by omega), wc_str hs]
      exact str_charAt hs hj
    · cases e) h2
theorem sc_cSi {i : Nat} {k : Int32} {F : Int32 → MM β} {f : Int32 → CM α} (h2 : ∀ v, Sc am g (F v) (f v)) : Sc am g (mb (wc 0 (some (aSt am i)) fun t => J0_indexOf_0f7a4 t k) F) (cb (cSi i k) f) :=
  sc_rd (k := id) (fun S v S' e => by
    unfold cSi at e
    split at e
    · rename_i hi
      obtain ⟨hi, hl, hk⟩ := hi
      obtain ⟨j, hj, rfl⟩ := inb_of hk
      cases e
      refine ⟨rfl, fun b1 b2 h hR => ?_⟩
      have hs := hR.str hi
      rw [nI_clamp (by omega), wc_str hs]
      exact str_indexOf hs hl hj
    · cases e) h2
end SCR
