/-! ===== the class's numbers, rows and texts by themselves: its objects by names, each cell by a key ===== -/
/-- where the objects lie: the first, rows, plans, books, the books' own rows, copies, texts -/
abbrev AM : Type := Nat × (Nat → Nat) × (Nat → Nat) × (Nat → Nat) × (Nat → Nat) × (Nat → Nat) × (Nat → Nat)
def aRo (am : AM) : Nat → Nat := am.2.1
def aPl (am : AM) : Nat → Nat := am.2.2.1
def aBo (am : AM) : Nat → Nat := am.2.2.2.1
def aLe (am : AM) : Nat → Nat := am.2.2.2.2.1
def aCo (am : AM) : Nat → Nat := am.2.2.2.2.2.1
def aSt (am : AM) : Nat → Nat := am.2.2.2.2.2.2
/-- numbers; rows of them; how long the rows are; which plans, how many books, copies, texts there are; what the books', copies' rows hold; texts, the text that is written; a book's text, a copy's book, a copy's text -/
abbrev CS : Type := (Nat → Nat → Int32) × (Nat → Nat → Nat → Int32) × (Nat → Nat) × (Nat → Bool) × (Nat × Nat × Nat) × ((Nat → Option Nat) × (Nat → Option Nat)) × (Nat → List Nat) × List Nat × ((Nat → Nat) × (Nat → Nat) × (Nat → Nat))
def zs (S : CS) : Nat → Nat → Int32 := S.1
def za (S : CS) : Nat → Nat → Nat → Int32 := S.2.1
def zc (S : CS) : Nat → Nat := S.2.2.1
def zp (S : CS) : Nat → Bool := S.2.2.2.1
def zB (S : CS) : Nat := S.2.2.2.2.1.1
def zC (S : CS) : Nat := S.2.2.2.2.1.2.1
def zT (S : CS) : Nat := S.2.2.2.2.1.2.2
def zb (S : CS) : Nat → Option Nat := S.2.2.2.2.2.1.1
def zd (S : CS) : Nat → Option Nat := S.2.2.2.2.2.1.2
def zt (S : CS) : Nat → List Nat := S.2.2.2.2.2.2.1
def zx (S : CS) : List Nat := S.2.2.2.2.2.2.2.1
def zw (S : CS) : Nat → Nat := S.2.2.2.2.2.2.2.2.1
def zr (S : CS) : Nat → Nat := S.2.2.2.2.2.2.2.2.2.1
def zn (S : CS) : Nat → Nat := S.2.2.2.2.2.2.2.2.2.2
def us1 (S : CS) (t i : Nat) (v : Int32) : CS := (fun a b => if a = t ∧ b = i then v else zs S a b, S.2)
def us2 (S : CS) (t i k : Nat) (v : Int32) : CS := (S.1, (fun a b => if a = t ∧ b = i then upd (za S t i) k v else za S a b), S.2.2)
/-- how long a row of a kind is -/
def zl (S : CS) (t i : Nat) : Nat := if t = 1 then zc S i else if t = 2 then 120 else if t = 3 then 71 else if t = 4 then 71 else if t = 5 then 852 else if t = 6 then 852 else if t = 7 then 852 else 400
def ex1 (S : CS) (t i : Nat) : Bool := if t = 1 then decide (0 < zc S i) else if t = 6 ∨ t = 7 then zp S i else if t = 12 then decide (i < zC S) else decide (2 ≤ t ∧ t < 12 ∧ i = 0)
def ex2 (S : CS) (t i : Nat) : Bool := if t = 1 then decide (0 < zc S i) else if t = 3 ∨ t = 4 ∨ t = 5 ∨ t = 6 then zp S i else if t = 7 then decide (i < zB S) else decide (2 ≤ t ∧ t < 11 ∧ i = 0)
def by2 (t : Nat) : Bool := t == 2 || t == 5 || t == 6
/-- the cells by their keys -/
def nm (am : AM) (S : CS) (q : Nat × Nat) : Option (Nat × va_E) :=
  let x := am.1
  match q.1 with
  | 1 => if 0 < zc S q.2 then some (aRo am q.2, .inr (9, [.ref (aRo am q.2 + 1), .int (zs S 1 q.2)])) else none
  | 2 => if 0 < zc S q.2 then some (aRo am q.2 + 1, .inl (0, zc S q.2, .inl (za S 1 q.2))) else none
  | 3 => if zp S q.2 = true then some (aPl am q.2, .inr (7, [.ref (aPl am q.2 + 1), .ref (aPl am q.2 + 2), .ref (aPl am q.2 + 3), .ref (aPl am q.2 + 4), .int (zs S 6 q.2), .int (zs S 7 q.2)])) else none
  | 4 => if zp S q.2 = true then some (aPl am q.2 + 1, .inl (0, 71, .inl (za S 3 q.2))) else none
  | 5 => if zp S q.2 = true then some (aPl am q.2 + 2, .inl (0, 71, .inl (za S 4 q.2))) else none
  | 6 => if zp S q.2 = true then some (aPl am q.2 + 3, .inl (1, 852, .inl (za S 5 q.2))) else none
  | 7 => if zp S q.2 = true then some (aPl am q.2 + 4, .inl (1, 852, .inl (za S 6 q.2))) else none
  | 8 => if q.2 < zB S then some (aBo am q.2, .inr (2, [.ref (aPl am (q.2 + 1)), .ref (aLe am q.2), .ref (aRo am (100 + 4 * q.2)), .ref (aRo am (101 + 4 * q.2)), .ref (aRo am (102 + 4 * q.2)), .ref (aRo am (103 + 4 * q.2)), .ref (aSt am (zw S q.2))])) else none
  | 9 => if q.2 < zB S then some (aLe am q.2, .inl (0, 852, .inl (za S 7 q.2))) else none
  | 10 => if q.2 < zC S then some (aCo am q.2, .inr (4, [.int (zs S 12 q.2), .ref (aBo am (zr S q.2)), .ref (aRo am (200 + 5 * q.2)), .ref (aRo am (201 + 5 * q.2)), .ref (aRo am (202 + 5 * q.2)), .ref (aRo am (203 + 5 * q.2)), .ref (aRo am (204 + 5 * q.2)), .ref (aSt am (zn S q.2))])) else none
  | 11 => some (x, .inr (12, [.ref (x + 1), .ref (x + 9), .ref (x + 30), .ref (x + 35), .ref (x + 37), .ref (x + 41), .ref (x + 44), .ref (x + 45), .int (zs S 8 0), .int (zs S 9 0), .int (zs S 10 0), .int (zs S 11 0)]))
  | 12 => some (x + 1, .inr (11, [.ref (x + 2), .ref (x + 3), .ref (x + 5), .ref (x + 7), .int (zs S 2 0)]))
  | 13 => some (x + 2, .inl (1, 120, .inl (za S 2 0)))
  | 14 => some (x + 9, .inr (8, [.ref (x + 1), .ref (x + 10), .ref (x + 21), .int (zs S 3 0), .int (zs S 4 0), .int (zs S 5 0)]))
  | 15 => some (x + 10, .inr (5, [.ref (x + 11), .ref (x + 13), .ref (x + 15), .ref (x + 17), .ref (x + 19)]))
  | 16 => some (x + 21, .inr (6, [.ref (x + 22), .ref (x + 24), .ref (x + 26), .ref (x + 28)]))
  | 17 => some (x + 37, .inr (3, [.ref (x + 38), .ref (x + 39), .ref (x + 40)]))
  | 18 => some (x + 38, .inl (0, 400, .inl (za S 8 0)))
  | 19 => some (x + 39, .inl (0, 400, .inl (za S 9 0)))
  | 20 => some (x + 40, .inl (0, 400, .inl (za S 10 0)))
  | 21 => some (x + 41, .inr (10, [.ref (x + 42)]))
  | 22 => some (x + 44, .inl (3, 8, .inr (.inr (.inr (.inr (fun i => (zb S i).map (aBo am)))))))
  | 23 => some (x + 45, .inl (4, 16, .inr (.inr (.inr (.inr (fun i => (zd S i).map (aCo am)))))))
  | _ => none
/-- where the rows and the plan of the first object lie; the ids of its rows: 0 kinds, 1 starts, 2 values, 3 first, 4 last, 5 odd, 6 even, 7 changesEnd, 8 mark, 9 sign, 10 number, 11 inserted, 12 row -/
def am0 (am : AM) : Prop := aRo am 0 = am.1 + 3 ∧ aRo am 1 = am.1 + 5 ∧ aRo am 2 = am.1 + 7 ∧ aRo am 3 = am.1 + 11 ∧ aRo am 4 = am.1 + 13 ∧ aRo am 5 = am.1 + 15 ∧ aRo am 6 = am.1 + 17 ∧ aRo am 7 = am.1 + 19 ∧ aRo am 8 = am.1 + 22 ∧ aRo am 9 = am.1 + 24 ∧ aRo am 10 = am.1 + 26 ∧ aRo am 11 = am.1 + 28 ∧ aRo am 12 = am.1 + 35 ∧ aPl am 0 = am.1 + 30
/-- the text that is written: its object, its row of bytes; what room it has taken so far -/
def RTx (am : AM) (l : List Nat) (v cap gr : Nat) (fb : Nat → Int32) (h : AH) : Prop :=
  ∃ z : Int32, ce h (am.1 + 42) = .inr (1, [.ref v, .int 0, .int z, .int (nI l.length)]) ∧ (z = 0 ∨ z = 1) ∧ ce h v = .inl (1, cap, .inl fb) ∧ l.length ≤ cap ∧ (∀ j, fb j = (fb j).toInt8.toInt32) ∧ (∀ j, j < l.length → l.getD j 0 < 256 ∧ fb j = sb_b (l.getD j 0)) ∧ l.length ≤ 16384 ∧ cap ≤ 40000 ∧ 16 * 2 ^ gr ≤ cap
/-- the room: b1 cells, b2 slots, without the written text's rows -/
def RC (am : AM) (b1 b2 : Nat) (S : CS) (h : AH) : Prop := am0 am ∧ ∃ (own : Nat → Nat × Nat) (v cap gr : Nat) (fb : Nat → Int32),
  (∀ q a e, nm am S q = some (a, e) → ce h a = e ∧ own a = q ∧ a < h.1 ∧ (a < am.1 + 46 ∨ am.1 + 79 ≤ a) ∧ am.1 ≤ a) ∧
  RTx am (zx S) v cap gr fb h ∧ own (am.1 + 42) = (24, 0) ∧ own v = (25, 0) ∧ v < h.1 ∧ (v < am.1 + 46 ∨ am.1 + 79 ≤ v) ∧ am.1 ≤ v ∧
  (∀ i, i < zT S → ∃ c w, own (aSt am i) = (c, i) ∧ own w = (c + 1, i) ∧ (c = 26 ∨ c = 28) ∧ aSt am i < h.1 ∧ w < h.1 ∧ (∃ (cc t : Nat) (f : Nat → Int32) (rest : List Value), ce h (aSt am i) = .inr (cc, .ref w :: .int 0 :: rest) ∧ okc 0 cc = true ∧ ce h w = .inl (t, (zt S i).length, .inl f) ∧ (t = 1 ∨ t = 11) ∧ (∀ j, j < (zt S i).length → (zt S i).getD j 0 < 256 ∧ f j = sb_b ((zt S i).getD j 0)) ∧ (zt S i).length < 2 ^ 30)) ∧
  h.1 ≤ b1 + gr ∧ h.2.1 ≤ b2 + 2 * cap ∧ am.1 + 79 ≤ h.1 ∧ (∀ i, i < 19 → h.2.2.2 i = some (aSt am i)) ∧ 19 ≤ zT S
/-- what else there is stays -/
def FrC (am : AM) (h h' : AH) : Prop := h.1 ≤ h'.1 ∧ h'.2.2.2 = h.2.2.2 ∧ ∀ a, (a < am.1 ∨ (am.1 + 46 ≤ a ∧ a < am.1 + 79)) → ce h' a = ce h a
theorem FrC.refl {am : AM} {h : AH} : FrC am h h := ⟨Nat.le_refl _, rfl, fun _ _ => rfl⟩
theorem FrC.trans {am : AM} {h h1 h2 : AH} (a : FrC am h h1) (b : FrC am h1 h2) : FrC am h h2 := ⟨Nat.le_trans a.1 b.1, b.2.1.trans a.2.1, fun q hq => (b.2.2 q hq).trans (a.2.2 q hq)⟩
abbrev CM (α : Type) : Type := CS → Option (α × CS)
def cr {α : Type} (a : α) : CM α := fun S => some (a, S)
def cf {α : Type} : CM α := fun _ => none
def cb {α β : Type} (x : CM α) (f : α → CM β) : CM β := fun S => match x S with
  | none => none
  | some q => f q.1 q.2
def con {α : Type} (r : Option Nat) (A : CM α) (B : Nat → CM α) : CM α := match r with
  | none => A
  | some b => B b
def cG (t i : Nat) : CM Int32 := fun S => if ex1 S t i = true then some (zs S t i, S) else none
def cP (t i : Nat) (v : Int32) : CM Unit := fun S => if ex1 S t i = true then some ((), us1 S t i v) else none
def cA (t i : Nat) (k : Int32) : CM Int32 := fun S => if ex2 S t i = true ∧ inb k (zl S t i) then some (za S t i k.toNatClampNeg, S) else none
def cS (t i : Nat) (k v : Int32) : CM Unit := fun S => if ex2 S t i = true ∧ by2 t = false ∧ inb k (zl S t i) then some ((), us2 S t i k.toNatClampNeg v) else none
def cSb (t i : Nat) (k v : Int32) : CM Unit := fun S => if ex2 S t i = true ∧ by2 t = true ∧ inb k (zl S t i) then some ((), us2 S t i k.toNatClampNeg (vp_nar .byte v)) else none
def cN (t i : Nat) : CM Int32 := fun S => if ex2 S t i = true then some (nI (zl S t i), S) else none
def cBk (k : Int32) : CM (Option Nat) := fun S => if inb k 8 then some (zb S k.toNatClampNeg, S) else none
def cCk (k : Int32) : CM (Option Nat) := fun S => if inb k 16 then some (zd S k.toNatClampNeg, S) else none
/-- x on the heap does what c does on the state; what comes back is told by g -/
def Sc {α β : Type} (am : AM) (g : α → β) (x : MM β) (c : CM α) : Prop := ∀ (S : CS) (v : α) (S' : CS), c S = some (v, S') → ∀ (b1 b2 : Nat) (h : AH), RC am b1 b2 S h → ∃ h', x h = some (g v, h') ∧ RC am b1 b2 S' h' ∧ FrC am h h'
section SCC
variable {α β γ δ : Type} {am : AM} {x : MM β} {n : CM α} {g : α → β}
theorem sc_mf : Sc am g x cf := fun S v S' e => by cases e
theorem sc_ret {a : α} : Sc am g (mr (g a)) (cr a) := fun S v S' e b1 b2 h hR => by
  cases e
  exact ⟨h, rfl, hR, FrC.refl⟩
theorem sc_ite {c : Prop} {d : Decidable c} {A B : MM β} {a b : CM α} (h1 : Sc am g A a) (h2 : Sc am g B b) : Sc am g (@ite _ c d A B) (@ite _ c d a b) := by
  by_cases h : c
  · rw [if_pos h, if_pos h]; exact h1
  · rw [if_neg h, if_neg h]; exact h2
theorem sc_cal {y : MM δ} {z : CM γ} {k : γ → δ} {F : δ → MM β} {f : γ → CM α} (h1 : Sc am k y z) (h2 : ∀ v, Sc am g (F (k v)) (f v)) : Sc am g (mb y F) (cb z f) := fun S v S' e b1 b2 h hR => by
  unfold cb at e
  cases hz : z S with
  | none => rw [hz] at e; cases e
  | some q =>
    rw [hz] at e
    obtain ⟨h1', e1, r1, f1⟩ := h1 S q.1 q.2 hz b1 b2 h hR
    obtain ⟨h2', e2, r2, f2⟩ := h2 q.1 q.2 v S' e b1 b2 h1' r1
    refine ⟨h2', ?_, r2, f1.trans f2⟩
    unfold mb
    rw [e1]
    exact e2
theorem sc_rd {y : MM δ} {z : CM γ} {k : γ → δ} {F : δ → MM β} {f : γ → CM α} (h1 : ∀ S v S', z S = some (v, S') → S' = S ∧ ∀ b1 b2 h, RC am b1 b2 S h → y h = some (k v, h)) (h2 : ∀ v, Sc am g (F (k v)) (f v)) : Sc am g (mb y F) (cb z f) :=
  sc_cal (k := k) (fun S v S' e b1 b2 h hR => by
    obtain ⟨rfl, q⟩ := h1 S v S' e
    exact ⟨h, q b1 b2 h hR, hR, FrC.refl⟩) h2
theorem sc_con {r : Option Nat} {kk : Nat → Nat} {A B : MM β} {a : CM α} {b : Nat → CM α} (h1 : r = none → Sc am g A a) (h2 : ∀ i, r = some i → Sc am g B (b i)) : Sc am g (if r.map kk = none then A else B) (con r a b) := by
  cases r with
  | none => rw [if_pos rfl]; exact h1 rfl
  | some i => rw [if_neg (by intro q; cases q)]; exact h2 i rfl
/-- a cell by its key -/
theorem RC.at {b1 b2 : Nat} {S : CS} {h : AH} (hR : RC am b1 b2 S h) {q : Nat × Nat} {a : Nat} {e : va_E} (hq : nm am S q = some (a, e)) : ce h a = e := by
  obtain ⟨_, own, v, cap, gr, fb, h1, -⟩ := hR
  exact (h1 q a e hq).1
/-- one cell is written -/
theorem RC.put {b1 b2 : Nat} {S S' : CS} {h : AH} (hR : RC am b1 b2 S h) {q : Nat × Nat} {a : Nat} {e e' : va_E} (hq : nm am S q = some (a, e)) (hq' : nm am S' q = some (a, e')) (ho : ∀ k, k ≠ q → nm am S' k = nm am S k) (hx : q.1 < 24) (ht : zx S' = zx S ∧ zT S' = zT S ∧ zt S' = zt S) : RC am b1 b2 S' (hs h a e') ∧ FrC am h (hs h a e') := by
  obtain ⟨h0, own, v, cap, gr, fb, h1, ⟨z, t1, t2, t3, t4⟩, o1, o2, v1, v2, v3, hst, r1, r2, r3, r4, r5⟩ := hR
  obtain ⟨c1, c2, c3, c4, c5⟩ := h1 q a e hq
  have na : ∀ b k, own b = k → k ≠ q → b ≠ a := fun b k hb hk e => hk (by rw [← hb, e, c2])
  have nx : ∀ k : Nat × Nat, 24 ≤ k.1 → k ≠ q := fun k hk e => by rw [e] at hk; omega
  refine ⟨⟨h0, own, v, cap, gr, fb, fun k b e2 hk => ?_, ⟨z, ?_, t2, ?_, ?_⟩, o1, o2, v1, v2, v3, ?_, r1, r2, r3, r4, ?_⟩, Nat.le_refl _, rfl, fun b hb => ?_⟩
  · by_cases hkq : k = q
    · subst hkq
      rw [hq'] at hk
      cases hk
      exact ⟨by rw [ce_hs, if_pos rfl], c2, c3, c4, c5⟩
    · rw [ho k hkq] at hk
      obtain ⟨d1, d2, d3, d4, d5⟩ := h1 k b e2 hk
      exact ⟨by rw [ce_hs, if_neg (na b k d2 hkq)]; exact d1, d2, d3, d4, d5⟩
  · rw [ce_hs, if_neg (na _ _ o1 (nx _ (by decide))), ht.1]; exact t1
  · rw [ce_hs, if_neg (na _ _ o2 (nx _ (by decide)))]; exact t3
  · rw [ht.1]; exact t4
  · intro i hi
    rw [ht.2.1] at hi
    obtain ⟨c, w, s1, s2, s3, s4, s5, cc, t, f, rest, u1, u2, u3, u4⟩ := hst i hi
    have n1 : aSt am i ≠ a := na _ _ s1 (nx _ (by rcases s3 with e | e <;> (subst e; decide)))
    have n2 : w ≠ a := na _ _ s2 (nx _ (by rcases s3 with e | e <;> (subst e; decide)))
    rw [ht.2.2]
    exact ⟨c, w, s1, s2, s3, s4, s5, cc, t, f, rest, by rw [ce_hs, if_neg n1]; exact u1, u2, by rw [ce_hs, if_neg n2]; exact u3, u4⟩
  · rw [ht.2.1]; exact r5
  · rw [ce_hs, if_neg (by omega)]
end SCC
