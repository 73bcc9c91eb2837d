/-! ===== the class's numbers, rows and texts by themselves: its objects by names, each cell by a key ===== -/
/-- where the objects lie: the first, rows, plans, books, the books' own rows, copies, texts -/
abbrev AM : Type := Nat × (Nat → Nat) × (Nat → Nat) × (Nat → Nat) × (Nat → Nat) × (Nat → Nat) × (Nat → Nat) × (Nat → Option va_E)
def aRo (am : AM) : Nat → Nat := am.2.1
def aPl (am : AM) : Nat → Nat := am.2.2.1
def aBo (am : AM) : Nat → Nat := am.2.2.2.1
def aLe (am : AM) : Nat → Nat := am.2.2.2.2.1
def aCo (am : AM) : Nat → Nat := am.2.2.2.2.2.1
def aSt (am : AM) : Nat → Nat := am.2.2.2.2.2.2.1
/-- cells that are kept aside -/
def aSp (am : AM) : Nat → Option va_E := am.2.2.2.2.2.2.2
/-- numbers; rows of them; how long the rows are; which plans, how many books, copies, texts there are; what the books', copies' rows hold; texts, the text that is written; a book's text, a copy's book, a copy's text -/
abbrev CS : Type := (Nat → Nat → Int32) × (Nat → Nat → Nat → Int32) × (Nat → Nat) × (Nat → Bool) × (Nat × Nat × Nat) × ((Nat → Option Nat) × (Nat → Option Nat)) × (Nat → List Nat) × List Nat × ((Nat → Nat) × (Nat → Nat) × (Nat → Nat))
def zs (S : CS) : Nat → Nat → Int32 := S.1
def za (S : CS) : Nat → Nat → Nat → Int32 := S.2.1
def zc (S : CS) : Nat → Nat := S.2.2.1
def zp (S : CS) : Nat → Bool := S.2.2.2.1
def zB (S : CS) : Nat := S.2.2.2.2.1.1
def zC (S : CS) : Nat := S.2.2.2.2.1.2.1
def zT (S : CS) : Nat := S.2.2.2.2.1.2.2
def zb (S : CS) : Nat → Option Nat := S.2.2.2.2.2.1.1
def zd (S : CS) : Nat → Option Nat := S.2.2.2.2.2.1.2
def zt (S : CS) : Nat → List Nat := S.2.2.2.2.2.2.1
def zx (S : CS) : List Nat := S.2.2.2.2.2.2.2.1
def zw (S : CS) : Nat → Nat := S.2.2.2.2.2.2.2.2.1
def zr (S : CS) : Nat → Nat := S.2.2.2.2.2.2.2.2.2.1
def zn (S : CS) : Nat → Nat := S.2.2.2.2.2.2.2.2.2.2
def us1 (S : CS) (t i : Nat) (v : Int32) : CS := (fun a b => if a = t ∧ b = i then v else zs S a b, S.2)
def us2 (S : CS) (t i k : Nat) (v : Int32) : CS := (S.1, (fun a b => if a = t ∧ b = i then upd (za S t i) k v else za S a b), S.2.2)
/-- how long a row of a kind is -/
def zl (S : CS) (t i : Nat) : Nat := if t = 1 then zc S i else if t = 2 then 120 else if t = 3 then 71 else if t = 4 then 71 else if t = 5 then 852 else if t = 6 then 852 else if t = 7 then 852 else 400
def by2 (t : Nat) : Bool := t == 2 || t == 5 || t == 6
/-- where a row of numbers lies; where each cell lies by its key -/
def aAr (am : AM) (t i : Nat) : Nat := if t = 1 then aRo am i + 1 else if t = 2 then am.1 + 2 else if t = 3 then aPl am i + 1 else if t = 4 then aPl am i + 2 else if t = 5 then aPl am i + 3 else if t = 6 then aPl am i + 4 else if t = 7 then aLe am i else if t = 8 then am.1 + 38 else if t = 9 then am.1 + 39 else am.1 + 40
def adr (am : AM) (q : Nat × Nat) : Nat := if q.1 = 1 then aRo am q.2 else if q.1 = 2 then aPl am q.2 else if q.1 = 3 then aBo am q.2 else if q.1 = 4 then aCo am q.2 else if q.1 = 5 then am.1 else if q.1 = 6 then am.1 + 1 else if q.1 = 7 then am.1 + 9 else if q.1 = 8 then am.1 + 10 else if q.1 = 9 then am.1 + 21 else if q.1 = 10 then am.1 + 37 else if q.1 = 11 then am.1 + 44 else if q.1 = 12 then am.1 + 45 else if q.1 = 13 then am.1 + 41 else aAr am (q.1 - 20) q.2
/-- whether there is such a cell -/
def kx (S : CS) (q : Nat × Nat) : Bool := if q.1 = 1 ∨ q.1 = 21 then decide (0 < zc S q.2) else if q.1 = 2 ∨ q.1 = 23 ∨ q.1 = 24 ∨ q.1 = 25 ∨ q.1 = 26 then zp S q.2 else if q.1 = 3 ∨ q.1 = 27 then decide (q.2 < zB S) else if q.1 = 4 then decide (q.2 < zC S) else if (5 ≤ q.1 ∧ q.1 ≤ 13) ∨ q.1 = 22 ∨ q.1 = 28 ∨ q.1 = 29 ∨ q.1 = 30 then decide (q.2 = 0) else false
/-- what a cell holds -/
def cel (am : AM) (S : CS) (q : Nat × Nat) : va_E :=
  if 14 ≤ q.1 then .inl (if by2 (q.1 - 20) = true then 1 else 0, zl S (q.1 - 20) q.2, .inl (za S (q.1 - 20) q.2))
  else if q.1 = 1 then .inr (9, [.ref (aAr am 1 q.2), .int (zs S 1 q.2)])
  else if q.1 = 2 then .inr (7, [.ref (aAr am 3 q.2), .ref (aAr am 4 q.2), .ref (aAr am 5 q.2), .ref (aAr am 6 q.2), .int (zs S 6 q.2), .int (zs S 7 q.2)])
  else if q.1 = 3 then .inr (2, [.ref (aPl am (q.2 + 1)), .ref (aAr am 7 q.2), .ref (aRo am (100 + 4 * q.2)), .ref (aRo am (101 + 4 * q.2)), .ref (aRo am (102 + 4 * q.2)), .ref (aRo am (103 + 4 * q.2)), .ref (aSt am (zw S q.2))])
  else if q.1 = 4 then .inr (4, [.int (zs S 12 q.2), .ref (aBo am (zr S q.2)), .ref (aRo am (200 + 5 * q.2)), .ref (aRo am (201 + 5 * q.2)), .ref (aRo am (202 + 5 * q.2)), .ref (aRo am (203 + 5 * q.2)), .ref (aRo am (204 + 5 * q.2)), .ref (aSt am (zn S q.2))])
  else if q.1 = 5 then .inr (12, [.ref (am.1 + 1), .ref (am.1 + 9), .ref (aPl am 0), .ref (aRo am 12), .ref (am.1 + 37), .ref (am.1 + 41), .ref (am.1 + 44), .ref (am.1 + 45), .int (zs S 8 q.2), .int (zs S 9 q.2), .int (zs S 10 q.2), .int (zs S 11 q.2)])
  else if q.1 = 6 then .inr (11, [.ref (aAr am 2 q.2), .ref (aRo am 0), .ref (aRo am 1), .ref (aRo am 2), .int (zs S 2 q.2)])
  else if q.1 = 7 then .inr (8, [.ref (am.1 + 1), .ref (am.1 + 10), .ref (am.1 + 21), .int (zs S 3 q.2), .int (zs S 4 q.2), .int (zs S 5 q.2)])
  else if q.1 = 8 then .inr (5, [.ref (aRo am 3), .ref (aRo am 4), .ref (aRo am 5), .ref (aRo am 6), .ref (aRo am 7)])
  else if q.1 = 9 then .inr (6, [.ref (aRo am 8), .ref (aRo am 9), .ref (aRo am 10), .ref (aRo am 11)])
  else if q.1 = 10 then .inr (3, [.ref (aAr am 8 q.2), .ref (aAr am 9 q.2), .ref (aAr am 10 q.2)])
  else if q.1 = 11 then .inl (3, 8, .inr (.inr (.inr (.inr (fun i => (zb S i).map (aBo am))))))
  else if q.1 = 12 then .inl (4, 16, .inr (.inr (.inr (.inr (fun i => (zd S i).map (aCo am))))))
  else .inr (10, [.ref (am.1 + 42)])
/-- the cell of a number -/
def kyS (t i : Nat) : Nat × Nat := if t = 1 then (1, i) else if t = 2 then (6, i) else if t = 3 ∨ t = 4 ∨ t = 5 then (7, i) else if t = 6 ∨ t = 7 then (2, i) else if t = 8 ∨ t = 9 ∨ t = 10 ∨ t = 11 then (5, i) else (4, i)
/-- the text that is written: its object, its row of bytes; what room it has taken so far -/
def RTx (am : AM) (l : List Nat) (v cap gr : Nat) (fb : Nat → Int32) (h : AH) : Prop :=
  ∃ z : Int32, ce h (am.1 + 42) = .inr (1, [.ref v, .int 0, .int z, .int (nI l.length)]) ∧ (z = 0 ∨ z = 1) ∧ ce h v = .inl (1, cap, .inl fb) ∧ l.length ≤ cap ∧ (∀ j, fb j = (fb j).toInt8.toInt32) ∧ (∀ j, j < l.length → l.getD j 0 < 256 ∧ fb j = sb_b (l.getD j 0)) ∧ l.length ≤ 16384 ∧ cap ≤ 40000 ∧ 16 * 2 ^ gr ≤ cap
/-- the tables of digits -/
def DGs (am : AM) (h : AH) : Prop := ∃ (d1 d2 t1 t2 : Nat) (f1 f2 : Nat → Int32), h.2.2.2 20 = some d1 ∧ h.2.2.2 21 = some d2 ∧ d1 < am.1 ∧ d2 < am.1 ∧ ce h d1 = .inl (t1, 100, .inl f1) ∧ ce h d2 = .inl (t2, 100, .inl f2) ∧ (t1 = 1 ∨ t1 = 11) ∧ (t2 = 1 ∨ t2 = 11) ∧ ∀ j, j < 100 → f1 j = nI (48 + j % 10) ∧ f2 j = nI (48 + j / 10)
theorem DGs.fr {am : AM} {h h' : AH} (hd : DGs am h) (h1 : h'.2.2.2 = h.2.2.2) (h2 : ∀ a, a < am.1 → ce h' a = ce h a) : DGs am h' := by
  obtain ⟨d1, d2, t1, t2, f1, f2, e1, e2, l1, l2, c1, c2, r⟩ := hd
  exact ⟨d1, d2, t1, t2, f1, f2, by rw [h1]; exact e1, by rw [h1]; exact e2, l1, l2, by rw [h2 _ l1]; exact c1, by rw [h2 _ l2]; exact c2, r⟩
/-- what is named is there -/
def WF (S : CS) : Prop := (∀ b, b < zB S → zw S b < zT S) ∧ (∀ c, c < zC S → zn S c < zT S ∧ zr S c < zB S) ∧ (∀ i b, zb S i = some b → b < zB S) ∧ (∀ i c, zd S i = some c → c < zC S)
/-- the room: b1 cells, b2 slots, without the written text's rows -/
def RCb (am : AM) (b1 b2 : Nat) (S : CS) (h : AH) (own : Nat → Nat × Nat) (v cap gr : Nat) (fb : Nat → Int32) : Prop :=
  (∀ q, kx S q = true → ce h (adr am q) = cel am S q ∧ own (adr am q) = q ∧ adr am q < h.1 ∧ (adr am q < am.1 + 46 ∨ am.1 + 79 ≤ adr am q) ∧ am.1 ≤ adr am q) ∧
  RTx am (zx S) v cap gr fb h ∧ own (am.1 + 42) = (40, 0) ∧ own v = (41, 0) ∧ v < h.1 ∧ (v < am.1 + 46 ∨ am.1 + 79 ≤ v) ∧ am.1 ≤ v ∧
  (∀ i, i < zT S → ∃ c w j0, own (aSt am i) = (c, j0) ∧ own w = (c + 1, j0) ∧ j0 < zT S ∧ zt S j0 = zt S i ∧ (c = 50 ∨ c = 52) ∧ aSt am i < h.1 ∧ w < h.1 ∧ (∃ (cc t : Nat) (f : Nat → Int32) (rest : List Value), ce h (aSt am i) = .inr (cc, .ref w :: .int 0 :: rest) ∧ okc 0 cc = true ∧ ce h w = .inl (t, (zt S i).length, .inl f) ∧ (t = 1 ∨ t = 11) ∧ (∀ j, j < (zt S i).length → (zt S i).getD j 0 < 256 ∧ f j = sb_b ((zt S i).getD j 0)) ∧ (zt S i).length < 2 ^ 30)) ∧
  h.1 ≤ b1 + gr ∧ h.2.1 ≤ b2 + 2 * cap ∧ am.1 + 79 ≤ h.1 ∧ (∀ i, i < 19 → h.2.2.2 i = some (aSt am i)) ∧ 19 ≤ zT S ∧ DGs am h ∧ (∀ a e, aSp am a = some e → ce h a = e ∧ own a = (70, 0) ∧ a < h.1) ∧ WF S
def RC (am : AM) (b1 b2 : Nat) (S : CS) (h : AH) : Prop := ∃ (own : Nat → Nat × Nat) (v cap gr : Nat) (fb : Nat → Int32), RCb am b1 b2 S h own v cap gr fb
/-- what else there is stays -/
def FrC (am : AM) (h h' : AH) : Prop := h.1 ≤ h'.1 ∧ h'.2.2.2 = h.2.2.2 ∧ ∀ a, (a < am.1 ∨ (am.1 + 46 ≤ a ∧ a < am.1 + 79)) → ce h' a = ce h a
theorem FrC.refl {am : AM} {h : AH} : FrC am h h := ⟨Nat.le_refl _, rfl, fun _ _ => rfl⟩
theorem FrC.trans {am : AM} {h h1 h2 : AH} (a : FrC am h h1) (b : FrC am h1 h2) : FrC am h h2 := ⟨Nat.le_trans a.1 b.1, b.2.1.trans a.2.1, fun q hq => (b.2.2 q hq).trans (a.2.2 q hq)⟩
abbrev CM (α : Type) : Type := CS → Option (α × CS)
def cr {α : Type} (a : α) : CM α := fun S => some (a, S)
def cf {α : Type} : CM α := fun _ => none
def cb {α β : Type} (x : CM α) (f : α → CM β) : CM β := fun S => match x S with
  | none => none
  | some q => f q.1 q.2
def con {α : Type} (r : Option Nat) (A : CM α) (B : Nat → CM α) : CM α := match r with
  | none => A
  | some b => B b
def cE (q : Nat × Nat) : CM Unit := fun S => if kx S q = true then some ((), S) else none
def cG (t i : Nat) : CM Int32 := fun S => if kx S (kyS t i) = true then some (zs S t i, S) else none
def cP (t i : Nat) (v : Int32) : CM Unit := fun S => if kx S (kyS t i) = true then some ((), us1 S t i v) else none
def cA (t i : Nat) (k : Int32) : CM Int32 := fun S => if kx S (20 + t, i) = true ∧ by2 t = false ∧ inb k (zl S t i) then some (za S t i k.toNatClampNeg, S) else none
def cAb (t i : Nat) (k : Int32) : CM Int32 := fun S => if kx S (20 + t, i) = true ∧ by2 t = true ∧ inb k (zl S t i) then some (za S t i k.toNatClampNeg, S) else none
def cS (t i : Nat) (k v : Int32) : CM Unit := fun S => if kx S (20 + t, i) = true ∧ by2 t = false ∧ inb k (zl S t i) then some ((), us2 S t i k.toNatClampNeg v) else none
def cSb (t i : Nat) (k v : Int32) : CM Unit := fun S => if kx S (20 + t, i) = true ∧ by2 t = true ∧ inb k (zl S t i) then some ((), us2 S t i k.toNatClampNeg (vp_nar .byte v)) else none
def cN (t i : Nat) : CM Int32 := fun S => if kx S (20 + t, i) = true then some (nI (zl S t i), S) else none
def cBk (k : Int32) : CM (Option Nat) := fun S => if inb k 8 then some (zb S k.toNatClampNeg, S) else none
def cCk (k : Int32) : CM (Option Nat) := fun S => if inb k 16 then some (zd S k.toNatClampNeg, S) else none
def cW (b : Nat) : CM Nat := fun S => if kx S (3, b) = true then some (zw S b, S) else none
def cR (c : Nat) : CM Nat := fun S => if kx S (4, c) = true then some (zr S c, S) else none
def cT (c : Nat) : CM Nat := fun S => if kx S (4, c) = true then some (zn S c, S) else none
def cdI (x y : Int32) : CM Int32 := if y = 0 then cf else cr (x / y)
def crI (x y : Int32) : CM Int32 := if y = 0 then cf else cr (x - x / y * y)
def cnz (x : Int32) : CM Int32 := if x = 0 ∨ x = 1 then cr x else cf
def cck (x : Int32) : CM Int32 := fun S => some (x, S)
/-- x on the heap does what c does on the state; what comes back is told by g -/
def Sc {α β : Type} (am : AM) (g : α → β) (x : MM β) (c : CM α) : Prop := ∀ (S : CS) (v : α) (S' : CS), c S = some (v, S') → ∀ (b1 b2 : Nat) (h : AH), RC am b1 b2 S h → ∃ h', x h = some (g v, h') ∧ RC am b1 b2 S' h' ∧ FrC am h h'
section SCC
variable {α β γ δ : Type} {am : AM} {x : MM β} {n : CM α} {g : α → β}
theorem sc_mf : Sc am g x cf := fun S v S' e => by cases e
theorem sc_ret {a : α} : Sc am g (mr (g a)) (cr a) := fun S v S' e b1 b2 h hR => by
  cases e
  exact ⟨h, rfl, hR, FrC.refl⟩
theorem sc_ite {c : Prop} {d : Decidable c} {A B : MM β} {a b : CM α} (h1 : Sc am g A a) (h2 : Sc am g B b) : Sc am g (@ite _ c d A B) (@ite _ c d a b) := by
  by_cases h : c
  · rw [if_pos h, if_pos h]; exact h1
  · rw [if_neg h, if_neg h]; exact h2
theorem sc_cal {y : MM δ} {z : CM γ} {k : γ → δ} {F : δ → MM β} {f : γ → CM α} (h1 : Sc am k y z) (h2 : ∀ v, Sc am g (F (k v)) (f v)) : Sc am g (mb y F) (cb z f) := fun S v S' e b1 b2 h hR => by
  unfold cb at e
  cases hz : z S with
  | none => rw [hz] at e; cases e
  | some q =>
    rw [hz] at e
    obtain ⟨h1', e1, r1, f1⟩ := h1 S q.1 q.2 hz b1 b2 h hR
    obtain ⟨h2', e2, r2, f2⟩ := h2 q.1 q.2 v S' e b1 b2 h1' r1
    refine ⟨h2', ?_, r2, f1.trans f2⟩
    unfold mb
    rw [e1]
    exact e2
theorem sc_rd {y : MM δ} {z : CM γ} {k : γ → δ} {F : δ → MM β} {f : γ → CM α} (h1 : ∀ S v S', z S = some (v, S') → S' = S ∧ ∀ b1 b2 h, RC am b1 b2 S h → y h = some (k v, h)) (h2 : ∀ v, Sc am g (F (k v)) (f v)) : Sc am g (mb y F) (cb z f) :=
  sc_cal (k := k) (fun S v S' e b1 b2 h hR => by
    obtain ⟨rfl, q⟩ := h1 S v S' e
    exact ⟨h, q b1 b2 h hR, hR, FrC.refl⟩) h2
theorem sc_con {r : Option Nat} {kk : Nat → Nat} {A B : MM β} {a : CM α} {b : Nat → CM α} (h1 : r = none → Sc am g A a) (h2 : ∀ i, r = some i → Sc am g B (b i)) : Sc am g (if r.map kk = none then A else B) (con r a b) := by
  cases r with
  | none =>
    have q : (Option.map kk none) = none := rfl
    rw [if_pos q]; exact h1 rfl
  | some i =>
    have q : ¬ (Option.map kk (some i)) = none := by intro q; cases q
    rw [if_neg q]; exact h2 i rfl
theorem RC.at {b1 b2 : Nat} {S : CS} {h : AH} (hR : RC am b1 b2 S h) {q : Nat × Nat} (hq : kx S q = true) : ce h (adr am q) = cel am S q := by
  obtain ⟨own, v, cap, gr, fb, h1, -⟩ := hR
  exact (h1 q hq).1
/-- one cell is written -/
theorem RC.put {b1 b2 : Nat} {S S' : CS} {h : AH} (hR : RC am b1 b2 S h) {q : Nat × Nat} (hq : kx S q = true) (hx : ∀ k, kx S' k = kx S k) (ho : ∀ k, kx S k = true → k ≠ q → cel am S' k = cel am S k) (ht : zx S' = zx S ∧ zT S' = zT S ∧ zt S' = zt S) (hw : WF S → WF S') : RC am b1 b2 S' (hs h (adr am q) (cel am S' q)) ∧ FrC am h (hs h (adr am q) (cel am S' q)) := by
  obtain ⟨own, v, cap, gr, fb, h1, ⟨z, t1, t2, t3, t4⟩, o1, o2, v1, v2, v3, hst, r1, r2, r3, r4, r5, r6, r7, r8⟩ := hR
  obtain ⟨c1, c2, c3, c4, c5⟩ := h1 q hq
  have hlt : q.1 < 40 := by
    unfold kx at hq
    by_cases hc : q.1 < 40
    · exact hc
    · rw [if_neg (by omega), if_neg (by omega), if_neg (by omega), if_neg (by omega), if_neg (by omega)] at hq
      cases hq
  have na : ∀ b k, own b = k → k ≠ q → b ≠ adr am q := fun b k hb hk e => hk (by rw [← hb, e, c2])
  have nx : ∀ a b : Nat, 40 ≤ a → (a, b) ≠ q := fun a b hk e => by rw [← e] at hlt; exact absurd hlt (by simp only; omega)
  refine ⟨⟨own, v, cap, gr, fb, fun k hk => ?_, ⟨z, ?_, t2, ?_, ?_⟩, o1, o2, v1, v2, v3, ?_, r1, r2, r3, r4, ?_, r6.fr rfl (fun b hb => by rw [ce_hs, if_neg (by omega)]), fun a e he => ?_, hw r8⟩, Nat.le_refl _, rfl, fun b hb => ?_⟩
  · rw [hx] at hk
    obtain ⟨d1, d2, d3, d4, d5⟩ := h1 k hk
    by_cases hkq : k = q
    · subst hkq
      exact ⟨by rw [ce_hs, if_pos rfl], c2, c3, c4, c5⟩
    · exact ⟨by rw [ce_hs, if_neg (na _ k d2 hkq), ho k hk hkq]; exact d1, d2, d3, d4, d5⟩
  · rw [ce_hs, if_neg (na _ _ o1 (nx _ _ (by omega))), ht.1]; exact t1
  · rw [ce_hs, if_neg (na _ _ o2 (nx _ _ (by omega)))]; exact t3
  · rw [ht.1]; exact t4
  · intro i hi
    rw [ht.2.1] at hi
    obtain ⟨c, w, j0, s1, s2, s8, s9, s3, s4, s5, cc, t, f, rest, u1, u2, u3, u4⟩ := hst i hi
    have n1 : aSt am i ≠ adr am q := na _ _ s1 (nx _ _ (by omega))
    have n2 : w ≠ adr am q := na _ _ s2 (nx _ _ (by omega))
    rw [ht.2.2]
    exact ⟨c, w, j0, s1, s2, by rw [ht.2.1]; exact s8, s9, s3, s4, s5, cc, t, f, rest, by rw [ce_hs, if_neg n1]; exact u1, u2, by rw [ce_hs, if_neg n2]; exact u3, u4⟩
  · rw [ht.2.1]; exact r5
  · obtain ⟨w1, w2, w3⟩ := r7 a e he
    exact ⟨by rw [ce_hs, if_neg (na _ _ w2 (nx _ _ (by omega)))]; exact w1, w2, w3⟩
  · rw [ce_hs, if_neg (by omega)]
theorem cel_us1 {S : CS} {t i : Nat} {v : Int32} (ht : 1 ≤ t ∧ t ≤ 12) (k : Nat × Nat) (hk : k ≠ kyS t i) : cel am (us1 S t i v) k = cel am S k := by
  obtain ⟨a, b⟩ := k
  have hz : ∀ t', (kyS t' b).1 = a → 1 ≤ t' → zs (us1 S t i v) t' b = zs S t' b := by
    intro t' h1 h0
    show (if t' = t ∧ b = i then v else zs S t' b) = _
    refine if_neg ?_
    rintro ⟨rfl, rfl⟩
    refine hk ?_
    rw [← h1]
    unfold kyS
    repeat' split
    all_goals rfl
  unfold cel
  by_cases h14 : 14 ≤ a
  · rw [if_pos h14, if_pos h14]; rfl
  · rw [if_neg h14, if_neg h14]
    by_cases h1 : a = 1
    · subst h1; rw [if_pos rfl, if_pos rfl, hz 1 rfl (by decide)]
    · rw [if_neg h1, if_neg h1]
      by_cases h2 : a = 2
      · subst h2; rw [if_pos rfl, if_pos rfl, hz 6 rfl (by decide), hz 7 rfl (by decide)]
      · rw [if_neg h2, if_neg h2]
        by_cases h3 : a = 3
        · subst h3; rw [if_pos rfl, if_pos rfl]; rfl
        · rw [if_neg h3, if_neg h3]
          by_cases h4 : a = 4
          · subst h4; rw [if_pos rfl, if_pos rfl, hz 12 rfl (by decide)]; rfl
          · rw [if_neg h4, if_neg h4]
            by_cases h5 : a = 5
            · subst h5; rw [if_pos rfl, if_pos rfl, hz 8 rfl (by decide), hz 9 rfl (by decide), hz 10 rfl (by decide), hz 11 rfl (by decide)]
            · rw [if_neg h5, if_neg h5]
              by_cases h6 : a = 6
              · subst h6; rw [if_pos rfl, if_pos rfl, hz 2 rfl (by decide)]
              · rw [if_neg h6, if_neg h6]
                by_cases h7 : a = 7
                · subst h7; rw [if_pos rfl, if_pos rfl, hz 3 rfl (by decide), hz 4 rfl (by decide), hz 5 rfl (by decide)]
                · rw [if_neg h7, if_neg h7]; rfl
theorem cel_us2 {S : CS} {t i j : Nat} {v : Int32} (k : Nat × Nat) (hx : kx S k = true) (hk : k ≠ (20 + t, i)) : cel am (us2 S t i j v) k = cel am S k := by
  obtain ⟨a, b⟩ := k
  unfold cel
  by_cases h14 : 14 ≤ a
  · rw [if_pos h14, if_pos h14]
    have h20 : 20 ≤ a := by
      unfold kx at hx
      by_cases hc : 20 ≤ a
      · exact hc
      · rw [if_neg (by simp only; omega), if_neg (by simp only; omega), if_neg (by simp only; omega), if_neg (by simp only; omega), if_neg (by simp only; omega)] at hx
        cases hx
    have hn : ¬ (a - 20 = t ∧ b = i) := by
      rintro ⟨rfl, rfl⟩
      exact hk (by rw [show 20 + (a - 20) = a by omega])
    have e1 : za (us2 S t i j v) (a - 20) b = za S (a - 20) b := by
      show (if a - 20 = t ∧ b = i then _ else _) = _
      rw [if_neg hn]
    rw [e1]
    rfl
  · rw [if_neg h14, if_neg h14]
    rfl
theorem cel_ar {S : CS} {t i : Nat} : cel am S (20 + t, i) = .inl (if by2 t = true then 1 else 0, zl S t i, .inl (za S t i)) := by
  unfold cel
  rw [if_pos (by simp only; omega)]
  simp only [Nat.add_sub_cancel_left]
theorem adr_ar {t i : Nat} : adr am (20 + t, i) = aAr am t i := by
  unfold adr
  rw [if_neg (by simp only; omega), if_neg (by simp only; omega), if_neg (by simp only; omega), if_neg (by simp only; omega), if_neg (by simp only; omega), if_neg (by simp only; omega), if_neg (by simp only; omega), if_neg (by simp only; omega), if_neg (by simp only; omega), if_neg (by simp only; omega), if_neg (by simp only; omega), if_neg (by simp only; omega), if_neg (by simp only; omega)]
  simp only [Nat.add_sub_cancel_left]
end SCC
