/-! ===== the model's numbers and rows by themselves: its heap is one object with rows that stay ===== -/
abbrev MS : Type := (Nat → Int32) × (Nat → Nat → Int32)
abbrev NM (α : Type) : Type := MS → Option (α × MS)
def nr {α : Type} (a : α) : NM α := fun w => some (a, w)
def nf {α : Type} : NM α := fun _ => none
def nb {α β : Type} (x : NM α) (f : α → NM β) : NM β := fun w => match x w with
  | none => none
  | some q => f q.1 q.2
/-- the rows' fields, in their order; how long they are; whether of truth values -/
def arM : List Nat := [0, 6, 7, 8, 9, 10, 11, 12, 13, 14, 16, 17, 18, 26, 27, 28, 29, 30, 31, 32, 33, 34, 35, 36, 38, 39, 40, 41, 45, 46, 47, 48]
def isA (k : Nat) : Bool := arM.elem k
def oM (k : Nat) : Nat := arM.idxOf k + 1
def lenM (k : Nat) : Nat := if k = 0 then 120 else if k = 6 then 8 else if k = 7 then 568 else if k = 8 then 568 else if k = 9 then 7384 else if k = 10 then 7384 else if k = 11 then 8 else if k = 12 then 3200 else if k = 13 then 3200 else if k = 14 then 3200 else if k = 16 then 16 else if k = 17 then 16 else if k = 18 then 6400 else if k = 31 then 121 else if k = 36 then 16384 else if k = 38 then 16384 else if k = 39 then 400 else if k = 40 then 400 else if k = 41 then 400 else if k = 47 then 400 else if k = 48 then 400 else 120
def isZ (k : Nat) : Bool := k == 28 || k == 41 || k == 47 || k == 48
def ups (w : MS) (k : Nat) (x : Int32) : MS := (fun j => if j = k then x else w.1 j, w.2)
def upa (w : MS) (k i : Nat) (x : Int32) : MS := (w.1, fun j => if j = k then upd (w.2 k) i x else w.2 j)
def ngI (k : Nat) : NM Int32 := fun w => some (w.1 k, w)
def npI (k : Nat) (x : Int32) : NM Unit := fun w => some ((), ups w k x)
def npZ (k : Nat) (x : Int32) : NM Unit := fun w => if x = 0 ∨ x = 1 then some ((), ups w k x) else none
def naI (k : Nat) (i : Int32) : NM Int32 := fun w => if isA k = true ∧ isZ k = false ∧ inb i (lenM k) then some (w.2 k i.toNatClampNeg, w) else none
def naZ (k : Nat) (i : Int32) : NM Int32 := fun w => if isA k = true ∧ isZ k = true ∧ inb i (lenM k) then some (w.2 k i.toNatClampNeg, w) else none
def nsI (k : Nat) (i x : Int32) : NM Unit := fun w => if isA k = true ∧ isZ k = false ∧ inb i (lenM k) then some ((), upa w k i.toNatClampNeg x) else none
def nsZ (k : Nat) (i x : Int32) : NM Unit := fun w => if isA k = true ∧ isZ k = true ∧ inb i (lenM k) ∧ (x = 0 ∨ x = 1) then some ((), upa w k i.toNatClampNeg x) else none
def ndI (x y : Int32) : NM Int32 := if y = 0 then nf else nr (x / y)
def nrI (x y : Int32) : NM Int32 := if y = 0 then nf else nr (x - x / y * y)
def nnz (x : Int32) : NM Int32 := if x = 0 ∨ x = 1 then nr x else nf
/-- the text constants -/
def txt (i : Nat) : List Nat := ((kS.getD i (0, "", 0, "")).2.2.2).toList.map Char.toNat
def ixf : List Nat → Nat → Nat
  | [], _ => 0
  | b :: l, c => if b = c then 0 else ixf l c + 1
def idxA (l : List Nat) (c : Nat) : Int32 := if ixf l c < l.length then nI (ixf l c) else -1
def nSl (i : Nat) : NM Int32 := if i < 19 then nr (nI (txt i).length) else nf
def nSc (i : Nat) (k : Int32) : NM Int32 := if i < 19 ∧ inb k (txt i).length then nr (nI ((txt i).getD k.toNatClampNeg 0)) else nf
def nSi (i : Nat) (c : Int32) : NM Int32 := if i < 19 ∧ inb c 256 then nr (idxA (txt i) c.toNatClampNeg) else nf
/-- the model's cells hold w; the constants lie where they lay -/
def fsM (m : Nat) (w : MS) : List Value := (List.range 49).map fun k => if isA k = true then .ref (m + oM k) else .int (w.1 k)
def KCs (rf : Nat → Option Nat) (b : Nat) (h : AH) : Prop := h.2.2.2 = rf ∧ ∀ i, i < 19 → ∃ (a v : Nat) (f : Nat → Int32), rf i = some a ∧ a < b ∧ v < b ∧ ce h a = .inr (14, [.ref v, .int 0]) ∧ ce h v = .inl (11, (txt i).length, .inl f) ∧ ∀ j, j < (txt i).length → f j = nI ((txt i).getD j 0)
def RMo (m : Nat) (rf : Nat → Option Nat) (w : MS) (h : AH) : Prop := ce h m = .inr (13, fsM m w) ∧ (∀ k, isA k = true → ce h (m + oM k) = .inl (if isZ k = true then 2 else 0, lenM k, .inl (w.2 k))) ∧ KCs rf m h
/-- what lies outside the model's cells stays -/
def FrM (m : Nat) (h h' : AH) : Prop := h'.1 = h.1 ∧ h'.2.1 = h.2.1 ∧ h'.2.2.2 = h.2.2.2 ∧ ∀ a, (a < m ∨ m + 33 ≤ a) → ce h' a = ce h a
theorem FrM.refl {m : Nat} {h : AH} : FrM m h h := ⟨rfl, rfl, rfl, fun _ _ => rfl⟩
theorem FrM.trans {m : Nat} {h h1 h2 : AH} (a : FrM m h h1) (b : FrM m h1 h2) : FrM m h h2 := ⟨b.1.trans a.1, b.2.1.trans a.2.1, b.2.2.1.trans a.2.2.1, fun q hq => (b.2.2.2 q hq).trans (a.2.2.2 q hq)⟩
/-- x on the heap does what n does on the numbers -/
def Sm {α : Type} (m : Nat) (rf : Nat → Option Nat) (x : MM α) (n : NM α) : Prop := ∀ (w : MS) (v : α) (w' : MS), n w = some (v, w') → ∀ h, RMo m rf w h → ∃ h', x h = some (v, h') ∧ RMo m rf w' h' ∧ FrM m h h'
section SM
variable {α β : Type} {m : Nat} {rf : Nat → Option Nat} {x : MM α} {n : NM α}
theorem sm_mf : Sm m rf x nf := fun w v w' e => by cases e
theorem sm_ret {a : α} : Sm m rf (mr a) (nr a) := fun w v w' e h hR => by
  cases e
  exact ⟨h, rfl, hR, FrM.refl⟩
theorem sm_ite {c : Prop} {d : Decidable c} {A B : MM α} {a b : NM α} (h1 : Sm m rf A a) (h2 : Sm m rf B b) : Sm m rf (@ite _ c d A B) (@ite _ c d a b) := by
  by_cases h : c
  · rw [if_pos h, if_pos h]; exact h1
  · rw [if_neg h, if_neg h]; exact h2
theorem sm_cal {y : MM β} {z : NM β} {f : β → MM α} {g : β → NM α} (h1 : Sm m rf y z) (h2 : ∀ v, Sm m rf (f v) (g v)) : Sm m rf (mb y f) (nb z g) := fun w v w' e h hR => by
  unfold nb at e
  cases hz : z w with
  | none => rw [hz] at e; cases e
  | some q =>
    rw [hz] at e
    obtain ⟨h1', e1, r1, f1⟩ := h1 w q.1 q.2 hz h hR
    obtain ⟨h2', e2, r2, f2⟩ := h2 q.1 q.2 v w' e h1' r1
    refine ⟨h2', ?_, r2, f1.trans f2⟩
    unfold mb
    rw [e1]
    exact e2
/-- a step that reads -/
theorem sm_rd {y : MM β} {z : NM β} {f : β → MM α} {g : β → NM α} (h1 : ∀ w v w', z w = some (v, w') → w' = w ∧ ∀ h, RMo m rf w h → y h = some (v, h)) (h2 : ∀ v, Sm m rf (f v) (g v)) : Sm m rf (mb y f) (nb z g) :=
  sm_cal (fun w v w' e h hR => by
    obtain ⟨rfl, q⟩ := h1 w v w' e
    exact ⟨h, q h hR, hR, FrM.refl⟩) h2
theorem fsM_s {w : MS} {k : Nat} (hk : k < 49) (ha : isA k = false) : (fsM m w)[k]? = some (.int (w.1 k)) := by
  unfold fsM
  rw [List.getElem?_map, List.getElem?_range hk]
  simp [ha]
theorem fsM_a {w : MS} {k : Nat} (hk : k < 49) (ha : isA k = true) : (fsM m w)[k]? = some (.ref (m + oM k)) := by
  unfold fsM
  rw [List.getElem?_map, List.getElem?_range hk]
  simp [ha]
theorem fsM_len {w : MS} : (fsM m w).length = 49 := by simp [fsM]
theorem fsM_set {w : MS} {k : Nat} {v : Int32} (hk : k < 49) (ha : isA k = false) : (fsM m w).set k (.int v) = fsM m (ups w k v) := by
  apply List.ext_getElem?
  intro j
  by_cases hj : j < 49
  · by_cases hjk : j = k
    · subst hjk
      rw [List.getElem?_set_self (by rw [fsM_len]; exact hj), fsM_s hj ha]
      simp [ups]
    · rw [List.getElem?_set_ne (Ne.symm hjk)]
      cases hja : isA j with
      | true => rw [fsM_a hj hja, fsM_a hj hja]
      | false => rw [fsM_s hj hja, fsM_s hj hja]; simp [ups, hjk]
  · rw [List.getElem?_eq_none (by rw [List.length_set, fsM_len]; omega), List.getElem?_eq_none (by rw [fsM_len]; omega)]
theorem oM_inj : ∀ j k : Nat, isA j = true → isA k = true → oM j = oM k → j = k := by
  intro j k hj hk h
  have h1 : j ∈ arM := List.elem_iff.mp hj
  have h2 : k ∈ arM := List.elem_iff.mp hk
  have key : ∀ a ∈ arM, ∀ b ∈ arM, oM a = oM b → a = b := by decide +kernel
  exact key j h1 k h2 h
theorem oM_in : ∀ k : Nat, isA k = true → 1 ≤ oM k ∧ oM k ≤ 32 ∧ k < 49 := by
  intro k hk
  have h1 : k ∈ arM := List.elem_iff.mp hk
  have key : ∀ a ∈ arM, 1 ≤ oM a ∧ oM a ≤ 32 ∧ a < 49 := by decide +kernel
  exact key k h1
theorem sm_gI {k : Nat} {f : Int32 → MM α} {g : Int32 → NM α} (hk : Nat.ble (k + 1) 49 = true) (ha : isA k = false) (h2 : ∀ v, Sm m rf (f v) (g v)) : Sm m rf (mb (gI 13 (some m) k) f) (nb (ngI k) g) :=
  sm_rd (fun w v w' e => by
    cases e
    refine ⟨rfl, fun h hR => ?_⟩
    have hk := Nat.le_of_ble_eq_true hk
    simp only [gI, gV, hR.1]
    rw [fsM_s hk ha]
    rfl) h2
theorem sm_gR {k : Nat} {f : Option Nat → MM α} (hk : Nat.ble (k + 1) 49 = true) (ha : isA k = true) (h2 : Sm m rf (f (some (m + oM k))) n) : Sm m rf (mb (gR 13 (some m) k) f) n := fun w v w' e h hR => by
  obtain ⟨h', e1, r1, f1⟩ := h2 w v w' e h hR
  refine ⟨h', ?_, r1, f1⟩
  have hk := Nat.le_of_ble_eq_true hk
  unfold mb
  simp only [gR, gV, hR.1]
  rw [fsM_a hk ha]
  exact e1
theorem sm_kR {i : Nat} {f : Option Nat → MM α} (h2 : Sm m rf (f (rf i)) n) : Sm m rf (mb (kR i) f) n := fun w v w' e h hR => by
  obtain ⟨h', e1, r1, f1⟩ := h2 w v w' e h hR
  refine ⟨h', ?_, r1, f1⟩
  unfold mb kR
  rw [hR.2.2.1]
  exact e1
/-- a write into the model's object -/
theorem rmo_ups {w : MS} {h : AH} {k : Nat} {v : Int32} (hR : RMo m rf w h) (hk : k < 49) (ha : isA k = false) : RMo m rf (ups w k v) (hs h m (.inr (13, (fsM m w).set k (.int v)))) ∧ FrM m h (hs h m (.inr (13, (fsM m w).set k (.int v)))) := by
  refine ⟨⟨?_, fun j hj => ?_, hR.2.2.1, fun i hi => ?_⟩, rfl, rfl, rfl, fun a ha2 => ?_⟩
  · rw [ce_hs, if_pos rfl, fsM_set hk ha]
  · rw [ce_hs, if_neg (by have := oM_in j hj; omega)]
    exact hR.2.1 j hj
  · obtain ⟨a, v2, f, q1, q2, q3, q4, q5, q6⟩ := hR.2.2.2 i hi
    exact ⟨a, v2, f, q1, q2, q3, by rw [ce_hs, if_neg (by omega)]; exact q4, by rw [ce_hs, if_neg (by omega)]; exact q5, q6⟩
  · rw [ce_hs, if_neg (by omega)]
theorem rmo_upa {w : MS} {h : AH} {k i : Nat} {v : Int32} (hR : RMo m rf w h) (ha : isA k = true) : RMo m rf (upa w k i v) (hs h (m + oM k) (.inl (if isZ k = true then 2 else 0, lenM k, .inl (upd (w.2 k) i v)))) ∧ FrM m h (hs h (m + oM k) (.inl (if isZ k = true then 2 else 0, lenM k, .inl (upd (w.2 k) i v)))) := by
  have ho := oM_in k ha
  refine ⟨⟨?_, fun j hj => ?_, hR.2.2.1, fun i hi => ?_⟩, rfl, rfl, rfl, fun a ha2 => ?_⟩
  · rw [ce_hs, if_neg (by omega)]
    exact hR.1
  · by_cases hjk : j = k
    · subst hjk
      rw [ce_hs, if_pos rfl]
      simp [upa]
    · have hne : m + oM j ≠ m + oM k := fun q => hjk (oM_inj j k hj ha (by omega))
      rw [ce_hs, if_neg hne, hR.2.1 j hj]
      simp [upa, hjk]
  · obtain ⟨a, v2, f, q1, q2, q3, q4, q5, q6⟩ := hR.2.2.2 i hi
    exact ⟨a, v2, f, q1, q2, q3, by rw [ce_hs, if_neg (by omega)]; exact q4, by rw [ce_hs, if_neg (by omega)]; exact q5, q6⟩
  · rw [ce_hs, if_neg (by omega)]
theorem sm_pV {k : Nat} {v : Int32} {f : Unit → MM α} {g : Unit → NM α} (hk : k < 49) (ha : isA k = false) (h2 : Sm m rf (f ()) (g ())) : Sm m rf (mb (pV 13 (some m) k (.int v)) f) (nb (npI k v) g) := fun w u w' e h hR => by
  obtain ⟨r1, f1⟩ := rmo_ups hR (v := v) hk ha
  obtain ⟨h', e1, r2, f2⟩ := h2 (ups w k v) u w' e _ r1
  refine ⟨h', ?_, r2, f1.trans f2⟩
  unfold mb pV
  simp only [hR.1]
  rw [if_pos ⟨trivial, by rw [fsM_len]; exact hk⟩]
  exact e1
theorem sm_pI {k : Nat} {v : Int32} {f : Unit → MM α} {g : Unit → NM α} (hk : Nat.ble (k + 1) 49 = true) (ha : isA k = false) (h2 : Sm m rf (f ()) (g ())) : Sm m rf (mb (pI 13 (some m) k v) f) (nb (npI k v) g) := sm_pV (Nat.le_of_ble_eq_true hk) ha h2
theorem sm_pZ {k : Nat} {v : Int32} {f : Unit → MM α} {g : Unit → NM α} (hk : Nat.ble (k + 1) 49 = true) (ha : isA k = false) (h2 : Sm m rf (f ()) (g ())) : Sm m rf (mb (pZ 13 (some m) k v) f) (nb (npZ k v) g) := by
  by_cases hv : v = 0 ∨ v = 1
  · have e1 : pZ 13 (some m) k v = pV 13 (some m) k (.int v) := by unfold pZ; rw [if_pos hv]
    have e2 : npZ k v = npI k v := by funext w; unfold npZ npI; rw [if_pos hv]
    rw [e1, e2]
    exact sm_pV (Nat.le_of_ble_eq_true hk) ha h2
  · exact fun w u w' e => by
      unfold nb npZ at e
      rw [if_neg hv] at e
      cases e
theorem sm_aI {k : Nat} {i : Int32} {f : Int32 → MM α} {g : Int32 → NM α} (h2 : ∀ v, Sm m rf (f v) (g v)) : Sm m rf (mb (aI (some (m + oM k)) i) f) (nb (naI k i) g) :=
  sm_rd (fun w v w' e => by
    unfold naI at e
    split at e
    · rename_i hc
      cases e
      refine ⟨rfl, fun h hR => ?_⟩
      obtain ⟨c1, c2, c3⟩ := hc
      have hce := hR.2.1 k c1
      rw [c2] at hce
      unfold aI
      simp only [hce]
      exact if_pos ⟨Or.inl rfl, c3⟩
    · cases e) h2
theorem sm_aB {k : Nat} {i : Int32} {f : Int32 → MM α} {g : Int32 → NM α} (h2 : ∀ v, Sm m rf (f v) (g v)) : Sm m rf (mb (aB (some (m + oM k)) i) f) (nb (naZ k i) g) :=
  sm_rd (fun w v w' e => by
    unfold naZ at e
    split at e
    · rename_i hc
      cases e
      refine ⟨rfl, fun h hR => ?_⟩
      obtain ⟨c1, c2, c3⟩ := hc
      have hce := hR.2.1 k c1
      rw [c2] at hce
      unfold aB
      simp only [hce]
      exact if_pos ⟨Or.inr (Or.inl rfl), c3⟩
    · cases e) h2
theorem sm_sI {k : Nat} {i v : Int32} {f : Unit → MM α} {g : Unit → NM α} (h2 : Sm m rf (f ()) (g ())) : Sm m rf (mb (sI (some (m + oM k)) i v) f) (nb (nsI k i v) g) := fun w u w' e h hR => by
  unfold nb nsI at e
  by_cases hc : isA k = true ∧ isZ k = false ∧ inb i (lenM k)
  · rw [if_pos hc] at e
    obtain ⟨c1, c2, c3⟩ := hc
    obtain ⟨r1, f1⟩ := rmo_upa hR (i := i.toNatClampNeg) (v := v) c1
    obtain ⟨h', e1, r2, f2⟩ := h2 _ u w' e _ r1
    refine ⟨h', ?_, r2, f1.trans f2⟩
    unfold mb sI
    have hce := hR.2.1 k c1
    rw [c2] at hce e1
    simp only [hce]
    rw [if_pos ⟨rfl, c3⟩]
    exact e1
  · rw [if_neg hc] at e
    cases e
theorem nar01 {v : Int32} (h : v = 0 ∨ v = 1) : vp_nar .boolean v = v := by
  rcases h with e | e <;> (subst e; decide)
theorem sm_sB {k : Nat} {i v : Int32} {f : Unit → MM α} {g : Unit → NM α} (h2 : Sm m rf (f ()) (g ())) : Sm m rf (mb (sB (some (m + oM k)) i v) f) (nb (nsZ k i v) g) := fun w u w' e h hR => by
  unfold nb nsZ at e
  by_cases hc : isA k = true ∧ isZ k = true ∧ inb i (lenM k) ∧ (v = 0 ∨ v = 1)
  · rw [if_pos hc] at e
    obtain ⟨c1, c2, c3, c4⟩ := hc
    obtain ⟨r1, f1⟩ := rmo_upa hR (i := i.toNatClampNeg) (v := v) c1
    obtain ⟨h', e1, r2, f2⟩ := h2 _ u w' e _ r1
    refine ⟨h', ?_, r2, f1.trans f2⟩
    unfold mb sB
    have hce := hR.2.1 k c1
    rw [c2] at hce e1
    simp only [hce]
    rw [if_neg (by rintro ⟨q, -⟩; cases q), if_pos ⟨rfl, c3⟩, nar01 c4]
    exact e1
  · rw [if_neg hc] at e
    cases e
theorem sm_dI {a b : Int32} {f : Int32 → MM α} {g : Int32 → NM α} (h2 : ∀ v, Sm m rf (f v) (g v)) : Sm m rf (mb (dI a b) f) (nb (ndI a b) g) :=
  sm_rd (fun w v w' e => by
    unfold ndI at e
    split at e
    · cases e
    · rename_i hb
      cases e
      exact ⟨rfl, fun h hR => by unfold dI; rw [if_neg hb]; rfl⟩) h2
theorem sm_rI {a b : Int32} {f : Int32 → MM α} {g : Int32 → NM α} (h2 : ∀ v, Sm m rf (f v) (g v)) : Sm m rf (mb (rI a b) f) (nb (nrI a b) g) :=
  sm_rd (fun w v w' e => by
    unfold nrI at e
    split at e
    · cases e
    · rename_i hb
      cases e
      exact ⟨rfl, fun h hR => by unfold rI; rw [if_neg hb]; rfl⟩) h2
theorem sm_nz {a : Int32} {f : Int32 → MM α} {g : Int32 → NM α} (h2 : ∀ v, Sm m rf (f v) (g v)) : Sm m rf (mb (nzI a) f) (nb (nnz a) g) :=
  sm_rd (fun w v w' e => by
    unfold nnz at e
    split at e
    · rename_i hb
      cases e
      exact ⟨rfl, fun h hR => by unfold nzI; rw [if_pos hb]; rfl⟩
    · cases e) h2
theorem sm_wc {F : Nat → MM β} {z : NM β} {f : β → MM α} {g : β → NM α} (h1 : Sm m rf (F m) z) (h2 : ∀ v, Sm m rf (f v) (g v)) : Sm m rf (mb (wc 13 (some m) F) f) (nb z g) :=
  sm_cal (fun w v w' e h hR => by
    obtain ⟨h', e1, r1, f1⟩ := h1 w v w' e h hR
    refine ⟨h', ?_, r1, f1⟩
    unfold wc
    simp only [hR.1]
    exact e1) h2
end SM
