/-! ===== the start's words, each by its place; the cells that stand from the start ===== -/
def NL : List Cond := flatC (Jvm.Cond.and given_1 narrow_1)
def oS (i : Nat) : Nat := [260, 287, 294, 303, 333, 341, 356, 368, 381, 399, 418, 434, 452, 491, 514, 534, 561, 587, 616].getD i 0
def wS (i : Nat) : Nat := [393, 704, 735, 736, 978, 1069, 1078, 1080, 1086, 1091, 1462, 1469, 1470, 1735, 1740, 1741, 1742, 1743, 1744].getD i 0
def kW (i : Nat) : Nat × String × Nat × String := kS.getD i (0, "", 0, "")
def tS (i : Nat) : Term := .string (kW i).2.1 (kW i).2.2.1
def tV (i : Nat) : Term := .field (tS i) "java/lang/String" "value" "[B"
def tD1 : Term := .static "java/lang/Integer" "DigitOnes" "[B"
def tD2 : Term := .static "java/lang/Integer" "DigitTens" "[B"
set_option maxRecDepth 100000 in
theorem nl_ex : ∀ i, i < 19 → NL[oS i]? = some (.exactly (tS i) "java/lang/String") := by decide +kernel
set_option maxRecDepth 100000 in
theorem nl_co : ∀ i, i < 19 → NL[oS i + 1]? = some (.eq (.field (tS i) "java/lang/String" "coder" "B") (.int 0)) := by decide +kernel
set_option maxRecDepth 100000 in
theorem nl_ar : ∀ i, i < 19 → NL[oS i + 2]? = some (.arrayOf (tV i) .byte) := by decide +kernel
set_option maxRecDepth 100000 in
theorem nl_le : ∀ i, i < 19 → NL[oS i + 3]? = some (.eq (.length (tV i)) (.int (Int32.ofNat (txt i).length))) := by decide +kernel
set_option maxRecDepth 100000 in
theorem nl_el : ∀ i, i < 19 → ∀ j, j < (txt i).length → NL[oS i + 4 + j]? = some (.eq (.elem (tV i) (.int (Int32.ofNat j))) (.int (nI ((txt i).getD j 0)))) := by decide +kernel
set_option maxRecDepth 100000 in
theorem nl_d1 : ∀ j, j < 100 → NL[12 + j]? = some (.eq (.elem tD1 (.int (Int32.ofNat j))) (.int (nI (48 + j % 10)))) := by decide +kernel
set_option maxRecDepth 100000 in
theorem nl_d2 : ∀ j, j < 100 → NL[115 + j]? = some (.eq (.elem tD2 (.int (Int32.ofNat j))) (.int (nI (48 + j / 10)))) := by decide +kernel
theorem nl_10 : NL[10]? = some (.arrayOf tD1 .byte) := by decide +kernel
theorem nl_11 : NL[11]? = some (.eq (.length tD1) (.int (Int32.ofNat 100))) := by decide +kernel
theorem nl_113 : NL[113]? = some (.arrayOf tD2 .byte) := by decide +kernel
theorem nl_114 : NL[114]? = some (.eq (.length tD2) (.int (Int32.ofNat 100))) := by decide +kernel
theorem nl_4 : NL[4]? = some (.eq (.static "java/lang/String" "COMPACT_STRINGS" "Z") (.int 1)) := by decide +kernel
theorem nl_5 : NL[5]? = some (.isRef (.static "jdk/internal/util/Preconditions" "SIOOBE_FORMATTER" "Ljava/util/function/BiFunction;")) := by decide +kernel
theorem lt_sr : ∀ i, i < 19 → lw_tbl[93 + wS i]? = some (.stringRef (kW i).2.1 (kW i).2.2.1 (kW i).2.2.2) := by decide +kernel
theorem kS_at : ∀ i, i < 19 → kS[i]? = some (kW i) ∧ (kW i).1 = i := by decide +kernel
theorem by_fit : ∀ i, i < 19 → ∀ j, j < (txt i).length → fits .byte (.int (nI ((txt i).getD j 0))) = true := by decide +kernel
theorem d1_fit : ∀ j, j < 100 → fits .byte (.int (nI (48 + j % 10))) = true := by decide +kernel
theorem d2_fit : ∀ j, j < 100 → fits .byte (.int (nI (48 + j / 10))) = true := by decide +kernel
section NRR
variable {args : Array Value} {s : State} {b L : Nat} {xs : Nat → Int32}
theorem nl_use (hgv : (Jvm.Cond.and given_1 narrow_1).before args s = true) {w : Cond} (i : Nat) (h : NL[i]? = some w) : w.before args s = true := flat_of_before _ hgv _ (List.mem_of_getElem? h)
theorem tb_use (hts : ∀ w ∈ lw_tbl, w.before args s = true) {w : Cond} (i : Nat) (h : lw_tbl[i]? = some w) : w.before args s = true := hts _ (List.mem_of_getElem? h)
/-- nothing of the start may be written -/
def A0 (s : State) : Nat → Prop := fun q => s.heap.size ≤ q
theorem A0_no (s : State) : ∀ a : Nat, a < s.heap.size → ¬ A0 s a := fun a h q => Nat.lt_irrefl _ (Nat.lt_of_lt_of_le h q)
/-- what the cell at a is -/
def Kc (s : State) (b L : Nat) (xs : Nat → Int32) (a : Nat) (e : va_E) : Prop :=
  (e = .inl (10, L, .inl xs) ∧ a = b ∧ va_X b L xs s s.heap) ∨
  (∃ (n : Nat) (g : Nat → Int32), e = .inl (11, n, .inl g) ∧ n < 2 ^ 31 ∧ (∀ j, n ≤ j → g j = 0) ∧ (∀ j, fits .byte (.int (g j)) = true) ∧ va_T .byte a n (fun j => .int (g j)) (A0 s) s s.heap) ∨
  ∃ v : Nat, e = .inr (14, [.ref v, .int 0]) ∧ va_O "java/lang/String" a (A0 s) s s.heap ∧ va_OF "java/lang/String" "coder" "B" (.int 0) a (A0 s) s s.heap ∧ va_OF "java/lang/String" "value" "[B" (.ref v) a (A0 s) s s.heap
theorem arr_obj {a : Nat} {cell : Cell} {ty : FieldType} (hc : s.heap[a]? = some cell) (ha : s.isArrayOf cell ty) (hS : ∃ cC, ClassAt s "java/lang/String" cC) (ho : va_O "java/lang/String" a (A0 s) s s.heap) : False := by
  obtain ⟨cell2, h1, h2, h3, -⟩ := ho
  cases hc.symm.trans h1
  obtain ⟨cC, g1, kC, g2, g3⟩ := hS
  cases g1.symm.trans h3
  obtain ⟨-, kA, f1, comp, f2⟩ := ha
  cases g2.symm.trans f1
  rw [g3] at f2
  cases f2
theorem Kc.one (hS : ∃ cC, ClassAt s "java/lang/String" cC) {a : Nat} {e e' : va_E} (h : Kc s b L xs a e) (h' : Kc s b L xs a e') : e = e' := by
  rcases h with ⟨rfl, h1, scr, h2, h3, -⟩ | ⟨n, g, rfl, hn, hg, -, cell, h2, h3, h4, h5, h6, h7, -⟩ | ⟨v, rfl, ho, -, cf, k, i, fd, cell, k1, k2, k3, k4, k5, -⟩
  · rcases h' with ⟨rfl, -⟩ | ⟨n, g, rfl, -, -, -, cell, g2, g3, -⟩ | ⟨v, rfl, ho, -⟩
    · rfl
    · subst h1
      cases h2.symm.trans g2
      obtain ⟨-, kA, f1, comp, f2⟩ := h3
      obtain ⟨-, kB, f3, comp', f4⟩ := g3
      cases f1.symm.trans f3
      cases f2.symm.trans f4
    · subst h1
      exact (arr_obj h2 h3 hS ho).elim
  · rcases h' with ⟨rfl, g1, scr, g2, g3, -⟩ | ⟨n', g', rfl, hn', hg', -, cell', g2, g3, g4, g5, g6, g7, -⟩ | ⟨v, rfl, ho, -⟩
    · subst g1
      cases h2.symm.trans g2
      obtain ⟨-, kA, f1, comp, f2⟩ := h3
      obtain ⟨-, kB, f3, comp', f4⟩ := g3
      cases f1.symm.trans f3
      cases f2.symm.trans f4
    · cases h2.symm.trans g2
      have e1 : n = n' := by
        have e2 : Int32.ofNat n = Int32.ofNat n' := h6.symm.trans g6
        have e3 := congrArg Int32.toNatClampNeg e2
        rwa [Int32.toNatClampNeg_ofNat_of_lt hn, Int32.toNatClampNeg_ofNat_of_lt hn'] at e3
      subst e1
      have e2 : g = g' := funext fun j => by
        by_cases hj : j < n
        · have e3 := (h7 j hj).symm.trans (g7 j hj)
          injection e3 with e4
          injection e4
        · rw [hg j (by omega), hg' j (by omega)]
      rw [e2]
    · exact (arr_obj h2 h3 hS ho).elim
  · rcases h' with ⟨rfl, g1, scr, g2, g3, -⟩ | ⟨n', g', rfl, hn', hg', -, cell', g2, g3, -⟩ | ⟨v', rfl, ho', -, cf', k', i', fd', cell', j1, j2, j3, j4, j5, -⟩
    · subst g1
      exact (arr_obj g2 g3 hS ho).elim
    · exact (arr_obj g2 g3 hS ho).elim
    · cases k1.symm.trans j1
      cases k3.symm.trans j3
      cases k5.symm.trans j5
      rfl
/-- the cells of the start -/
theorem fC_ex (hS : ∃ cC, ClassAt s "java/lang/String" cC) : ∃ f : Nat → va_E, (∀ a e, Kc s b L xs a e → f a = e) ∧ ∀ a, Kc s b L xs a (f a) ∨ f a = .inr (15, []) := by
  have h0 : ∀ a : Nat, ∃ e : va_E, (∀ e', Kc s b L xs a e' → e = e') ∧ (Kc s b L xs a e ∨ e = .inr (15, [])) := by
    intro a
    by_cases h : ∃ e, Kc s b L xs a e
    · obtain ⟨e, he⟩ := h
      exact ⟨e, fun e' he' => Kc.one hS he he', Or.inl he⟩
    · exact ⟨.inr (15, []), fun e' he' => absurd ⟨e', he'⟩ h, Or.inr rfl⟩
  obtain ⟨f, hf⟩ := Classical.axiomOfChoice h0
  exact ⟨f, fun a e h => (hf a).1 e h, fun a => (hf a).2⟩
/-- a row of bytes by its words -/
theorem row_of {tm : Term} {n : Nat} {g : Nat → Int32} (hn : n < 2 ^ 31) (harr : (Cond.arrayOf tm .byte).before args s = true) (hlen : (Cond.eq (.length tm) (.int (Int32.ofNat n))).before args s = true) (hel : ∀ j, j < n → (Cond.eq (.elem tm (.int (Int32.ofNat j))) (.int (g j))).before args s = true) (hf : ∀ j, j < n → fits .byte (.int (g j)) = true) :
    ∃ t : Nat, tm.eval args s none [] s = some (.ref t) ∧ t < s.heap.size ∧ Kc s b L xs t (.inl (11, n, .inl fun j => if j < n then g j else 0)) := by
  obtain ⟨t, h1, h2⟩ := va_Tof (f := fun j => .int (g j)) (A := A0 s) hn harr (va_eqt hlen) (fun j hj => va_eqt (hel j hj)) (A0_no s)
  obtain ⟨cell, g1, g2, g3, g4, g5, g6, g7⟩ := h2
  refine ⟨t, h1, (Array.getElem?_eq_some_iff.mp g1).1, Or.inr (Or.inl ⟨n, _, rfl, hn, fun j hj => if_neg (by omega), fun j => ?_, cell, g1, g2, g3, g4, g5, fun j hj => ?_, g7⟩)⟩
  · show fits .byte (.int (if j < n then g j else 0)) = true
    by_cases hj : j < n
    · rw [if_pos hj]
      exact hf j hj
    · rw [if_neg hj]
      decide
  · show cell.slots[j]? = some (.int (if j < n then g j else 0))
    rw [if_pos hj]
    exact g6 j hj
/-- a text by its words -/
theorem str_at (hgv : (Jvm.Cond.and given_1 narrow_1).before args s = true) {i : Nat} (hi : i < 19) : ∃ a v : Nat, (tS i).eval args s none [] s = some (.ref a) ∧ a < s.heap.size ∧ v < s.heap.size ∧ Kc s b L xs a (.inr (14, [.ref v, .int 0])) ∧ Kc s b L xs v (.inl (11, (txt i).length, .inl fun j => if j < (txt i).length then nI ((txt i).getD j 0) else 0)) := by
  obtain ⟨a, c, cA, kA, q1, q2, q3, q4, q5, q6, -⟩ := Cond.exactly_spec (args := args) (first := s) (o := none) (s := s) (idx := []) (t := tS i) (cls := "java/lang/String") (nl_use hgv _ (nl_ex i hi))
  obtain ⟨v, h1, h2, h3⟩ := row_of (b := b) (L := L) (xs := xs) (n := (txt i).length) (g := fun j => nI ((txt i).getD j 0)) (by have := txt_len i hi; omega) (nl_use hgv _ (nl_ar i hi)) (nl_use hgv _ (nl_le i hi)) (fun j hj => nl_use hgv _ (nl_el i hi j hj)) (by_fit i hi)
  have hl : a < s.heap.size := (Array.getElem?_eq_some_iff.mp q3).1
  exact ⟨a, v, q1, hl, h2, Or.inr (Or.inr ⟨v, rfl, ⟨cA, q3, q5, by rw [q6]; exact q2, A0_no s a hl⟩, vk_OFof q1 (va_eqt (nl_use hgv _ (nl_co i hi))) (A0_no s), vk_OFof q1 h1 (A0_no s)⟩), h3⟩
end NRR
