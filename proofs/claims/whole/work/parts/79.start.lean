/-! ===== the start: what holds ===== -/
def oL0 : List (Nat × Nat) := [(5, 0), (6, 0), (22, 0), (1, 0), (21, 0), (1, 1), (21, 1), (1, 2), (21, 2), (7, 0), (8, 0), (1, 3), (21, 3), (1, 4), (21, 4), (1, 5), (21, 5), (1, 6), (21, 6), (1, 7), (21, 7), (9, 0), (1, 8), (21, 8), (1, 9), (21, 9), (1, 10), (21, 10), (1, 11), (21, 11), (2, 0), (23, 0), (24, 0), (25, 0), (26, 0), (1, 12), (21, 12), (10, 0), (28, 0), (29, 0), (30, 0), (13, 0), (40, 0), (41, 0), (11, 0), (12, 0)]
def rO0 : List Nat := [3, 5, 7, 11, 13, 15, 17, 19, 22, 24, 26, 28, 35]
noncomputable def gO0 (rf : Nat → Option Nat) (f : Nat → va_E) (v : Nat) : Nat := @dite Nat (∃ j, j < 19 ∧ ∃ a, rf j = some a ∧ f a = .inr (14, [.ref v, .int 0])) (Classical.propDecidable _) (fun q => Classical.choose q) (fun _ => 0)
def oO0 (g : Nat → Nat) (a : Nat) (e : va_E) : Nat × Nat := match e with
  | .inr (_, .ref v :: _) => (50, g v)
  | _ => (51, g a)
noncomputable def ow0 (x : Nat) (rf : Nat → Option Nat) (f : Nat → va_E) (a : Nat) : Nat × Nat := if a < x then oO0 (gO0 rf f) a (f a) else oL0.getD (a - x) (99, 0)
def am0 (x : Nat) (rf : Nat → Option Nat) : AM := (x, (fun i => x + rO0.getD i 0), (fun _ => x + 30), (fun _ => 0), (fun _ => 0), (fun _ => 0), (fun i => (rf i).getD 0), fun _ => none)
def S0 : CS := ((fun t i => if t = 5 ∧ i = 0 then -9 else if t = 7 ∧ i = 0 then -1 else 0), (fun _ _ _ => 0), (fun i => if i ≤ 12 then rl i else 0), (fun i => decide (i = 0)), (0, 0, 19), ((fun _ => none), fun _ => none), txt, [], ((fun _ => 0), (fun _ => 0), fun _ => 0))
def J0 : JS := ((fun t i => if t = 5 ∧ i = 0 then -9 else if t = 7 ∧ i = 0 then -1 else 0), (fun _ _ _ => 0), (0, 0, 19), ((fun _ => none), fun _ => none), (txt, []), ((fun _ => 0), (fun _ => 0), fun _ => 0))
def W0 : IS := ((fun k => if k = 3 then -9 else 0), fun _ _ => 0)
section STA
variable {x b L u q1 : Nat} {xs : Nat → Int32} {rf : Nat → Option Nat} {f : Nat → va_E} {l : List va_E}
theorem ce_hl {i : Nat} : ce (hl x u rf f l) (x + i) = l.getD i (.inr (15, [])) := by
  show (if x + i < x then f (x + i) else l.getD (x + i - x) (.inr (15, []))) = _
  rw [if_neg (by omega), Nat.add_sub_cancel_left]
theorem ce_lo {a : Nat} (h : a < x) : ce (hl x u rf f l) a = f a := if_pos h
theorem ow_hi {i : Nat} : ow0 x rf f (x + i) = oL0.getD i (99, 0) := by
  show (if x + i < x then _ else oL0.getD (x + i - x) (99, 0)) = _
  rw [if_neg (by omega), Nat.add_sub_cancel_left]
theorem ow_lo {a : Nat} (h : a < x) : ow0 x rf f a = oO0 (gO0 rf f) a (f a) := if_pos h
theorem c_ok {q : Nat × Nat} {k : Nat} (hk : k < 46) (ha : adr (am0 x rf) q = x + k) (ho : oL0.getD k (99, 0) = q) (hc : (cT46 x ++ cT33 (x + 46)).getD k (.inr (15, [])) = cel (am0 x rf) S0 q) : ce (hl x u rf f (cT46 x ++ cT33 (x + 46))) (adr (am0 x rf) q) = cel (am0 x rf) S0 q ∧ ow0 x rf f (adr (am0 x rf) q) = q ∧ adr (am0 x rf) q < x + 79 ∧ (adr (am0 x rf) q < x + 46 ∨ x + 79 ≤ adr (am0 x rf) q) ∧ x ≤ adr (am0 x rf) q := by
  rw [ha, ce_hl, ow_hi]
  exact ⟨hc, ho, by omega, Or.inl (by omega), by omega⟩
set_option maxRecDepth 20000 in
set_option maxHeartbeats 4000000 in
theorem c_all (q : Nat × Nat) (hq : kx S0 q = true) : ce (hl x u rf f (cT46 x ++ cT33 (x + 46))) (adr (am0 x rf) q) = cel (am0 x rf) S0 q ∧ ow0 x rf f (adr (am0 x rf) q) = q ∧ adr (am0 x rf) q < x + 79 ∧ (adr (am0 x rf) q < x + 46 ∨ x + 79 ≤ adr (am0 x rf) q) ∧ x ≤ adr (am0 x rf) q := by
  obtain ⟨c, i⟩ := q
  unfold kx at hq
  simp only at hq
  by_cases h1 : c = 1 ∨ c = 21
  · rw [if_pos h1] at hq
    have hz : 0 < zc S0 i := of_decide_eq_true hq
    have hi : i ≤ 12 := by
      by_cases q : i ≤ 12
      · exact q
      · have e : zc S0 i = 0 := if_neg q
        omega
    rcases h1 with rfl | rfl
    · rcases (show i = 0 ∨ i = 1 ∨ i = 2 ∨ i = 3 ∨ i = 4 ∨ i = 5 ∨ i = 6 ∨ i = 7 ∨ i = 8 ∨ i = 9 ∨ i = 10 ∨ i = 11 ∨ i = 12 by omega) with rfl | rfl | rfl | rfl | rfl | rfl | rfl | rfl | rfl | rfl | rfl | rfl | rfl
      · exact (c_ok (q := (1, 0)) (k := 3) (by decide) rfl rfl rfl)
      · exact (c_ok (q := (1, 1)) (k := 5) (by decide) rfl rfl rfl)
      · exact (c_ok (q := (1, 2)) (k := 7) (by decide) rfl rfl rfl)
      · exact (c_ok (q := (1, 3)) (k := 11) (by decide) rfl rfl rfl)
      · exact (c_ok (q := (1, 4)) (k := 13) (by decide) rfl rfl rfl)
      · exact (c_ok (q := (1, 5)) (k := 15) (by decide) rfl rfl rfl)
      · exact (c_ok (q := (1, 6)) (k := 17) (by decide) rfl rfl rfl)
      · exact (c_ok (q := (1, 7)) (k := 19) (by decide) rfl rfl rfl)
      · exact (c_ok (q := (1, 8)) (k := 22) (by decide) rfl rfl rfl)
      · exact (c_ok (q := (1, 9)) (k := 24) (by decide) rfl rfl rfl)
      · exact (c_ok (q := (1, 10)) (k := 26) (by decide) rfl rfl rfl)
      · exact (c_ok (q := (1, 11)) (k := 28) (by decide) rfl rfl rfl)
      · exact (c_ok (q := (1, 12)) (k := 35) (by decide) rfl rfl rfl)
    · rcases (show i = 0 ∨ i = 1 ∨ i = 2 ∨ i = 3 ∨ i = 4 ∨ i = 5 ∨ i = 6 ∨ i = 7 ∨ i = 8 ∨ i = 9 ∨ i = 10 ∨ i = 11 ∨ i = 12 by omega) with rfl | rfl | rfl | rfl | rfl | rfl | rfl | rfl | rfl | rfl | rfl | rfl | rfl
      · exact (c_ok (q := (21, 0)) (k := 4) (by decide) rfl rfl rfl)
      · exact (c_ok (q := (21, 1)) (k := 6) (by decide) rfl rfl rfl)
      · exact (c_ok (q := (21, 2)) (k := 8) (by decide) rfl rfl rfl)
      · exact (c_ok (q := (21, 3)) (k := 12) (by decide) rfl rfl rfl)
      · exact (c_ok (q := (21, 4)) (k := 14) (by decide) rfl rfl rfl)
      · exact (c_ok (q := (21, 5)) (k := 16) (by decide) rfl rfl rfl)
      · exact (c_ok (q := (21, 6)) (k := 18) (by decide) rfl rfl rfl)
      · exact (c_ok (q := (21, 7)) (k := 20) (by decide) rfl rfl rfl)
      · exact (c_ok (q := (21, 8)) (k := 23) (by decide) rfl rfl rfl)
      · exact (c_ok (q := (21, 9)) (k := 25) (by decide) rfl rfl rfl)
      · exact (c_ok (q := (21, 10)) (k := 27) (by decide) rfl rfl rfl)
      · exact (c_ok (q := (21, 11)) (k := 29) (by decide) rfl rfl rfl)
      · exact (c_ok (q := (21, 12)) (k := 36) (by decide) rfl rfl rfl)
  rw [if_neg h1] at hq
  by_cases h2 : c = 2 ∨ c = 23 ∨ c = 24 ∨ c = 25 ∨ c = 26
  · rw [if_pos h2] at hq
    have hi : i = 0 := of_decide_eq_true hq
    subst hi
    rcases h2 with rfl | rfl | rfl | rfl | rfl
    · exact (c_ok (q := (2, 0)) (k := 30) (by decide) rfl rfl rfl)
    · exact (c_ok (q := (23, 0)) (k := 31) (by decide) rfl rfl rfl)
    · exact (c_ok (q := (24, 0)) (k := 32) (by decide) rfl rfl rfl)
    · exact (c_ok (q := (25, 0)) (k := 33) (by decide) rfl rfl rfl)
    · exact (c_ok (q := (26, 0)) (k := 34) (by decide) rfl rfl rfl)
  rw [if_neg h2] at hq
  by_cases h3 : c = 3 ∨ c = 27
  · rw [if_pos h3] at hq
    have hi : i < 0 := of_decide_eq_true hq
    omega
  rw [if_neg h3] at hq
  by_cases h4 : c = 4
  · rw [if_pos h4] at hq
    have hi : i < 0 := of_decide_eq_true hq
    omega
  rw [if_neg h4] at hq
  by_cases h5 : (5 ≤ c ∧ c ≤ 13) ∨ c = 22 ∨ c = 28 ∨ c = 29 ∨ c = 30
  · rw [if_pos h5] at hq
    have hi : i = 0 := of_decide_eq_true hq
    subst hi
    rcases (show c = 5 ∨ c = 6 ∨ c = 7 ∨ c = 8 ∨ c = 9 ∨ c = 10 ∨ c = 11 ∨ c = 12 ∨ c = 13 ∨ c = 22 ∨ c = 28 ∨ c = 29 ∨ c = 30 by omega) with rfl | rfl | rfl | rfl | rfl | rfl | rfl | rfl | rfl | rfl | rfl | rfl | rfl
    · exact (c_ok (q := (5, 0)) (k := 0) (by decide) rfl rfl rfl)
    · exact (c_ok (q := (6, 0)) (k := 1) (by decide) rfl rfl rfl)
    · exact (c_ok (q := (7, 0)) (k := 9) (by decide) rfl rfl rfl)
    · exact (c_ok (q := (8, 0)) (k := 10) (by decide) rfl rfl rfl)
    · exact (c_ok (q := (9, 0)) (k := 21) (by decide) rfl rfl rfl)
    · exact (c_ok (q := (10, 0)) (k := 37) (by decide) rfl rfl rfl)
    · exact (c_ok (q := (11, 0)) (k := 44) (by decide) rfl rfl rfl)
    · exact (c_ok (q := (12, 0)) (k := 45) (by decide) rfl rfl rfl)
    · exact (c_ok (q := (13, 0)) (k := 41) (by decide) rfl rfl rfl)
    · exact (c_ok (q := (22, 0)) (k := 2) (by decide) rfl rfl rfl)
    · exact (c_ok (q := (28, 0)) (k := 38) (by decide) rfl rfl rfl)
    · exact (c_ok (q := (29, 0)) (k := 39) (by decide) rfl rfl rfl)
    · exact (c_ok (q := (30, 0)) (k := 40) (by decide) rfl rfl rfl)
  · rw [if_neg h5] at hq
    cases hq
theorem tx_ok : ∀ i, i < 19 → ∀ j, j < (txt i).length → (txt i).getD j 0 < 256 ∧ nI ((txt i).getD j 0) = sb_b ((txt i).getD j 0) := by decide +kernel
theorem gO_ok {v j a : Nat} (hj : j < 19) (ha : rf j = some a) (hf : f a = .inr (14, [.ref v, .int 0])) : gO0 rf f v < 19 ∧ ∃ a', rf (gO0 rf f v) = some a' ∧ f a' = .inr (14, [.ref v, .int 0]) := by
  have hex : ∃ j, j < 19 ∧ ∃ a, rf j = some a ∧ f a = .inr (14, [.ref v, .int 0]) := ⟨j, hj, a, ha, hf⟩
  have e : gO0 rf f v = Classical.choose hex := dif_pos hex
  rw [e]
  exact Classical.choose_spec hex
theorem st_RC (hk : KCs rf x (hl x u rf f (cT46 x ++ cT33 (x + 46)))) (hd : DGs (am0 x rf) (hl x u rf f (cT46 x ++ cT33 (x + 46)))) : RC (am0 x rf) (x + 79) u S0 (hl x u rf f (cT46 x ++ cT33 (x + 46))) := by
  have h79 : (hl x u rf f (cT46 x ++ cT33 (x + 46))).1 = x + 79 := rfl
  refine ⟨ow0 x rf f, x + 43, 16, 0, fun _ => 0, fun q hq => c_all q hq, ⟨0, ?_, Or.inl rfl, ?_, Nat.zero_le _, fun _ => (show (0 : Int32) = (0 : Int32).toInt8.toInt32 by decide), fun j hj => absurd hj (Nat.not_lt_zero j), by decide, by decide, by decide⟩, ?_, ?_, by omega, Or.inl (by show x + 43 < x + 46; omega), by show x ≤ x + 43; omega, fun i hi => ?_, by omega, by show u ≤ u + 2 * 16; omega, by show x + 79 ≤ x + 79; omega, fun i hi => ?_, Nat.le_refl _, hd, fun a e he => (by cases he), ⟨fun b hb => absurd hb (Nat.not_lt_zero b), fun c hc => absurd hc (Nat.not_lt_zero c), fun i b e => (by cases e), fun i c e => (by cases e)⟩⟩
  · exact (ce_hl (i := 42)).trans rfl
  · exact (ce_hl (i := 43)).trans rfl
  · exact ow_hi (i := 42)
  · exact ow_hi (i := 43)
  · have hi : i < 19 := hi
    obtain ⟨a, v, fb, e1, l1, l2, c1, c2, c3⟩ := hk.2 i hi
    have ea : aSt (am0 x rf) i = a := by
      show (rf i).getD 0 = a
      rw [e1]
      rfl
    have d1 := c1
    have d2 := c2
    rw [ce_lo l1] at d1
    rw [ce_lo l2] at d2
    obtain ⟨g1, a', g2, g3⟩ := gO_ok hi e1 d1
    have et : txt (gO0 rf f v) = txt i := by
      obtain ⟨a2, v2, fb2, x1, y1, y2, z1, z2, z3⟩ := hk.2 _ g1
      have : a2 = a' := Option.some.inj (x1.symm.trans g2)
      subst this
      rw [ce_lo y1, g3] at z1
      have ev : v2 = v := by
        injection z1 with z1
        have := congrArg Prod.snd z1
        injection this with this
        injection this with this
        exact this.symm
      subst ev
      rw [ce_lo y2, d2] at z2
      injection z2 with z2
      have hlen : (txt i).length = (txt (gO0 rf f v2)).length := congrArg (fun p : Nat × Nat × _ => p.2.1) z2
      have hfb : fb = fb2 := by
        have := congrArg (fun p : Nat × Nat × _ => p.2.2) z2
        injection this
      subst hfb
      refine List.ext_getElem hlen.symm fun j h1 h2 => ?_
      have p1 := c3 j h2
      have p2 := z3 j h1
      rw [p1] at p2
      have b1 := (tx_ok i hi j h2).1
      have b2 := (tx_ok _ g1 j h1).1
      have := (nI_eq (by omega) (by omega)).mp p2
      rw [List.getD_eq_getElem?_getD, List.getD_eq_getElem?_getD, List.getElem?_eq_getElem h1, List.getElem?_eq_getElem h2] at this
      exact this.symm
    rw [ea]
    refine ⟨50, v, gO0 rf f v, ?_, ?_, g1, et, Or.inl rfl, by omega, by omega, 14, 11, fb, [], c1, rfl, c2, Or.inr rfl, fun j hj => ⟨(tx_ok i hi j hj).1, (c3 j hj).trans (tx_ok i hi j hj).2⟩, ?_⟩
    · rw [ow_lo l1, d1]
      rfl
    · rw [ow_lo l2, d2]
      rfl
    · have := txt_len i hi
      show (txt i).length < 2 ^ 30
      omega
  · obtain ⟨a, v, fb, e1, -⟩ := hk.2 i hi
    show rf i = some ((rf i).getD 0)
    rw [e1]
    rfl
theorem st_RS : RS S0 J0 := by
  refine ⟨fun t i => ?_, fun t i k => (show (0 : Int32) = iI 0 by decide), ⟨rfl, rfl, rfl⟩, ⟨rfl, rfl⟩, ⟨rfl, rfl⟩, ⟨rfl, rfl, rfl⟩, fun i hi => ?_, fun p hp => ?_⟩
  · show (if t = 5 ∧ i = 0 then (-9 : Int32) else if t = 7 ∧ i = 0 then -1 else 0) = iI (if t = 5 ∧ i = 0 then (-9 : Int) else if t = 7 ∧ i = 0 then -1 else 0)
    split
    · decide
    · split <;> decide
  · have hi := rx_iff.mp hi
    have e : jB J0 = 0 := rfl
    have e' : jC J0 = 0 := rfl
    exact if_pos (by omega)
  · have e : jB J0 = 0 := rfl
    exact decide_eq_true (by omega)
theorem st_Inv : Inv W0 J0 := by
  refine ⟨⟨Nat.le_refl _, fun _ _ => rfl⟩, TpR.z rfl, ⟨rfl, rfl, Nat.zero_le _⟩, ⟨rfl, rfl, Nat.zero_le _⟩, ⟨rfl, rfl, rfl⟩, fun b hb => absurd hb (Nat.not_lt_zero b), fun c hc => absurd hc (Nat.not_lt_zero c)⟩
theorem st_w1 : (wI W0).1 = fun k => if k = 3 then (-9 : Int32) else 0 := funext fun k => by
  show iI (if k = 3 then (-9 : Int) else 0) = _
  split <;> decide
theorem st_w2 : (wI W0).2 = fun _ _ => (0 : Int32) := funext fun k => funext fun i => by
  show iI 0 = 0
  decide
set_option maxRecDepth 20000 in
set_option maxHeartbeats 4000000 in
theorem st_RMo (hk : KCs rf x (hl x u rf f (cT46 x ++ cT33 (x + 46)))) : RMo (x + 46) rf (wI W0) (hl x u rf f (cT46 x ++ cT33 (x + 46))) := by
  refine ⟨?_, fun k ha => ?_, hk.up (by omega)⟩
  · rw [ce_hl]
    unfold fsM
    rw [st_w1]
    rfl
  · rw [Nat.add_assoc, ce_hl, st_w2]
    have key : ∀ k ∈ [0, 6, 7, 8, 9, 10, 11, 12, 13, 14, 16, 17, 18, 26, 27, 28, 29, 30, 31, 32, 33, 34, 35, 36, 38, 39, 40, 41, 45, 46, 47, 48], (cT46 x ++ cT33 (x + 46)).getD (46 + oM k) (.inr (15, [])) = .inl (if isZ k = true then 2 else 0, lenM k, .inl ((fun (_ : Nat) (_ : Nat) => (0 : Int32)) k)) := List.forall_mem_cons.mpr ⟨rfl, List.forall_mem_cons.mpr ⟨rfl, List.forall_mem_cons.mpr ⟨rfl, List.forall_mem_cons.mpr ⟨rfl, List.forall_mem_cons.mpr ⟨rfl, List.forall_mem_cons.mpr ⟨rfl, List.forall_mem_cons.mpr ⟨rfl, List.forall_mem_cons.mpr ⟨rfl, List.forall_mem_cons.mpr ⟨rfl, List.forall_mem_cons.mpr ⟨rfl, List.forall_mem_cons.mpr ⟨rfl, List.forall_mem_cons.mpr ⟨rfl, List.forall_mem_cons.mpr ⟨rfl, List.forall_mem_cons.mpr ⟨rfl, List.forall_mem_cons.mpr ⟨rfl, List.forall_mem_cons.mpr ⟨rfl, List.forall_mem_cons.mpr ⟨rfl, List.forall_mem_cons.mpr ⟨rfl, List.forall_mem_cons.mpr ⟨rfl, List.forall_mem_cons.mpr ⟨rfl, List.forall_mem_cons.mpr ⟨rfl, List.forall_mem_cons.mpr ⟨rfl, List.forall_mem_cons.mpr ⟨rfl, List.forall_mem_cons.mpr ⟨rfl, List.forall_mem_cons.mpr ⟨rfl, List.forall_mem_cons.mpr ⟨rfl, List.forall_mem_cons.mpr ⟨rfl, List.forall_mem_cons.mpr ⟨rfl, List.forall_mem_cons.mpr ⟨rfl, List.forall_mem_cons.mpr ⟨rfl, List.forall_mem_cons.mpr ⟨rfl, List.forall_mem_cons.mpr ⟨rfl, fun _ hq => absurd hq List.not_mem_nil⟩⟩⟩⟩⟩⟩⟩⟩⟩⟩⟩⟩⟩⟩⟩⟩⟩⟩⟩⟩⟩⟩⟩⟩⟩⟩⟩⟩⟩⟩⟩⟩
    exact key k (List.elem_iff.mp ha)
theorem st_LS (hk : KCs rf x (hl x u rf f (cT46 x ++ cT33 (x + 46)))) (hd : DGs (am0 x rf) (hl x u rf f (cT46 x ++ cT33 (x + 46)))) (hs : f b = .inl (10, L, .inl xs)) (hb : b < x) : LwS x b L xs rf (x + 79) u W0 (hl x u rf f (cT46 x ++ cT33 (x + 46))) := ⟨am0 x rf, S0, J0, rfl, fun _ => rfl, st_RC hk hd, st_RS, st_RMo hk, hk, st_Inv, (ce_lo hb).trans hs, hb⟩
end STA
