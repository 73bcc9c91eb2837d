/-! ===== the law's loop ===== -/
section LOO
variable {x b L b1 b2 p : Nat} {xs : Nat → Int32} {rf : Nat → Option Nat} {W : IS} {h : AH} {A1 A2 : Int}
theorem LwS.cc (hL : LwS x b L xs rf b1 b2 W h) : 0 ≤ cn W ∧ cn W ≤ 24 := by
  obtain ⟨am, S, J, -, -, -, -, -, -, hI, -⟩ := hL
  have i3 := hI.2.2.1
  have i4 := hI.2.2.2.1
  constructor
  · show 0 ≤ W.1 5 + W.1 15
    omega
  · show W.1 5 + W.1 15 ≤ 24
    omega
theorem pow_16 {gr cap : Nat} (h1 : 16 * 2 ^ gr ≤ cap) (h2 : cap ≤ 40000) : gr ≤ 11 := by
  by_cases q : gr ≤ 11
  · exact q
  · have := Nat.pow_le_pow_right (show 0 < 2 by decide) (show 12 ≤ gr by omega)
    have e : 2 ^ 12 = 4096 := by decide
    omega
theorem LwS.rm (hL : LwS x b L xs rf b1 b2 W h) : h.1 ≤ b1 + 11 ∧ h.2.1 ≤ b2 + 80000 := by
  obtain ⟨am, S, J, -, -, hR, -⟩ := hL
  obtain ⟨own, v, cap, gr, fb, -, ⟨z, -, -, -, -, -, -, -, t8, t9⟩, -, -, -, -, -, -, r1, r2, -⟩ := hR
  have := pow_16 t9 t8
  omega
/-- where the law ends: it answers 1 within its room -/
def EnD (A1 A2 : Int) (h' : AH) : Prop := (h'.1 : Int) ≤ A1 + 11 ∧ (h'.2.1 : Int) ≤ A2 + 80000
theorem lw_loop (hL3 : L ≤ 3072) : ∀ (d n p b1 b2 : Nat) (W : IS) (h : AH), d < n → L < p + 6 * d + 6 → p ≤ 4000 → LwS x b L xs rf b1 b2 W h → ((b1 : Int) + 17 * (24 - cn W) + 2 * d ≤ A1) → ((b2 : Int) + 20707 * (24 - cn W) + 104 * d ≤ A2) → ∃ h', LW_18 n (some b) (some x) (some (x + 46)) (nI p) h = some ((1 : Int32), h') ∧ EnD A1 A2 h' := by
  intro d
  induction d with
  | zero =>
    intro n p b1 b2 W h hn hp hp4 hL hA hB
    cases n with
    | zero => omega
    | succ n =>
      have hs := hL.sc
      have hcn := hL.cc
      have hrm := hL.rm
      have hc := cLt (x := nI L - (6 : Int32)) (y := nI p) (eSub (nI_iI L) (show (6 : Int32) = iI 6 from rfl)) (nI_iI p) ⟨⟨by omega, by omega⟩, ⟨by omega, by omega⟩⟩
      have eN : aN (some b) h = some (nI L, h) := by
        unfold aN
        simp only [hs]
        exact if_pos (Or.inr (Or.inl trivial))
      refine ⟨h, ?_, by unfold EnD; omega⟩
      rw [show LW_18 (n + 1) (some b) (some x) (some (x + 46)) (nI p) = LW_18_st (LW_18 n) (some b) (some x) (some (x + 46)) (nI p) from rfl]
      unfold LW_18_st
      rw [mb_s eN, if_pos (hc.mpr (by omega))]
      rfl
  | succ d ih =>
    intro n p b1 b2 W h hn hp hp4 hL hA hB
    cases n with
    | zero => omega
    | succ n =>
      have hs := hL.sc
      have hcn := hL.cc
      have hrm := hL.rm
      have hc := cLt (x := nI L - (6 : Int32)) (y := nI p) (eSub (nI_iI L) (show (6 : Int32) = iI 6 from rfl)) (nI_iI p) ⟨⟨by omega, by omega⟩, ⟨by omega, by omega⟩⟩
      have eN : aN (some b) h = some (nI L, h) := by
        unfold aN
        simp only [hs]
        exact if_pos (Or.inr (Or.inl trivial))
      rw [show LW_18 (n + 1) (some b) (some x) (some (x + 46)) (nI p) = LW_18_st (LW_18 n) (some b) (some x) (some (x + 46)) (nI p) from rfl]
      unfold LW_18_st
      rw [mb_s eN]
      by_cases hlt : L < p + 6
      · refine ⟨h, ?_, by unfold EnD; omega⟩
        rw [if_pos (hc.mpr (by omega))]
        rfl
      · rw [if_neg (fun q => by have := hc.mp q; omega), r_aI hs rfl (by omega) hL3]
        have hK : ∀ (W' : IS) (h2 : AH) (c1 c2 : Nat), LwS x b L xs rf (b1 + c1) (b2 + c2) W' h2 → (cn W ≤ cn W' ∧ (c1 : Int) ≤ 17 * (cn W' - cn W) + 2 ∧ (c2 : Int) ≤ 20707 * (cn W' - cn W) + 104) → ∃ h', LW_970 (LW_18 n) (some b) (some x) (some (x + 46)) (nI p) h2 = some ((1 : Int32), h') ∧ EnD A1 A2 h' := fun W' h2 c1 c2 hL' hc' => by
          unfold LW_970
          rw [nA_6]
          exact ih n (p + 6) (b1 + c1) (b2 + c2) W' h2 (by omega) (by omega) (by omega) hL' (by omega) (by omega)
        have hp5 : p + 5 < L := by omega
        generalize xs p &&& (31 : Int32) = y
        refine ex_ite (fun _ => lc_feed hL hp5 hL3 hK) (fun _ => ?_)
        refine ex_ite (fun _ => lc_end hL hp5 hL3 hK) (fun _ => ?_)
        refine ex_ite (fun _ => lc_book hL hp5 hL3 hK) (fun _ => ?_)
        refine ex_ite (fun _ => lc_change hL hp5 hL3 hK) (fun _ => ?_)
        refine ex_ite (fun _ => lc_copy hL hp5 hL3 hK) (fun _ => ?_)
        refine ex_ite (fun _ => lc_find hL hp5 hL3 hK) (fun _ => ?_)
        refine ex_ite (fun _ => lc_place hL hp5 hL3 hK) (fun _ => ?_)
        refine ex_ite (fun _ => lc_fault hL hp5 hL3 hK) (fun _ => ?_)
        refine ex_ite (fun _ => lc_count hL hp5 hL3 hK) (fun _ => ?_)
        refine ex_ite (fun _ => lc_gatherings hL hp5 hL3 hK) (fun _ => ?_)
        refine ex_ite (fun _ => lc_gathering hL hp5 hL3 hK) (fun _ => ?_)
        refine ex_ite (fun _ => lc_leaves hL hp5 hL3 hK) (fun _ => ?_)
        refine ex_ite (fun _ => lc_leaf hL hp5 hL3 hK) (fun _ => ?_)
        refine ex_ite (fun _ => lc_letter hL hp5 hL3 hK) (fun _ => ?_)
        refine ex_ite (fun _ => lc_name hL hp5 hL3 hK) (fun _ => ?_)
        refine ex_ite (fun _ => lc_same hL hp5 hL3 hK) (fun _ => ?_)
        refine ex_ite (fun _ => lc_sheets hL hp5 hL3 hK) (fun _ => ?_)
        refine ex_ite (fun _ => lc_sheet hL hp5 hL3 hK) (fun _ => ?_)
        refine ex_ite (fun _ => lc_forme hL hp5 hL3 hK) (fun _ => ?_)
        refine ex_ite (fun _ => lc_state hL hp5 hL3 hK) (fun _ => ?_)
        refine ex_ite (fun _ => lc_entry hL hp5 hL3 hK) (fun _ => ?_)
        refine ex_ite (fun _ => lc_told hL hp5 hL3 hK) (fun _ => ?_)
        refine ex_ite (fun _ => lc_note hL hp5 hL3 hK) (fun _ => ?_)
        refine ex_ite (fun _ => lc_apart hL hp5 hL3 hK) (fun _ => ?_)
        refine ex_ite (fun _ => lc_together hL hp5 hL3 hK) (fun _ => ?_)
        refine ex_ite (fun _ => lc_status hL hp5 hL3 hK) (fun _ => ?_)
        exact hK W h 0 0 hL ⟨Int.le_refl _, by omega, by omega⟩
end LOO
