/-! ===== the model writes ===== -/
def wr1 (W : IS) (c : Int) : IS := iu1 (iu2 W 36 (W.1 37) c) 37 (W.1 37 + 1)
def wrs : List Nat → IS → IS
  | [], W => W
  | c :: l, W => wrs l (wr1 W c)
section WRI
variable {W : IS}
theorem wrs_app : ∀ (l m : List Nat) (W : IS), wrs (l ++ m) W = wrs m (wrs l W)
  | [], _, _ => rfl
  | _ :: l, m, W => wrs_app l m _
theorem wrs_1 {k : Nat} (hk : k ≠ 37) : ∀ (l : List Nat) (W : IS), (wrs l W).1 k = W.1 k
  | [], _ => rfl
  | c :: l, W => by
    show (wrs l (wr1 W c)).1 k = _
    rw [wrs_1 hk l]
    exact if_neg hk
theorem wrs_37 : ∀ (l : List Nat) (W : IS), (wrs l W).1 37 = W.1 37 + l.length
  | [], W => by simp [wrs]
  | c :: l, W => by
    show (wrs l (wr1 W c)).1 37 = _
    rw [wrs_37 l]
    show (W.1 37 + 1) + (l.length : Int) = W.1 37 + ((c :: l).length : Int)
    rw [List.length_cons]
    omega
theorem wrs_2 {k : Nat} (hk : k ≠ 36) : ∀ (l : List Nat) (W : IS), (wrs l W).2 k = W.2 k
  | [], _ => rfl
  | c :: l, W => by
    show (wrs l (wr1 W c)).2 k = _
    rw [wrs_2 hk l]
    funext i
    exact if_neg (fun q => hk q.1)
theorem wrs_lo {i : Int} : ∀ (l : List Nat) (W : IS), i < W.1 37 → (wrs l W).2 36 i = W.2 36 i
  | [], _, _ => rfl
  | c :: l, W, h => by
    show (wrs l (wr1 W c)).2 36 i = _
    rw [wrs_lo l _ (by show i < W.1 37 + 1; omega)]
    exact if_neg (fun q => by have := q.2; omega)
theorem wrs_36 : ∀ (l : List Nat) (W : IS) (j : Nat), j < l.length → (wrs l W).2 36 (W.1 37 + j) = (l.getD j 0 : Nat)
  | [], _, j, h => absurd h (Nat.not_lt_zero j)
  | c :: l, W, 0, h => by
    show (wrs l (wr1 W c)).2 36 _ = _
    rw [wrs_lo l _ (by show W.1 37 + ((0 : Nat) : Int) < W.1 37 + 1; omega)]
    show (if 36 = 36 ∧ W.1 37 + ((0 : Nat) : Int) = W.1 37 then (c : Int) else _) = _
    rw [if_pos ⟨rfl, by omega⟩]
    rfl
  | c :: l, W, j + 1, h => by
    have := wrs_36 l (wr1 W c) j (by simpa using h)
    have e : (wr1 W c).1 37 = W.1 37 + 1 := rfl
    rw [e] at this
    show (wrs l (wr1 W c)).2 36 _ = _
    rw [show W.1 37 + ((j + 1 : Nat) : Int) = W.1 37 + 1 + (j : Int) by omega, this]
    rfl
/-- room to write -/
def RmW (W : IS) (n : Nat) : Prop := 0 ≤ W.1 37 ∧ W.1 37 + n ≤ 16384
theorem m_write {c : Int} (h : RmW W 1) : I12_write c W = some ((), wr1 W c) := by
  unfold RmW at h
  refine wp_eq ?_
  unfold I12_write
  simp only [wp_ib, wp_ig, wp_ite, wp_ir, wp_igI, wp_ipI, wp_ipZ, wp_inz, wp_idI, wp_irI, wp_iSl, wp_iSc, wp_iSi, iu1_1, iu1_2, iu2_1, iu2_2, wA0, wS0, wA6, wS6, wA7, wS7, wA8, wS8, wA9, wS9, wA10, wS10, wA11, wS11, wA12, wS12, wA13, wS13, wA14, wS14, wA16, wS16, wA17, wS17, wA18, wS18, wA26, wS26, wA27, wS27, wZ28, wY28, wA29, wS29, wA30, wS30, wA31, wS31, wA32, wS32, wA33, wS33, wA34, wS34, wA35, wS35, wA36, wS36, wA38, wS38, wA39, wS39, wA40, wS40, wZ41, wY41, wA45, wS45, wA46, wS46, wZ47, wY47, wZ48, wY48, Nat.reduceEqDiff, reduceIte, false_and, true_and, and_true, and_self, if_false, if_true, and_false]
  refine ⟨by omega, ?_⟩
  rfl
theorem w_write {c : Int} {n : Nat} {Q : Unit → IS → Prop} (h : RmW W 1) (e : c = n) (hq : Q () (wrs [n] W)) : wp (I12_write c) Q W := by
  rw [wp_ret (m_write h), e]
  exact hq
theorem RmW.rest {l : List Nat} {n : Nat} (h : RmW W n) (hl : l.length ≤ n) : RmW (wrs l W) (n - l.length) := by
  unfold RmW at h ⊢
  rw [wrs_37]
  omega
theorem RmW.le {n m : Nat} (h : RmW W n) (hl : m ≤ n) : RmW W m := by
  unfold RmW at h ⊢
  omega
theorem m_writeWord_2 {i : Nat} (hi : i < 19) : ∀ (d : Nat) (n : Nat) (W : IS) (x : Int), d < n → 0 ≤ x → x + d = (txt i).length → RmW W d → I12_writeWord_2 n i x W = some ((), wrs ((txt i).drop x.toNat) W) := by
  intro d
  induction d with
  | zero =>
    intro n W x hn h0 hx hR
    have hl := txt_le i hi
    cases n with
    | zero => omega
    | succ n =>
      refine wp_eq ?_
      unfold I12_writeWord_2 I12_writeWord_2_st
      simp only [wp_ib, wp_ig, wp_ite, wp_ir, wp_igI, wp_ipI, wp_ipZ, wp_inz, wp_idI, wp_irI, wp_iSl, wp_iSc, wp_iSi, iu1_1, iu1_2, iu2_1, iu2_2, wA0, wS0, wA6, wS6, wA7, wS7, wA8, wS8, wA9, wS9, wA10, wS10, wA11, wS11, wA12, wS12, wA13, wS13, wA14, wS14, wA16, wS16, wA17, wS17, wA18, wS18, wA26, wS26, wA27, wS27, wZ28, wY28, wA29, wS29, wA30, wS30, wA31, wS31, wA32, wS32, wA33, wS33, wA34, wS34, wA35, wS35, wA36, wS36, wA38, wS38, wA39, wS39, wA40, wS40, wZ41, wY41, wA45, wS45, wA46, wS46, wZ47, wY47, wZ48, wY48, Nat.reduceEqDiff, reduceIte, false_and, true_and, and_true, and_self, if_false, if_true, and_false]
      rw [if_pos (by omega), List.drop_eq_nil_of_le (by omega)]
      exact ⟨hi, by omega, by omega, rfl⟩
  | succ d ih =>
    intro n W x hn h0 hx hR
    have hl := txt_le i hi
    cases n with
    | zero => omega
    | succ n =>
      refine wp_eq ?_
      unfold I12_writeWord_2 I12_writeWord_2_st
      simp only [wp_ib, wp_ig, wp_ite, wp_ir, wp_igI, wp_ipI, wp_ipZ, wp_inz, wp_idI, wp_irI, wp_iSl, wp_iSc, wp_iSi, iu1_1, iu1_2, iu2_1, iu2_2, wA0, wS0, wA6, wS6, wA7, wS7, wA8, wS8, wA9, wS9, wA10, wS10, wA11, wS11, wA12, wS12, wA13, wS13, wA14, wS14, wA16, wS16, wA17, wS17, wA18, wS18, wA26, wS26, wA27, wS27, wZ28, wY28, wA29, wS29, wA30, wS30, wA31, wS31, wA32, wS32, wA33, wS33, wA34, wS34, wA35, wS35, wA36, wS36, wA38, wS38, wA39, wS39, wA40, wS40, wZ41, wY41, wA45, wS45, wA46, wS46, wZ47, wY47, wZ48, wY48, Nat.reduceEqDiff, reduceIte, false_and, true_and, and_true, and_self, if_false, if_true, and_false]
      rw [if_neg (by omega)]
      have hlt : x.toNat < (txt i).length := by omega
      refine ⟨hi, by omega, by omega, ⟨hi, by omega, by omega⟩, w_write (hR.le (by omega)) rfl ?_⟩
      rw [wp_ret (ih n _ (x + 1) (by omega) (by omega) (by omega) (hR.rest (l := [_]) (by simp) |>.le (by simp)))]
      rw [← wrs_app, show (x + 1).toNat = x.toNat + 1 by omega, List.drop_eq_getElem_cons hlt]
      simp [List.getD, hlt]
theorem m_writeWord {i : Nat} (hi : i < 19) (h : RmW W (txt i).length) : I12_writeWord i W = some ((), wrs (txt i) W) := by
  have hl := txt_le i hi
  have := m_writeWord_2 hi (txt i).length LFU W 0 (by unfold LFU; omega) (by omega) (by omega) h
  unfold I12_writeWord
  rw [this]
  rfl
/-- numbers below 100 -/
theorem m_writeNumber {a : Int} (h0 : 0 ≤ a) (h1 : a < 100) (h : RmW W (dgs a.toNat).length) : I12_writeNumber a W = some ((), wrs (dgs a.toNat) W) := by
  refine wp_eq ?_
  unfold I12_writeNumber I12_writeNumber_17 I12_writeNumber_37
  simp only [wp_ib, wp_ig, wp_ite, wp_ir, wp_igI, wp_ipI, wp_ipZ, wp_inz, wp_idI, wp_irI, wp_iSl, wp_iSc, wp_iSi, iu1_1, iu1_2, iu2_1, iu2_2, wA0, wS0, wA6, wS6, wA7, wS7, wA8, wS8, wA9, wS9, wA10, wS10, wA11, wS11, wA12, wS12, wA13, wS13, wA14, wS14, wA16, wS16, wA17, wS17, wA18, wS18, wA26, wS26, wA27, wS27, wZ28, wY28, wA29, wS29, wA30, wS30, wA31, wS31, wA32, wS32, wA33, wS33, wA34, wS34, wA35, wS35, wA36, wS36, wA38, wS38, wA39, wS39, wA40, wS40, wZ41, wY41, wA45, wS45, wA46, wS46, wZ47, wY47, wZ48, wY48, Nat.reduceEqDiff, reduceIte, false_and, true_and, and_true, and_self, if_false, if_true, and_false]
  unfold dgs at h ⊢
  rw [if_pos (by omega)]
  refine ⟨by omega, by omega, ?_⟩
  by_cases h9 : a ≤ 9
  · rw [if_pos h9]
    rw [if_pos (by omega)] at h ⊢
    refine ⟨by omega, ?_⟩
    refine w_write (n := 48 + a.toNat) (h.le (by simp)) ?_ rfl
    rw [Int.tdiv_eq_ediv_of_nonneg h0]
    omega
  · rw [if_neg h9]
    rw [if_neg (by omega)] at h ⊢
    have e1 : a.tdiv 10 = a / 10 := Int.tdiv_eq_ediv_of_nonneg h0
    have e2 : (a / 10).tdiv 10 = a / 10 / 10 := Int.tdiv_eq_ediv_of_nonneg (by omega)
    rw [e1, e2]
    refine ⟨by omega, by omega, ?_⟩
    refine w_write (n := 48 + a.toNat / 10) (h.le (by simp)) (by omega) ?_
    refine ⟨by omega, ?_⟩
    refine w_write (n := 48 + a.toNat % 10) (h.rest (l := [_]) (by simp) |>.le (by simp)) (by omega) ?_
    rw [← wrs_app]
    rfl
end WRI
/-! the texts of signs and names -/
def letA (n : Nat) : Nat := (txt 12).getD n 0
def sgnT (s : Int) : List Nat := if s ≤ 0 then txt 10 else if 70 ≤ s then txt 11 else List.replicate ((s.toNat - 1) / 23 + 1) (letA ((s.toNat - 1) % 23))
def namT (s i k : Int) : List Nat := sgnT s ++ (dgs i.toNat ++ (if k ≤ 0 then [] else 43 :: dgs k.toNat))
theorem dgs_le (n : Nat) : (dgs n).length ≤ 2 := by unfold dgs; split <;> simp
theorem txt10 : txt 10 = [112, 105] := by decide
theorem txt11 : txt 11 = [99, 104, 105] := by decide
theorem txt12 : (txt 12).length = 23 := by decide
theorem sgnT_0 {s : Int} (h : s ≤ 0) : sgnT s = txt 10 := if_pos h
theorem sgnT_70 {s : Int} (h : 70 ≤ s) : sgnT s = txt 11 := (if_neg (by omega)).trans (if_pos h)
theorem sgnT_m {s : Int} (h : 0 < s) (h1 : s < 70) : sgnT s = List.replicate ((s.toNat - 1) / 23 + 1) (letA ((s.toNat - 1) % 23)) := (if_neg (by omega)).trans (if_neg (by omega))
theorem sgnT_le {s : Int} (h : s ≤ 70) : (sgnT s).length ≤ 3 := by
  unfold sgnT
  split
  · rw [txt10]; decide
  · split
    · rw [txt11]; decide
    · rw [List.length_replicate]; omega
theorem namT_le {s i k : Int} (h : s ≤ 70) : (namT s i k).length ≤ 8 := by
  unfold namT
  have h1 := sgnT_le h
  have h2 := dgs_le i.toNat
  have h3 := dgs_le k.toNat
  rw [List.length_append, List.length_append]
  split
  · simp only [List.length_nil]; omega
  · simp only [List.length_cons]; omega
section WRI2
variable {W : IS}
theorem m_writeSign_30 {s : Int} (h0 : 0 < s) (h1 : s < 70) : ∀ (d n : Nat) (W : IS) (x : Int), d < n → 0 ≤ x → x + d = (s - 1) / 23 + 1 → RmW W d → I12_writeSign_30 n s x W = some ((), wrs (List.replicate d (letA ((s.toNat - 1) % 23))) W) := by
  intro d
  have e1 : (s - 1).tdiv 23 = (s - 1) / 23 := Int.tdiv_eq_ediv_of_nonneg (by omega)
  induction d with
  | zero =>
    intro n W x hn hx0 hx hR
    cases n with
    | zero => omega
    | succ n =>
      refine wp_eq ?_
      unfold I12_writeSign_30 I12_writeSign_30_st
      simp only [wp_ib, wp_ig, wp_ite, wp_ir, wp_igI, wp_ipI, wp_ipZ, wp_inz, wp_idI, wp_irI, wp_iSl, wp_iSc, wp_iSi, iu1_1, iu1_2, iu2_1, iu2_2, wA0, wS0, wA6, wS6, wA7, wS7, wA8, wS8, wA9, wS9, wA10, wS10, wA11, wS11, wA12, wS12, wA13, wS13, wA14, wS14, wA16, wS16, wA17, wS17, wA18, wS18, wA26, wS26, wA27, wS27, wZ28, wY28, wA29, wS29, wA30, wS30, wA31, wS31, wA32, wS32, wA33, wS33, wA34, wS34, wA35, wS35, wA36, wS36, wA38, wS38, wA39, wS39, wA40, wS40, wZ41, wY41, wA45, wS45, wA46, wS46, wZ47, wY47, wZ48, wY48, Nat.reduceEqDiff, reduceIte, false_and, true_and, and_true, and_self, if_false, if_true, and_false]
      rw [e1, if_pos (by omega)]
      exact ⟨by omega, by omega, by omega, rfl⟩
  | succ d ih =>
    intro n W x hn hx0 hx hR
    cases n with
    | zero => omega
    | succ n =>
      refine wp_eq ?_
      unfold I12_writeSign_30 I12_writeSign_30_st
      simp only [wp_ib, wp_ig, wp_ite, wp_ir, wp_igI, wp_ipI, wp_ipZ, wp_inz, wp_idI, wp_irI, wp_iSl, wp_iSc, wp_iSi, iu1_1, iu1_2, iu2_1, iu2_2, wA0, wS0, wA6, wS6, wA7, wS7, wA8, wS8, wA9, wS9, wA10, wS10, wA11, wS11, wA12, wS12, wA13, wS13, wA14, wS14, wA16, wS16, wA17, wS17, wA18, wS18, wA26, wS26, wA27, wS27, wZ28, wY28, wA29, wS29, wA30, wS30, wA31, wS31, wA32, wS32, wA33, wS33, wA34, wS34, wA35, wS35, wA36, wS36, wA38, wS38, wA39, wS39, wA40, wS40, wZ41, wY41, wA45, wS45, wA46, wS46, wZ47, wY47, wZ48, wY48, Nat.reduceEqDiff, reduceIte, false_and, true_and, and_true, and_self, if_false, if_true, and_false]
      rw [e1, if_neg (by omega), txt12]
      refine ⟨by omega, by omega, by omega, by omega, by omega, w_write (hR.le (by omega)) (n := letA ((s.toNat - 1) % 23)) ?_ ?_⟩
      · unfold letA
        congr 2
        omega
      · rw [wp_ret (ih n _ (x + 1) (by omega) (by omega) (by omega) (hR.rest (l := [_]) (by simp) |>.le (by simp)))]
        rw [← wrs_app]
        rfl
theorem m_writeSign {s : Int} (h0 : 0 ≤ s) (h1 : s ≤ 70) (h : RmW W (sgnT s).length) : I12_writeSign s W = some ((), wrs (sgnT s) W) := by
  refine wp_eq ?_
  unfold I12_writeSign
  simp only [wp_ib, wp_ig, wp_ite, wp_ir, wp_igI, wp_ipI, wp_ipZ, wp_inz, wp_idI, wp_irI, wp_iSl, wp_iSc, wp_iSi, iu1_1, iu1_2, iu2_1, iu2_2, wA0, wS0, wA6, wS6, wA7, wS7, wA8, wS8, wA9, wS9, wA10, wS10, wA11, wS11, wA12, wS12, wA13, wS13, wA14, wS14, wA16, wS16, wA17, wS17, wA18, wS18, wA26, wS26, wA27, wS27, wZ28, wY28, wA29, wS29, wA30, wS30, wA31, wS31, wA32, wS32, wA33, wS33, wA34, wS34, wA35, wS35, wA36, wS36, wA38, wS38, wA39, wS39, wA40, wS40, wZ41, wY41, wA45, wS45, wA46, wS46, wZ47, wY47, wZ48, wY48, Nat.reduceEqDiff, reduceIte, false_and, true_and, and_true, and_self, if_false, if_true, and_false]
  refine ⟨by omega, ?_⟩
  by_cases h2 : s = 0
  · rw [if_pos h2]
    rw [sgnT_0 (by omega)] at h ⊢
    rw [wp_ret (m_writeWord (by decide) h)]
  · rw [if_neg h2]
    by_cases h3 : s = 70
    · rw [if_pos h3]
      rw [sgnT_70 (by omega)] at h ⊢
      rw [wp_ret (m_writeWord (by decide) h)]
    · rw [if_neg h3]
      rw [sgnT_m (by omega) (by omega)] at h ⊢
      rw [List.length_replicate] at h
      rw [wp_ret (m_writeSign_30 (by omega) (by omega) ((s.toNat - 1) / 23 + 1) LFU W 0 (by unfold LFU; omega) (by omega) (by omega) h)]
end WRI2
