/-! ===== small answers of the model ===== -/
section MBA
variable {W : IS}
theorem m_isIn {a b c : Int} (ha : R32 a) (hb : R32 b) (hc : R32 c) : I12_isIn a b c W = some (if b ≤ a ∧ a ≤ c then 1 else 0, W) := by
  refine wp_eq ?_
  unfold I12_isIn
  simp only [wp_ib, wp_ig, wp_ite, wp_ir, wp_igI, wp_ipI, wp_ipZ, wp_inz, wp_idI, wp_irI, wp_iSl, wp_iSc, wp_iSi, iu1_1, iu1_2, iu2_1, iu2_2, wA0, wS0, wA6, wS6, wA7, wS7, wA8, wS8, wA9, wS9, wA10, wS10, wA11, wS11, wA12, wS12, wA13, wS13, wA14, wS14, wA16, wS16, wA17, wS17, wA18, wS18, wA26, wS26, wA27, wS27, wZ28, wY28, wA29, wS29, wA30, wS30, wA31, wS31, wA32, wS32, wA33, wS33, wA34, wS34, wA35, wS35, wA36, wS36, wA38, wS38, wA39, wS39, wA40, wS40, wZ41, wY41, wA45, wS45, wA46, wS46, wZ47, wY47, wZ48, wY48, Nat.reduceEqDiff, reduceIte, false_and, true_and, and_true, and_self, if_false, if_true, and_false]
  refine ⟨ha, hb, ?_⟩
  by_cases h1 : a < b
  · rw [if_pos h1, if_neg (by omega)]
    (first | done | exact ⟨rfl, rfl⟩ | exact ⟨trivial, rfl⟩ | exact ⟨rfl, trivial⟩ | rfl | trivial)
  · rw [if_neg h1]
    refine ⟨hc, ?_⟩
    by_cases h2 : c < a
    · rw [if_pos h2, if_neg (by omega)]
      (first | done | exact ⟨rfl, rfl⟩ | exact ⟨trivial, rfl⟩ | exact ⟨rfl, trivial⟩ | rfl | trivial)
    · rw [if_neg h2, if_pos (by omega)]
      (first | done | exact ⟨rfl, rfl⟩ | exact ⟨trivial, rfl⟩ | exact ⟨rfl, trivial⟩ | rfl | trivial)
theorem if01 {c : Prop} {d : Decidable c} : (if c then (1 : Int) else 0) = 0 ∨ (if c then (1 : Int) else 0) = 1 := by split <;> simp
theorem if0 {c : Prop} {d : Decidable c} : ((if c then (1 : Int) else 0) = 0) = ¬ c := by split <;> simp [*]
theorem ifR {c : Prop} {d : Decidable c} : R32 (if c then (1 : Int) else 0) := by split <;> decide
theorem m_isBook {a : Int} (ha : R32 a) (h0 : 0 ≤ W.1 5) (h8 : W.1 5 ≤ 8) : I12_isBook a W = some (if 0 ≤ a ∧ a < W.1 5 then 1 else 0, W) := by
  refine wp_eq ?_
  unfold I12_isBook
  simp only [wp_ib, wp_ig, wp_ite, wp_ir, wp_igI, wp_ipI, wp_ipZ, wp_inz, wp_idI, wp_irI, wp_iSl, wp_iSc, wp_iSi, iu1_1, iu1_2, iu2_1, iu2_2, wA0, wS0, wA6, wS6, wA7, wS7, wA8, wS8, wA9, wS9, wA10, wS10, wA11, wS11, wA12, wS12, wA13, wS13, wA14, wS14, wA16, wS16, wA17, wS17, wA18, wS18, wA26, wS26, wA27, wS27, wZ28, wY28, wA29, wS29, wA30, wS30, wA31, wS31, wA32, wS32, wA33, wS33, wA34, wS34, wA35, wS35, wA36, wS36, wA38, wS38, wA39, wS39, wA40, wS40, wZ41, wY41, wA45, wS45, wA46, wS46, wZ47, wY47, wZ48, wY48, Nat.reduceEqDiff, reduceIte, false_and, true_and, and_true, and_self, if_false, if_true, and_false]
  rw [wp_ret (m_isIn ha (by decide) (by omega))]
  refine ⟨if01, ?_, rfl⟩
  congr 1
  exact propext ⟨fun q => by omega, fun q => by omega⟩
theorem m_isCopy {a : Int} (ha : R32 a) (h0 : 0 ≤ W.1 15) (h8 : W.1 15 ≤ 16) : I12_isCopy a W = some (if 0 ≤ a ∧ a < W.1 15 then 1 else 0, W) := by
  refine wp_eq ?_
  unfold I12_isCopy
  simp only [wp_ib, wp_ig, wp_ite, wp_ir, wp_igI, wp_ipI, wp_ipZ, wp_inz, wp_idI, wp_irI, wp_iSl, wp_iSc, wp_iSi, iu1_1, iu1_2, iu2_1, iu2_2, wA0, wS0, wA6, wS6, wA7, wS7, wA8, wS8, wA9, wS9, wA10, wS10, wA11, wS11, wA12, wS12, wA13, wS13, wA14, wS14, wA16, wS16, wA17, wS17, wA18, wS18, wA26, wS26, wA27, wS27, wZ28, wY28, wA29, wS29, wA30, wS30, wA31, wS31, wA32, wS32, wA33, wS33, wA34, wS34, wA35, wS35, wA36, wS36, wA38, wS38, wA39, wS39, wA40, wS40, wZ41, wY41, wA45, wS45, wA46, wS46, wZ47, wY47, wZ48, wY48, Nat.reduceEqDiff, reduceIte, false_and, true_and, and_true, and_self, if_false, if_true, and_false]
  rw [wp_ret (m_isIn ha (by decide) (by omega))]
  refine ⟨if01, ?_, rfl⟩
  congr 1
  exact propext ⟨fun q => by omega, fun q => by omega⟩
theorem m_fine {a : Int} : I12_fine a W = some (a, iu1 W 2 0) := rfl
theorem m_no {a : Int} : I12_no a W = some (-9, iu1 W 2 a) := rfl
theorem m_spot {a b c : Int} : I12_spot a b c W = some (((a * 71) + b) * 13 + c, W) := rfl
theorem m_isLeaf {b p : Int} (hb : R32 b) (hp : R32 p) (h0 : 0 ≤ W.1 5) (h8 : W.1 5 ≤ 8) (hl : 0 ≤ b → b < W.1 5 → 0 ≤ W.2 11 b ∧ W.2 11 b ≤ 400) : I12_isLeaf b p W = some (if (0 ≤ b ∧ b < W.1 5) ∧ 0 ≤ p ∧ p < W.2 11 b then 1 else 0, W) := by
  refine wp_eq ?_
  unfold I12_isLeaf
  simp only [wp_ib, wp_ig, wp_ite, wp_ir, wp_igI, wp_ipI, wp_ipZ, wp_inz, wp_idI, wp_irI, wp_iSl, wp_iSc, wp_iSi, iu1_1, iu1_2, iu2_1, iu2_2, wA0, wS0, wA6, wS6, wA7, wS7, wA8, wS8, wA9, wS9, wA10, wS10, wA11, wS11, wA12, wS12, wA13, wS13, wA14, wS14, wA16, wS16, wA17, wS17, wA18, wS18, wA26, wS26, wA27, wS27, wZ28, wY28, wA29, wS29, wA30, wS30, wA31, wS31, wA32, wS32, wA33, wS33, wA34, wS34, wA35, wS35, wA36, wS36, wA38, wS38, wA39, wS39, wA40, wS40, wZ41, wY41, wA45, wS45, wA46, wS46, wZ47, wY47, wZ48, wY48, Nat.reduceEqDiff, reduceIte, false_and, true_and, and_true, and_self, if_false, if_true, and_false]
  rw [wp_ret (m_isBook hb h0 h8)]
  refine ⟨ifR, ?_⟩
  simp only [if0]
  by_cases h1 : 0 ≤ b ∧ b < W.1 5
  · have := hl h1.1 h1.2
    rw [if_neg (fun q => q h1)]
    refine ⟨by omega, ?_⟩
    rw [wp_ret (m_isIn hp (by decide) (by omega))]
    refine ⟨ifR, ?_⟩
    simp only [if0]
    by_cases h2 : 0 ≤ p ∧ p ≤ W.2 11 b - 1
    · rw [if_neg (fun q => q h2), if_pos ⟨h1, by omega⟩]
      (first | done | exact ⟨rfl, rfl⟩ | exact ⟨trivial, rfl⟩ | exact ⟨rfl, trivial⟩ | rfl | trivial)
    · rw [if_pos h2, if_neg (fun q => h2 (by omega))]
      (first | done | exact ⟨rfl, rfl⟩ | exact ⟨trivial, rfl⟩ | exact ⟨rfl, trivial⟩ | rfl | trivial)
  · rw [if_pos h1, if_neg (fun q => h1 q.1)]
    (first | done | exact ⟨rfl, rfl⟩ | exact ⟨trivial, rfl⟩ | exact ⟨rfl, trivial⟩ | rfl | trivial)
end MBA
/-! sums -/
def smz (f : Int → Int) : Nat → Int → Int
  | 0, _ => 0
  | d + 1, i => f i + smz f d (i + 1)
theorem smz_bd {f : Int → Int} {K : Int} : ∀ (d : Nat) (a : Int), (∀ i, a ≤ i → i < a + d → 0 ≤ f i ∧ f i ≤ K) → 0 ≤ smz f d a ∧ smz f d a ≤ K * d
  | 0, a, _ => by simp [smz]
  | d + 1, a, h => by
    have h1 := h a (by omega) (by omega)
    have h2 := smz_bd d (a + 1) fun i q1 q2 => h i (by omega) (by omega)
    show 0 ≤ f a + smz f d (a + 1) ∧ f a + smz f d (a + 1) ≤ K * ((d + 1 : Nat) : Int)
    have h3 : K * ((d + 1 : Nat) : Int) = K * d + K := by rw [Int.natCast_add, Int.mul_add]; simp
    omega
theorem smz_cg {f g : Int → Int} : ∀ (d : Nat) (a : Int), (∀ i, a ≤ i → i < a + d → f i = g i) → smz f d a = smz g d a
  | 0, a, _ => rfl
  | d + 1, a, h => by
    show f a + _ = g a + _
    rw [h a (by omega) (by omega), smz_cg d (a + 1) fun i q1 q2 => h i (by omega) (by omega)]
theorem smz_add {f g : Int → Int} : ∀ (d : Nat) (a : Int), smz (fun i => f i + g i) d a = smz f d a + smz g d a
  | 0, a => rfl
  | d + 1, a => by
    show f a + g a + smz _ d (a + 1) = (f a + smz f d (a + 1)) + (g a + smz g d (a + 1))
    rw [smz_add d]
    omega
theorem smz_sn {f : Int → Int} : ∀ (d : Nat) (a : Int), smz f (d + 1) a = smz f d a + f (a + d)
  | 0, a => by simp [smz]
  | d + 1, a => by
    show f a + smz f (d + 1) (a + 1) = (f a + smz f d (a + 1)) + f (a + ((d + 1 : Nat) : Int))
    rw [smz_sn d (a + 1), show a + 1 + (d : Int) = a + ((d + 1 : Nat) : Int) by omega]
    omega
/-! ===== sheets ===== -/
def shI (n i f : Int) : Int := (if n - i < i - 1 then n - i else i - 1).tdiv (f.tdiv 2)
def fmt (f : Int) : Prop := f = 2 ∨ f = 4 ∨ f = 8
theorem shI_bd {n i f : Int} (hf : fmt f) (h1 : 1 ≤ i) (h2 : i ≤ n) (h3 : n ≤ 12) : 0 ≤ shI n i f ∧ shI n i f ≤ 12 := by
  unfold shI
  have hm : 0 ≤ (if n - i < i - 1 then n - i else i - 1) ∧ (if n - i < i - 1 then n - i else i - 1) ≤ 12 := by split <;> omega
  revert hm
  generalize (if n - i < i - 1 then n - i else i - 1) = m
  intro hm
  have h : m.tdiv (f.tdiv 2) = m / (f.tdiv 2) := Int.tdiv_eq_ediv_of_nonneg hm.1
  rw [h]
  rcases hf with e | e | e <;> subst e
  · show 0 ≤ m / 1 ∧ m / 1 ≤ 12; omega
  · show 0 ≤ m / 2 ∧ m / 2 ≤ 12; omega
  · show 0 ≤ m / 4 ∧ m / 4 ≤ 12; omega
theorem fmt_2 {f : Int} (hf : fmt f) : 1 ≤ f.tdiv 2 ∧ f.tdiv 2 ≤ 4 ∧ -2147483648 < f ∧ f < 2147483648 := by
  rcases hf with e | e | e <;> subst e <;> decide
theorem hlf {n : Int} (h1 : 1 ≤ n) (h2 : n ≤ 12) : 1 ≤ (n + 1).tdiv 2 ∧ (n + 1).tdiv 2 ≤ n := by
  rw [Int.tdiv_eq_ediv_of_nonneg (by omega)]
  omega
/-- which of those on its sheet -/
def rkI (n i f : Int) : Int := smz (fun j => if shI n j f = shI n i f then 1 else 0) i.toNat 1
def shsI (n f : Int) : Int := shI n ((n + 1).tdiv 2) f + 1
theorem rkI_bd {n i f : Int} (h1 : 1 ≤ i) (h2 : i ≤ 12) : 1 ≤ rkI n i f ∧ rkI n i f ≤ 12 := by
  unfold rkI
  have hi : i.toNat = (i.toNat - 1) + 1 := by omega
  have hb := smz_bd (f := fun j => if shI n j f = shI n i f then 1 else 0) (K := 1) (i.toNat - 1) 1 (fun j _ _ => by show 0 ≤ (if shI n j f = shI n i f then 1 else 0) ∧ (if shI n j f = shI n i f then 1 else 0) ≤ 1; split <;> omega)
  rw [hi, smz_sn, if_pos (congrArg (fun q => shI n q f) (by omega))]
  omega
section SHM
variable {W : IS}
theorem m_isFormat {f : Int} (h : R32 f) : I12_isFormat f W = some (if f = 2 ∨ f = 4 ∨ f = 8 then 1 else 0, W) := by
  refine wp_eq ?_
  unfold I12_isFormat
  simp only [wp_ib, wp_ig, wp_ite, wp_ir, wp_igI, wp_ipI, wp_ipZ, wp_inz, wp_idI, wp_irI, wp_iSl, wp_iSc, wp_iSi, iu1_1, iu1_2, iu2_1, iu2_2, wA0, wS0, wA6, wS6, wA7, wS7, wA8, wS8, wA9, wS9, wA10, wS10, wA11, wS11, wA12, wS12, wA13, wS13, wA14, wS14, wA16, wS16, wA17, wS17, wA18, wS18, wA26, wS26, wA27, wS27, wZ28, wY28, wA29, wS29, wA30, wS30, wA31, wS31, wA32, wS32, wA33, wS33, wA34, wS34, wA35, wS35, wA36, wS36, wA38, wS38, wA39, wS39, wA40, wS40, wZ41, wY41, wA45, wS45, wA46, wS46, wZ47, wY47, wZ48, wY48, Nat.reduceEqDiff, reduceIte, false_and, true_and, and_true, and_self, if_false, if_true, and_false]
  refine ⟨h, ?_⟩
  by_cases h2 : f = 2
  · rw [if_pos h2, if_pos (Or.inl h2)]; (first | done | exact ⟨rfl, rfl⟩ | exact ⟨trivial, rfl⟩ | exact ⟨rfl, trivial⟩ | rfl | trivial)
  · rw [if_neg h2]
    by_cases h4 : f = 4
    · rw [if_pos h4, if_pos (Or.inr (Or.inl h4))]; (first | done | exact ⟨rfl, rfl⟩ | exact ⟨trivial, rfl⟩ | exact ⟨rfl, trivial⟩ | rfl | trivial)
    · rw [if_neg h4]
      by_cases h8 : f = 8
      · rw [if_pos h8, if_pos (Or.inr (Or.inr h8))]; (first | done | exact ⟨rfl, rfl⟩ | exact ⟨trivial, rfl⟩ | exact ⟨rfl, trivial⟩ | rfl | trivial)
      · rw [if_neg h8, if_neg (by omega)]; (first | done | exact ⟨rfl, rfl⟩ | exact ⟨trivial, rfl⟩ | exact ⟨rfl, trivial⟩ | rfl | trivial)
theorem m_sheetOf {n i f : Int} (hf : fmt f) (h1 : 1 ≤ i) (h2 : i ≤ n) (h3 : n ≤ 12) : I12_sheetOf n i f W = some (shI n i f, W) := by
  have h := fmt_2 hf
  refine wp_eq ?_
  unfold I12_sheetOf
  simp only [wp_ib, wp_ig, wp_ite, wp_ir, wp_igI, wp_ipI, wp_ipZ, wp_inz, wp_idI, wp_irI, wp_iSl, wp_iSc, wp_iSi, iu1_1, iu1_2, iu2_1, iu2_2, wA0, wS0, wA6, wS6, wA7, wS7, wA8, wS8, wA9, wS9, wA10, wS10, wA11, wS11, wA12, wS12, wA13, wS13, wA14, wS14, wA16, wS16, wA17, wS17, wA18, wS18, wA26, wS26, wA27, wS27, wZ28, wY28, wA29, wS29, wA30, wS30, wA31, wS31, wA32, wS32, wA33, wS33, wA34, wS34, wA35, wS35, wA36, wS36, wA38, wS38, wA39, wS39, wA40, wS40, wZ41, wY41, wA45, wS45, wA46, wS46, wZ47, wY47, wZ48, wY48, Nat.reduceEqDiff, reduceIte, false_and, true_and, and_true, and_self, if_false, if_true, and_false]
  have hm : 0 ≤ (if n - i < i - 1 then n - i else i - 1) ∧ (if n - i < i - 1 then n - i else i - 1) ≤ 12 := by split <;> omega
  unfold shI
  ((repeat' apply And.intro) <;> first | omega | rfl | trivial | assumption | (simp [smz]; done) | skip)
theorem m_sheetsOf {n f : Int} (hf : fmt f) (h1 : 1 ≤ n) (h3 : n ≤ 12) : I12_sheetsOf n f W = some (shsI n f, W) := by
  have h := hlf h1 h3
  refine wp_eq ?_
  unfold I12_sheetsOf
  simp only [wp_ib, wp_ig, wp_ite, wp_ir, wp_igI, wp_ipI, wp_ipZ, wp_inz, wp_idI, wp_irI, wp_iSl, wp_iSc, wp_iSi, iu1_1, iu1_2, iu2_1, iu2_2, wA0, wS0, wA6, wS6, wA7, wS7, wA8, wS8, wA9, wS9, wA10, wS10, wA11, wS11, wA12, wS12, wA13, wS13, wA14, wS14, wA16, wS16, wA17, wS17, wA18, wS18, wA26, wS26, wA27, wS27, wZ28, wY28, wA29, wS29, wA30, wS30, wA31, wS31, wA32, wS32, wA33, wS33, wA34, wS34, wA35, wS35, wA36, wS36, wA38, wS38, wA39, wS39, wA40, wS40, wZ41, wY41, wA45, wS45, wA46, wS46, wZ47, wY47, wZ48, wY48, Nat.reduceEqDiff, reduceIte, false_and, true_and, and_true, and_self, if_false, if_true, and_false]
  rw [wp_ret (m_sheetOf hf h.1 h.2 h3)]
  exact ⟨by omega, rfl, rfl⟩
theorem m_numberOn_5 {n i f : Int} (hf : fmt f) (h1 : 1 ≤ i) (h2 : i ≤ n) (h3 : n ≤ 12) : ∀ (d k : Nat) (a j : Int), d < k → 1 ≤ j → j + d = i + 1 → I12_numberOn_5 k n i f a j W = some (a + smz (fun j => if shI n j f = shI n i f then 1 else 0) d j, W) := by
  intro d
  induction d with
  | zero =>
    intro k a j hk hj hd
    cases k with
    | zero => omega
    | succ k =>
      refine wp_eq ?_
      unfold I12_numberOn_5 I12_numberOn_5_st
      simp only [wp_ib, wp_ig, wp_ite, wp_ir, wp_igI, wp_ipI, wp_ipZ, wp_inz, wp_idI, wp_irI, wp_iSl, wp_iSc, wp_iSi, iu1_1, iu1_2, iu2_1, iu2_2, wA0, wS0, wA6, wS6, wA7, wS7, wA8, wS8, wA9, wS9, wA10, wS10, wA11, wS11, wA12, wS12, wA13, wS13, wA14, wS14, wA16, wS16, wA17, wS17, wA18, wS18, wA26, wS26, wA27, wS27, wZ28, wY28, wA29, wS29, wA30, wS30, wA31, wS31, wA32, wS32, wA33, wS33, wA34, wS34, wA35, wS35, wA36, wS36, wA38, wS38, wA39, wS39, wA40, wS40, wZ41, wY41, wA45, wS45, wA46, wS46, wZ47, wY47, wZ48, wY48, Nat.reduceEqDiff, reduceIte, false_and, true_and, and_true, and_self, if_false, if_true, and_false]
      rw [if_pos (by omega)]
      ((repeat' apply And.intro) <;> first | omega | rfl | trivial | assumption | (simp [smz]; done) | skip)
  | succ d ih =>
    intro k a j hk hj hd
    cases k with
    | zero => omega
    | succ k =>
      have hb1 := shI_bd hf hj (by omega : j ≤ n) h3
      have hb2 := shI_bd hf h1 h2 h3
      refine wp_eq ?_
      unfold I12_numberOn_5 I12_numberOn_5_st I12_numberOn_33
      simp only [wp_ib, wp_ig, wp_ite, wp_ir, wp_igI, wp_ipI, wp_ipZ, wp_inz, wp_idI, wp_irI, wp_iSl, wp_iSc, wp_iSi, iu1_1, iu1_2, iu2_1, iu2_2, wA0, wS0, wA6, wS6, wA7, wS7, wA8, wS8, wA9, wS9, wA10, wS10, wA11, wS11, wA12, wS12, wA13, wS13, wA14, wS14, wA16, wS16, wA17, wS17, wA18, wS18, wA26, wS26, wA27, wS27, wZ28, wY28, wA29, wS29, wA30, wS30, wA31, wS31, wA32, wS32, wA33, wS33, wA34, wS34, wA35, wS35, wA36, wS36, wA38, wS38, wA39, wS39, wA40, wS40, wZ41, wY41, wA45, wS45, wA46, wS46, wZ47, wY47, wZ48, wY48, Nat.reduceEqDiff, reduceIte, false_and, true_and, and_true, and_self, if_false, if_true, and_false]
      rw [if_neg (by omega), wp_ret (m_sheetOf hf hj (by omega) h3), wp_ret (m_sheetOf hf h1 h2 h3)]
      refine ⟨by omega, by omega, by omega, by omega, ?_⟩
      rw [wp_ret (ih k (a + 1) (j + 1) (by omega) (by omega) (by omega)), wp_ret (ih k (a + 0) (j + 1) (by omega) (by omega) (by omega))]
      have e : smz (fun j => if shI n j f = shI n i f then (1 : Int) else 0) (d + 1) j = (if shI n j f = shI n i f then 1 else 0) + smz (fun j => if shI n j f = shI n i f then 1 else 0) d (j + 1) := rfl
      rw [e]
      split
      · exact ⟨by omega, rfl⟩
      · exact ⟨by omega, rfl⟩
theorem m_numberOn {n i f : Int} (hf : fmt f) (h1 : 1 ≤ i) (h2 : i ≤ n) (h3 : n ≤ 12) : I12_numberOn n i f W = some (rkI n i f, W) := by
  unfold I12_numberOn
  rw [m_numberOn_5 hf h1 h2 h3 i.toNat LFU 0 1 (by unfold LFU; omega) (by omega) (by omega), Int.zero_add]
  rfl
theorem m_sheets_32 {b f : Int} (hf : fmt f) (hb0 : 0 ≤ b) (hb8 : b < 8) (hg : W.2 6 b ≤ 71) (hz : ∀ g, 0 ≤ g → g < W.2 6 b → 1 ≤ W.2 8 (b * 71 + g) ∧ W.2 8 (b * 71 + g) ≤ 12) : ∀ (d k : Nat) (a g : Int), d < k → 0 ≤ g → g + d = W.2 6 b → I12_sheets_32 k b f a g W = some (a + smz (fun g => shsI (W.2 8 (b * 71 + g)) f) d g, iu1 W 2 0) := by
  intro d
  induction d with
  | zero =>
    intro k a g hk h0 hd
    cases k with
    | zero => omega
    | succ k =>
      refine wp_eq ?_
      unfold I12_sheets_32 I12_sheets_32_st I12_sheets_68
      simp only [wp_ib, wp_ig, wp_ite, wp_ir, wp_igI, wp_ipI, wp_ipZ, wp_inz, wp_idI, wp_irI, wp_iSl, wp_iSc, wp_iSi, iu1_1, iu1_2, iu2_1, iu2_2, wA0, wS0, wA6, wS6, wA7, wS7, wA8, wS8, wA9, wS9, wA10, wS10, wA11, wS11, wA12, wS12, wA13, wS13, wA14, wS14, wA16, wS16, wA17, wS17, wA18, wS18, wA26, wS26, wA27, wS27, wZ28, wY28, wA29, wS29, wA30, wS30, wA31, wS31, wA32, wS32, wA33, wS33, wA34, wS34, wA35, wS35, wA36, wS36, wA38, wS38, wA39, wS39, wA40, wS40, wZ41, wY41, wA45, wS45, wA46, wS46, wZ47, wY47, wZ48, wY48, Nat.reduceEqDiff, reduceIte, false_and, true_and, and_true, and_self, if_false, if_true, and_false]
      rw [if_pos (by omega), wp_ret m_fine]
      ((repeat' apply And.intro) <;> first | omega | rfl | trivial | assumption | (simp [smz]; done) | skip)
  | succ d ih =>
    intro k a g hk h0 hd
    cases k with
    | zero => omega
    | succ k =>
      have hz1 := hz g h0 (by omega)
      refine wp_eq ?_
      unfold I12_sheets_32 I12_sheets_32_st
      simp only [wp_ib, wp_ig, wp_ite, wp_ir, wp_igI, wp_ipI, wp_ipZ, wp_inz, wp_idI, wp_irI, wp_iSl, wp_iSc, wp_iSi, iu1_1, iu1_2, iu2_1, iu2_2, wA0, wS0, wA6, wS6, wA7, wS7, wA8, wS8, wA9, wS9, wA10, wS10, wA11, wS11, wA12, wS12, wA13, wS13, wA14, wS14, wA16, wS16, wA17, wS17, wA18, wS18, wA26, wS26, wA27, wS27, wZ28, wY28, wA29, wS29, wA30, wS30, wA31, wS31, wA32, wS32, wA33, wS33, wA34, wS34, wA35, wS35, wA36, wS36, wA38, wS38, wA39, wS39, wA40, wS40, wZ41, wY41, wA45, wS45, wA46, wS46, wZ47, wY47, wZ48, wY48, Nat.reduceEqDiff, reduceIte, false_and, true_and, and_true, and_self, if_false, if_true, and_false]
      rw [if_neg (by omega), wp_ret (m_sheetsOf hf hz1.1 hz1.2), wp_ret (ih k _ (g + 1) (by omega) (by omega) (by omega))]
      refine ⟨by omega, by omega, by omega, by omega, ?_, rfl⟩
      show _ = a + (shsI (W.2 8 (b * 71 + g)) f + _)
      omega
end SHM
