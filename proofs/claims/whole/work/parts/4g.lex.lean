/-! ===== pieces of a text: what they are, and the model's next() ===== -/
abbrev isLt (c : Int) : Prop := 97 ≤ c ∧ c ≤ 122
abbrev isDg (c : Int) : Prop := 48 ≤ c ∧ c ≤ 57
abbrev isMk (c : Int) : Prop := c = 40 ∨ c = 41 ∨ c = 44 ∨ c = 45 ∨ c = 43 ∨ c = 61
def blk (T : Int → Int) : Nat → Int → Int
  | 0, p => p
  | d + 1, p => if T p = 32 then blk T d (p + 1) else p
def spL (T : Int → Int) : Nat → Int → Int
  | 0, p => p
  | d + 1, p => if isLt (T p) then spL T d (p + 1) else p
def spD (T : Int → Int) : Nat → Int → Int
  | 0, p => p
  | d + 1, p => if isDg (T p) then spD T d (p + 1) else p
def bl (T : Int → Int) (n p : Int) : Int := blk T (n - p).toNat p
def wen (T : Int → Int) (n p : Int) : Int := if isLt (T p) then spL T (n - p).toNat p else if isDg (T p) then spD T (n - p).toNat p else p + 1
/-- the number of digits one behind the other -/
def valN (T : Int → Int) : Nat → Int → Int → Int
  | 0, _, a => a
  | d + 1, p, a => valN T d (p + 1) (10 * a + T p - 48)
/-- a word's sign, -1 if it is none -/
def sgW (T : Int → Int) (p w : Int) : Int :=
  if w = 2 ∧ T p = 112 ∧ T (p + 1) = 105 then 0
  else if w = 3 ∧ T p = 99 ∧ T (p + 1) = 104 ∧ T (p + 2) = 105 then 70
  else if 0 ≤ idxZ (txt 12) (T p).toNat ∧ w ≤ 3 ∧ (2 ≤ w → T (p + 1) = T p) ∧ (3 ≤ w → T (p + 2) = T p) then (w - 1) * 23 + idxZ (txt 12) (T p).toNat + 1
  else -1
/-- kind (0 end, 1 sign, 2 number, 3 none, else the mark) and value of the piece at a place -/
def kdP (T : Int → Int) (n p : Int) : Int :=
  if n ≤ p then 0 else if isLt (T p) then (if sgW T p (wen T n p - p) < 0 then 3 else 1) else if isDg (T p) then (if wen T n p - p ≤ 3 then 2 else 3) else if isMk (T p) then T p else 3
def vlP (T : Int → Int) (n p : Int) : Int :=
  if n ≤ p then 0 else if isLt (T p) then sgW T p (wen T n p - p) else if isDg (T p) ∧ wen T n p - p ≤ 3 then valN T (wen T n p - p).toNat p 0 else 0
def enP (T : Int → Int) (n p : Int) : Int := if n ≤ p then p else wen T n p
/-- where the j-th piece begins -/
def tkP (T : Int → Int) (n : Int) : Nat → Int
  | 0 => bl T n 0
  | j + 1 => bl T n (enP T n (tkP T n j))
def byt (T : Int → Int) (n : Int) : Prop := (0 ≤ n ∧ n ≤ 120) ∧ ∀ i, 0 ≤ i → i < n → 0 ≤ T i ∧ T i ≤ 255
section LEX
variable {T : Int → Int} {n : Int}
theorem blk_bd : ∀ (d : Nat) (p : Int), p ≤ blk T d p ∧ blk T d p ≤ p + d
  | 0, p => by unfold blk; omega
  | d + 1, p => by
    have := blk_bd d (p + 1)
    unfold blk
    split <;> omega
theorem bl_bd {p : Int} (h : p ≤ n) : p ≤ bl T n p ∧ bl T n p ≤ n := by
  have := blk_bd (T := T) (n - p).toNat p
  unfold bl
  omega
theorem bl_sp {p : Int} (h : p < n) (h2 : T p = 32) : bl T n p = bl T n (p + 1) := by
  unfold bl
  rw [show (n - p).toNat = (n - (p + 1)).toNat + 1 by omega]
  show (if T p = 32 then _ else _) = _
  rw [if_pos h2]
theorem bl_no {p : Int} (h2 : p < n → T p ≠ 32) : bl T n p = p := by
  unfold bl
  by_cases h : p < n
  · rw [show (n - p).toNat = (n - (p + 1)).toNat + 1 by omega]
    show (if T p = 32 then _ else _) = _
    rw [if_neg (h2 h)]
  · rw [show (n - p).toNat = 0 by omega]
    rfl
theorem spL_bd : ∀ (d : Nat) (p : Int), p ≤ spL T d p ∧ spL T d p ≤ p + d
  | 0, p => by unfold spL; omega
  | d + 1, p => by
    have := spL_bd d (p + 1)
    unfold spL
    split <;> omega
theorem spD_bd : ∀ (d : Nat) (p : Int), p ≤ spD T d p ∧ spD T d p ≤ p + d
  | 0, p => by unfold spD; omega
  | d + 1, p => by
    have := spD_bd d (p + 1)
    unfold spD
    split <;> omega
theorem wen_bd {p : Int} (h : p < n) : p + 1 ≤ wen T n p ∧ wen T n p ≤ n := by
  unfold wen
  split
  · rename_i hl
    rw [show (n - p).toNat = (n - (p + 1)).toNat + 1 by omega]
    show p + 1 ≤ (if isLt (T p) then _ else _) ∧ (if isLt (T p) then _ else _) ≤ n
    rw [if_pos hl]
    have := spL_bd (T := T) (n - (p + 1)).toNat (p + 1)
    omega
  · split
    · rename_i hl
      rw [show (n - p).toNat = (n - (p + 1)).toNat + 1 by omega]
      show p + 1 ≤ (if isDg (T p) then _ else _) ∧ (if isDg (T p) then _ else _) ≤ n
      rw [if_pos hl]
      have := spD_bd (T := T) (n - (p + 1)).toNat (p + 1)
      omega
    · omega
theorem enP_bd {p : Int} (h : p ≤ n) : p ≤ enP T n p ∧ enP T n p ≤ n := by
  unfold enP
  split
  · omega
  · have := wen_bd (T := T) (n := n) (p := p) (by omega)
    omega
theorem tkP_bd (h : 0 ≤ n) : ∀ j, 0 ≤ tkP T n j ∧ tkP T n j ≤ n
  | 0 => bl_bd h
  | j + 1 => by
    have h1 := tkP_bd h j
    have h2 := enP_bd (T := T) h1.2
    have h3 := bl_bd (T := T) h2.2
    show 0 ≤ bl T n _ ∧ bl T n _ ≤ n
    omega
theorem tkP_lt (h : 0 ≤ n) {j : Nat} (h1 : (j : Int) ≤ tkP T n j) (h2 : tkP T n j < n) : ((j + 1 : Nat) : Int) ≤ tkP T n (j + 1) := by
  have h3 : enP T n (tkP T n j) = wen T n (tkP T n j) := if_neg (by omega)
  have h4 := wen_bd (T := T) h2
  have h5 := bl_bd (T := T) (n := n) (p := wen T n (tkP T n j)) h4.2
  show _ ≤ bl T n (enP T n (tkP T n j))
  rw [h3]
  omega
theorem kd0 {p : Int} : kdP T n p = 0 → n ≤ p := by
  intro h
  unfold kdP at h
  split at h
  · assumption
  · split at h
    · split at h <;> omega
    · split at h
      · split at h <;> omega
      · split at h <;> omega
theorem idxZ_bd (c : Nat) : -1 ≤ idxZ (txt 12) c ∧ idxZ (txt 12) c ≤ 22 := by
  have := txt12
  unfold idxZ
  split <;> omega
theorem sgW_bd (p w : Int) (hw : 1 ≤ w) : -1 ≤ sgW T p w ∧ sgW T p w ≤ 70 := by
  have h := idxZ_bd (T p).toNat
  unfold sgW
  split
  · omega
  · split
    · omega
    · split <;> omega
theorem valN_bd (hT : byt T n) : ∀ (d : Nat) (p a K : Int), 0 ≤ p → p + d ≤ n → (∀ i, p ≤ i → i < p + d → isDg (T i)) → 0 ≤ a → a ≤ K → 0 ≤ valN T d p a ∧ valN T d p a ≤ K * 10 ^ d + 10 ^ d - 1
  | 0, p, a, K, _, _, _, h0, h1 => by unfold valN; simp; omega
  | d + 1, p, a, K, hp, hd, hT2, h0, h1 => by
    have hd1 := hT2 p (by omega) (by omega)
    have := valN_bd hT d (p + 1) (10 * a + T p - 48) (10 * K + 9) (by omega) (by omega) (fun i q1 q2 => hT2 i (by omega) (by omega)) (by omega) (by omega)
    unfold valN
    refine ⟨this.1, Int.le_trans this.2 ?_⟩
    rw [Int.pow_succ, Int.add_mul]
    have e : 10 * K * 10 ^ d = K * (10 ^ d * 10) := by rw [Int.mul_comm 10 K, Int.mul_assoc, Int.mul_comm 10]
    omega
theorem spD_dg : ∀ (d : Nat) (p i : Int), p ≤ i → i < spD T d p → isDg (T i)
  | 0, p, i, h, h1 => by unfold spD at h1; omega
  | d + 1, p, i, h, h1 => by
    unfold spD at h1
    split at h1
    · rename_i hc
      by_cases e : i = p
      · rw [e]; exact hc
      · exact spD_dg d (p + 1) i (by omega) h1
    · omega
theorem vlP_bd (hT : byt T n) {p : Int} (h0 : 0 ≤ p) : -1 ≤ vlP T n p ∧ vlP T n p ≤ 999 := by
  unfold vlP
  split
  · omega
  · rename_i hp
    have hw := wen_bd (T := T) (n := n) (p := p) (by omega)
    split
    · have := sgW_bd (T := T) p (wen T n p - p) (by omega)
      omega
    · rename_i hl
      split
      · rename_i hd
        have e : wen T n p = spD T (n - p).toNat p := by unfold wen; rw [if_neg hl, if_pos hd.1]
        have hdg := spD_dg (T := T) (n - p).toNat p
        have hb := valN_bd hT (wen T n p - p).toNat p 0 0 h0 (by omega) (fun i q1 q2 => hdg i q1 (by rw [← e]; omega)) (by omega) (by omega)
        have h3 : (wen T n p - p).toNat = 1 ∨ (wen T n p - p).toNat = 2 ∨ (wen T n p - p).toNat = 3 := by omega
        rcases h3 with e3 | e3 | e3 <;> rw [e3] at hb ⊢
        · have : (10 : Int) ^ 1 = 10 := rfl
          omega
        · have : (10 : Int) ^ 2 = 100 := rfl
          omega
        · have : (10 : Int) ^ 3 = 1000 := rfl
          omega
      · omega
theorem kdP_bd (hT : byt T n) {p : Int} (h0 : 0 ≤ p) : 0 ≤ kdP T n p ∧ kdP T n p ≤ 61 := by
  unfold kdP
  split
  · omega
  · split
    · split <;> omega
    · split
      · split <;> omega
      · split <;> omega
end LEX
/-! the model's -/
def tkM (k : Int) : Int := if k = 0 then 0 else if k = 1 then 2 else if k = 2 then 3 else if k = 3 then 1 else 4
/-- the model has read the piece at p -/
def LxP (W : IS) (p : Int) : Prop := W.1 20 = p ∧ W.1 19 = enP (W.2 0) (W.1 1) p ∧ W.1 21 = tkM (kdP (W.2 0) (W.1 1) p) ∧ (kdP (W.2 0) (W.1 1) p = 1 ∨ kdP (W.2 0) (W.1 1) p = 2 → W.1 22 = vlP (W.2 0) (W.1 1) p) ∧ (4 ≤ kdP (W.2 0) (W.1 1) p → W.1 22 = kdP (W.2 0) (W.1 1) p)
/-- only the reader's own numbers change -/
def FrX (W W' : IS) : Prop := W'.2 = W.2 ∧ ∀ k, k < 19 ∨ 22 < k → W'.1 k = W.1 k
section LXM
variable {W : IS} {Q : Unit → IS → Prop}
theorem FrX.trans {W1 W2 W3 : IS} (h : FrX W1 W2) (h' : FrX W2 W3) : FrX W1 W3 := ⟨h'.1.trans h.1, fun k q => (h'.2 k q).trans (h.2 k q)⟩
theorem FrX.refl : FrX W W := ⟨rfl, fun _ _ => rfl⟩
theorem FrX.u {k : Nat} {x : Int} (h : 19 ≤ k ∧ k ≤ 22) : FrX W (iu1 W k x) := ⟨rfl, fun j hj => if_neg (by omega)⟩
theorem LxP.fr {W' : IS} {p : Int} (h : LxP W p) (h0 : W'.2 0 = W.2 0) (h1 : W'.1 1 = W.1 1) (h2 : ∀ k, 19 ≤ k → k ≤ 22 → W'.1 k = W.1 k) : LxP W' p := by
  unfold LxP at h ⊢
  rw [h0, h1, h2 19 (by omega) (by omega), h2 20 (by omega) (by omega), h2 21 (by omega) (by omega), h2 22 (by omega) (by omega)]
  exact h
/-- a whole word's letters -/
theorem m_next_89 (hT : byt (W.2 0) (W.1 1)) (hk : ∀ W', FrX W W' → W'.1 20 = W.1 20 → W'.1 19 = spL (W.2 0) (W.1 1 - W.1 19).toNat (W.1 19) → wp I12_next_132 Q W') : ∀ (d m : Nat) (W1 : IS), d < m → FrX W W1 → W1.1 20 = W.1 20 → 0 ≤ W1.1 19 → W1.1 19 + d = W.1 1 → spL (W.2 0) d (W1.1 19) = spL (W.2 0) (W.1 1 - W.1 19).toNat (W.1 19) → wp (I12_next_89 m) Q W1 := by
  intro d
  induction d with
  | zero =>
    intro m W1 hm hF h20 h19 hd hs
    cases m with
    | zero => omega
    | succ m =>
      unfold I12_next_89 I12_next_89_st
      have e1 : W1.1 1 = W.1 1 := hF.2 1 (by omega)
      simp only [wp_ib, wp_ig, wp_ite, wp_ir, wp_igI, wp_ipI, wp_ipZ, wp_inz, wp_idI, wp_irI, wp_iSl, wp_iSc, wp_iSi, iu1_1, iu1_2, iu2_1, iu2_2, wA0, wS0, wA6, wS6, wA7, wS7, wA8, wS8, wA9, wS9, wA10, wS10, wA11, wS11, wA12, wS12, wA13, wS13, wA14, wS14, wA16, wS16, wA17, wS17, wA18, wS18, wA26, wS26, wA27, wS27, wZ28, wY28, wA29, wS29, wA30, wS30, wA31, wS31, wA32, wS32, wA33, wS33, wA34, wS34, wA35, wS35, wA36, wS36, wA38, wS38, wA39, wS39, wA40, wS40, wZ41, wY41, wA45, wS45, wA46, wS46, wZ47, wY47, wZ48, wY48, Nat.reduceEqDiff, reduceIte, false_and, true_and, and_true, and_self, if_false, if_true, and_false]
      rw [e1, if_pos (by omega)]
      have hn := hT.1
      exact ⟨by omega, by omega, hk W1 hF h20 hs⟩
  | succ d ih =>
    intro m W1 hm hF h20 h19 hd hs
    cases m with
    | zero => omega
    | succ m =>
      have e1 : W1.1 1 = W.1 1 := hF.2 1 (by omega)
      have hn := hT.1
      have hb := hT.2 (W1.1 19) h19 (by omega)
      have es : spL (W.2 0) (d + 1) (W1.1 19) = if isLt (W.2 0 (W1.1 19)) then spL (W.2 0) d (W1.1 19 + 1) else W1.1 19 := rfl
      rw [es] at hs
      unfold I12_next_89 I12_next_89_st
      simp only [wp_ib, wp_ig, wp_ite, wp_ir, wp_igI, wp_ipI, wp_ipZ, wp_inz, wp_idI, wp_irI, wp_iSl, wp_iSc, wp_iSi, iu1_1, iu1_2, iu2_1, iu2_2, wA0, wS0, wA6, wS6, wA7, wS7, wA8, wS8, wA9, wS9, wA10, wS10, wA11, wS11, wA12, wS12, wA13, wS13, wA14, wS14, wA16, wS16, wA17, wS17, wA18, wS18, wA26, wS26, wA27, wS27, wZ28, wY28, wA29, wS29, wA30, wS30, wA31, wS31, wA32, wS32, wA33, wS33, wA34, wS34, wA35, wS35, wA36, wS36, wA38, wS38, wA39, wS39, wA40, wS40, wZ41, wY41, wA45, wS45, wA46, wS46, wZ47, wY47, wZ48, wY48, Nat.reduceEqDiff, reduceIte, false_and, true_and, and_true, and_self, if_false, if_true, and_false]
      rw [e1, if_neg (by omega), hF.1, wp_ret (m_isIn (by omega) (by decide) (by decide))]
      refine ⟨by omega, by omega, by omega, ifR, ?_⟩
      by_cases c : isLt (W.2 0 (W1.1 19))
      · rw [if_pos c] at hs
        rw [if_pos c, if_neg (by decide)]
        exact ih m (iu1 W1 19 (W1.1 19 + 1)) (by omega) (hF.trans (FrX.u (by omega))) h20 (by show 0 ≤ W1.1 19 + 1; omega) (by show W1.1 19 + 1 + d = _; omega) hs
      · rw [if_neg c] at hs
        rw [if_neg c, if_pos rfl]
        exact hk W1 hF h20 hs
end LXM
