/-! ===== what the class counts is what the model counts ===== -/
section TOT
variable {J : JS} {p : Nat} {B : BK}
/-- a sum over more rows of ones that are nothing but at some places: each place once -/
theorem smz_cat {f : Int → Int} : ∀ (d e : Nat) (a : Int), smz f (d + e) a = smz f d a + smz f e (a + d)
  | 0, e, a => by
    rw [Nat.zero_add, show smz f 0 a = 0 from rfl, show a + ((0 : Nat) : Int) = a by omega]
    omega
  | d + 1, e, a => by
    rw [show d + 1 + e = (d + e) + 1 by omega, show smz f ((d + e) + 1) a = f a + smz f (d + e) (a + 1) from rfl, smz_cat d e (a + 1), show smz f (d + 1) a = f a + smz f d (a + 1) from rfl, show a + 1 + (d : Int) = a + ((d + 1 : Nat) : Int) by omega]
    omega
theorem smz_0 {f : Int → Int} : ∀ (d : Nat) (a : Int), (∀ i, a ≤ i → i < a + d → f i = 0) → smz f d a = 0
  | 0, a, _ => rfl
  | d + 1, a, h => by
    rw [show smz f (d + 1) a = f a + smz f d (a + 1) from rfl, h a (by omega) (by omega), smz_0 d (a + 1) fun i q1 q2 => h i (by omega) (by omega)]
    rfl
/-- one place alone -/
theorem smz_one {f : Int → Int} {k : Int} (d : Nat) (a : Int) (hk : a ≤ k ∧ k < a + d) (h : ∀ i, a ≤ i → i < a + d → i ≠ k → f i = 0) : smz f d a = f k := by
  obtain ⟨m, hm⟩ : ∃ m : Nat, (m : Int) = k - a := ⟨(k - a).toNat, by omega⟩
  rw [show d = m + (1 + (d - m - 1)) by omega, smz_cat, smz_cat, smz_0 m a fun i q1 q2 => h i q1 (by omega) (by omega), smz_0 (d - m - 1) _ fun i q1 q2 => h i (by omega) (by omega) (by omega)]
  rw [show smz f 1 (a + (m : Int)) = f (a + m) + smz f 0 (a + m + 1) from rfl, show smz f 0 (a + (m : Int) + 1) = 0 from rfl, show a + (m : Int) = k by omega]
  omega
/-- a sum over signs is a sum over places -/
theorem smz_perm {h : Int → Int} : ∀ (n : Nat) (P : Int → Int) (f : Int → Int), (∀ g : Int, 0 ≤ g → g < n → 0 ≤ P g ∧ P g ≤ 70) → (∀ g g' : Int, 0 ≤ g → g < g' → g' < n → P g ≠ P g') → (∀ g : Int, 0 ≤ g → g < n → f (P g) = h g) → (∀ s : Int, 0 ≤ s → s ≤ 70 → (∀ g : Int, 0 ≤ g → g < n → P g ≠ s) → f s = 0) → smz f 71 0 = smz h n 0
  | 0, P, f, _, _, _, h0 => by
    rw [smz_0 71 0 fun i q1 q2 => h0 i q1 (by omega) fun g g0 g1 => by omega]
    rfl
  | n + 1, P, f, hP, hd, hf, h0 => by
    have ih := smz_perm (h := h) n P (fun s => if s = P n then 0 else f s) (fun g g0 g1 => hP g g0 (by omega)) (fun g g' g0 g1 g2 => hd g g' g0 g1 (by omega)) (fun g g0 g1 => by
      show (if P g = P n then 0 else f (P g)) = h g
      rw [if_neg (hd g n g0 g1 (by omega))]
      exact hf g g0 (by omega)) (fun s s0 s1 hs => by
      show (if s = P n then 0 else f s) = 0
      by_cases c : s = P n
      · rw [if_pos c]
      · rw [if_neg c]
        refine h0 s s0 s1 fun g g0 g1 e => ?_
        by_cases cg : g = n
        · rw [cg] at e; exact c e.symm
        · exact hs g g0 (by omega) e)
    rw [show smz h (n + 1) 0 = smz h n 0 + h (0 + n) from smz_sn n 0, ← ih]
    have hn := hP n (by omega) (by omega)
    have e1 : smz f 71 0 = smz (fun s => (if s = P n then 0 else f s) + (if s = P n then f s else 0)) 71 0 := smz_cg 71 0 fun i _ _ => by
      show f i = (if i = P n then 0 else f i) + (if i = P n then f i else 0)
      by_cases c : i = P n
      · rw [if_pos c, if_pos c]; omega
      · rw [if_neg c, if_neg c]; omega
    have e2 : smz (fun s => if s = P n then f s else 0) 71 0 = f (P n) := by
      rw [smz_one (f := fun s => if s = P n then f s else 0) (k := P n) 71 0 (by omega) fun i _ _ q => if_neg q]
      exact if_pos rfl
    rw [e1, smz_add, e2, hf n (by omega) (by omega), show (0 : Int) + (n : Int) = n by omega]
end TOT
