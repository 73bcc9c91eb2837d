/-! ===== the class's draft of groups ===== -/
/-- of the first groups: how many gatherings, the sign of the p-th; of the first changes: what lies at a slot -/
def gN (R : Nat → Int → Int) : Nat → Int
  | 0 => 0
  | k + 1 => gN R k + (R 27 k - R 26 k + 1)
def gP (R : Nat → Int → Int) : Nat → Int → Int
  | 0, _ => 0
  | k + 1, p => if gN R k ≤ p ∧ p < gN R k + (R 27 k - R 26 k + 1) then R 26 k + (p - gN R k) else gP R k p
def cF (R : Nat → Int → Int) : Nat → Int → Int
  | 0, _ => 0
  | c + 1, l => if R 32 c ≠ 43 ∧ l = R 33 c * 12 + R 34 c - 1 then R 32 c else cF R c l
def cI (R : Nat → Int → Int) : Nat → Int → Int
  | 0, _ => 0
  | c + 1, l => if R 32 c = 43 ∧ l = R 33 c * 12 + R 34 c - 1 then R 35 c else cI R c l
/-- the draft alone may be written -/
def FrP (J J' : JS) : Prop := (∀ t i, ¬ ((t = 6 ∨ t = 7) ∧ i = 0) → js J' t i = js J t i) ∧ (∀ t i, ¬ ((3 ≤ t ∧ t ≤ 6) ∧ i = 0) → ja J' t i = ja J t i) ∧ J'.2.2 = J.2.2
def DrR (J : JS) (n hi : Int) (P S F I : Int → Int) : Prop := js J 6 0 = n ∧ js J 7 0 = hi ∧ (∀ p, 0 ≤ p → p < n → ja J 3 0 p = P p) ∧ (∀ s, 0 ≤ s → s ≤ 70 → ja J 4 0 s = S s) ∧ (∀ l, 0 ≤ l → l < 852 → ja J 5 0 l = F l ∧ ja J 6 0 l = I l)
section FLT3
variable {J : JS} {n hi : Int} {P S F I : Int → Int}
theorem FrP.refl : FrP J J := ⟨fun _ _ _ => rfl, fun _ _ _ => rfl, rfl⟩
theorem FrP.trans {J1 J2 J3 : JS} (h : FrP J1 J2) (h' : FrP J2 J3) : FrP J1 J3 := ⟨fun t i q => (h'.1 t i q).trans (h.1 t i q), fun t i q => (h'.2.1 t i q).trans (h.2.1 t i q), h'.2.2.trans h.2.2⟩
theorem FrP.u {t : Nat} {x : Int} (h : t = 6 ∨ t = 7) : FrP J (ju1 J t 0 x) := ⟨fun t' i q => by rw [ju1_s, if_neg (by omega)], fun _ _ _ => rfl, rfl⟩
theorem FrP.a {t : Nat} {k x : Int} (h : 3 ≤ t ∧ t ≤ 6) : FrP J (ju2 J t 0 k x) := ⟨fun _ _ _ => rfl, fun t' i q => by funext l; rw [ju2_a, if_neg (by omega)], rfl⟩
theorem DrR.cg {n' hi' : Int} {P' S' F' I' : Int → Int} (h : DrR J n hi P S F I) (h1 : n = n') (h2 : hi = hi') (h3 : ∀ p, 0 ≤ p → p < n → P p = P' p) (h4 : ∀ s, 0 ≤ s → s ≤ 70 → S s = S' s) (h5 : ∀ l, 0 ≤ l → l < 852 → F l = F' l ∧ I l = I' l) : DrR J n' hi' P' S' F' I' := by
  subst h1
  subst h2
  exact ⟨h.1, h.2.1, fun p a b => (h.2.2.1 p a b).trans (h3 p a b), fun p a b => (h.2.2.2.1 p a b).trans (h4 p a b), fun p a b => ⟨(h.2.2.2.2 p a b).1.trans (h5 p a b).1, (h.2.2.2.2 p a b).2.trans (h5 p a b).2⟩⟩
theorem c_isSize {v : Int} (hv : R32 v) {Q : Int → JS → Prop} (h1 : okZ v → Q 1 J) (h0 : ¬ okZ v → Q 0 J) : wp (G3_isSize v) Q J := by
  unfold okZ at h1 h0
  unfold G3_isSize
  simp only [wp_ib, wp_ig, wp_ite, jp_ret, jp_nz, jp_dI, jp_rI, jp_g9, jp_E, jpN1, jp_Bk, jp_Ck, jp_W, jp_R, jp_Tx, jp_Sl, jp_Sc, jp_Si, jp_Sq, jp_Xl, jp_X0, jp_Xc, jp_Xs, jp_Xi, jp_Tos, jp_NB, jp_NC, kj_1, kj_2, kj_3, kj_4, jpA1, jpS1, jp_con, ju1_s, ju1_a, ju2_s, ju2_a, juA_s, juA_a, jux_s, jux_a, jux_x, jux_t, ju1_jB, ju2_jB, juA_jB, ju1_jC, ju2_jC, juA_jC, ju1_jT, ju2_jT, juA_jT, ju1_jb, ju2_jb, juA_jb, ju1_jd, ju2_jd, juA_jd, ju1_jt, ju2_jt, juA_jt, ju1_jx, ju2_jx, juA_jx, ju1_jw, ju2_jw, juA_jw, ju1_jr, ju2_jr, juA_jr, ju1_jn, ju2_jn, juA_jn, jux_jB, jux_jC, jux_jT, jux_jb, jux_jd, jux_jw, jux_jr, jux_jn, jG2, jP2, jG3, jP3, jG4, jP4, jG5, jP5, jG8, jP8, jG9, jP9, jG10, jP10, jG11, jP11, jG1, jP1, jG6, jP6, jG7, jP7, jG12, jP12, wj2, wk2, wn2, wj3, wk3, wn3, wj4, wk4, wn4, wj5, wk5, wn5, wj6, wk6, wn6, wj7, wk7, wn7, wj8, wk8, wn8, wj9, wk9, wn9, wj10, wk10, wn10, Nat.reduceEqDiff, reduceIte, false_and, true_and, and_true, and_self, if_false, if_true, and_false]
  refine ⟨hv, ?_⟩
  by_cases c1 : v = 1
  · rw [if_pos c1]; exact h1 (Or.inl c1)
  · rw [if_neg c1]
    by_cases c2 : v < 2
    · rw [if_pos c2]; exact h0 (by omega)
    · rw [if_neg c2]
      by_cases c3 : 12 < v
      · rw [if_pos c3]; exact h0 (by omega)
      · rw [if_neg c3, par2 (by omega)]
        refine ⟨⟨by decide, by omega, by omega, by decide⟩, by omega, ?_⟩
        by_cases c4 : v % 2 = 0
        · rw [if_pos c4]; exact h1 (by omega)
        · rw [if_neg c4]; exact h0 (by omega)
theorem c_addGathering {s z : Int} (hD : DrR J n hi P S F I) (hn : 0 ≤ n ∧ n < 71) (hs : 0 ≤ s ∧ s ≤ 70) {Q : Unit → JS → Prop} (hq : ∀ J', FrP J J' → DrR J' (n + 1) (if s = 70 then hi else s) (fun p => if p = n then s else P p) (fun x => if x = s then z else S x) F I → Q () J') : wp (G6_addGathering 0 s z) Q J := by
  obtain ⟨d1, d2, d3, d4, d5⟩ := hD
  have h0 := Nat.zero_le (jB J)
  have hF : FrP J (ju2 (ju2 (ju1 J 6 0 (n + 1)) 3 0 n s) 4 0 s z) := ((FrP.u (by omega)).trans (FrP.a (by omega))).trans (FrP.a (by omega))
  have hA : (∀ p, 0 ≤ p → p < n + 1 → ja (ju2 (ju2 (ju1 J 6 0 (n + 1)) 3 0 n s) 4 0 s z) 3 0 p = if p = n then s else P p) ∧ (∀ x, 0 ≤ x → x ≤ 70 → ja (ju2 (ju2 (ju1 J 6 0 (n + 1)) 3 0 n s) 4 0 s z) 4 0 x = if x = s then z else S x) ∧ (∀ l, 0 ≤ l → l < 852 → ja (ju2 (ju2 (ju1 J 6 0 (n + 1)) 3 0 n s) 4 0 s z) 5 0 l = F l ∧ ja (ju2 (ju2 (ju1 J 6 0 (n + 1)) 3 0 n s) 4 0 s z) 6 0 l = I l) := by
    refine ⟨fun p p0 p1 => ?_, fun x x0 x1 => ?_, fun l l0 l1 => ⟨?_, ?_⟩⟩
    · rw [ju2_a, if_neg (by omega), ju2_a, ju1_a]
      by_cases e : p = n
      · rw [if_pos ⟨rfl, rfl, e⟩, if_pos e]
      · rw [if_neg (fun q => e q.2.2), if_neg e]; exact d3 p p0 (by omega)
    · rw [ju2_a]
      by_cases e : x = s
      · rw [if_pos ⟨rfl, rfl, e⟩, if_pos e]
      · rw [if_neg (fun q => e q.2.2), if_neg e, ju2_a, if_neg (by omega), ju1_a]; exact d4 x x0 x1
    · rw [ju2_a, if_neg (by omega), ju2_a, if_neg (by omega), ju1_a]; exact (d5 l l0 l1).1
    · rw [ju2_a, if_neg (by omega), ju2_a, if_neg (by omega), ju1_a]; exact (d5 l l0 l1).2
  unfold G6_addGathering
  simp only [wp_ib, wp_ig, wp_ite, jp_ret, jp_nz, jp_dI, jp_rI, jp_g9, jp_E, jpN1, jp_Bk, jp_Ck, jp_W, jp_R, jp_Tx, jp_Sl, jp_Sc, jp_Si, jp_Sq, jp_Xl, jp_X0, jp_Xc, jp_Xs, jp_Xi, jp_Tos, jp_NB, jp_NC, kj_1, kj_2, kj_3, kj_4, jpA1, jpS1, jp_con, ju1_s, ju1_a, ju2_s, ju2_a, juA_s, juA_a, jux_s, jux_a, jux_x, jux_t, ju1_jB, ju2_jB, juA_jB, ju1_jC, ju2_jC, juA_jC, ju1_jT, ju2_jT, juA_jT, ju1_jb, ju2_jb, juA_jb, ju1_jd, ju2_jd, juA_jd, ju1_jt, ju2_jt, juA_jt, ju1_jx, ju2_jx, juA_jx, ju1_jw, ju2_jw, juA_jw, ju1_jr, ju2_jr, juA_jr, ju1_jn, ju2_jn, juA_jn, jux_jB, jux_jC, jux_jT, jux_jb, jux_jd, jux_jw, jux_jr, jux_jn, jG2, jP2, jG3, jP3, jG4, jP4, jG5, jP5, jG8, jP8, jG9, jP9, jG10, jP10, jG11, jP11, jG1, jP1, jG6, jP6, jG7, jP7, jG12, jP12, wj2, wk2, wn2, wj3, wk3, wn3, wj4, wk4, wn4, wj5, wk5, wn5, wj6, wk6, wn6, wj7, wk7, wn7, wj8, wk8, wn8, wj9, wk9, wn9, wj10, wk10, wn10, Nat.reduceEqDiff, reduceIte, false_and, true_and, and_true, and_self, if_false, if_true, and_false]
  rw [d1, if_neg (by omega), if_neg (by omega), if_pos (by omega)]
  refine ⟨h0, h0, h0, by decide, by omega, by omega, h0, h0, by decide, h0, h0, h0, ⟨h0, by omega, by omega⟩, h0, ⟨h0, by omega, by omega⟩, ?_⟩
  revert hF hA
  generalize hJ : ju2 (ju2 (ju1 J 6 0 (n + 1)) 3 0 n s) 4 0 s z = J1
  intro hF hA
  have e6 : js J1 6 0 = n + 1 := by rw [← hJ]; rfl
  have e7 : js J1 7 0 = hi := by rw [← hJ]; exact d2
  by_cases c : s = 70
  · rw [if_pos c]
    exact hq J1 hF ⟨e6, by rw [if_pos c]; exact e7, hA.1, hA.2.1, hA.2.2⟩
  · rw [if_neg c]
    refine ⟨h0, hq _ (hF.trans (FrP.u (by omega))) ⟨?_, ?_, hA.1, hA.2.1, hA.2.2⟩⟩
    · rw [ju1_s, if_neg (by omega)]; exact e6
    · rw [ju1_s, if_pos ⟨rfl, rfl⟩, if_neg c]
theorem c_addGroup {f l a b : Int} (hD : DrR J n hi P S F I) (hn : 0 ≤ n ∧ n + (l - f + 1) ≤ 71) (hf : 0 ≤ f) (hl : (f = 70 ∧ l = 70) ∨ (f ≤ l ∧ l ≤ 69)) {Q : Unit → JS → Prop} (hq : ∀ J', FrP J J' → DrR J' (n + (l - f + 1)) (if f = 70 then hi else l) (fun p => if n ≤ p ∧ p < n + (l - f + 1) then f + (p - n) else P p) (fun s => if f ≤ s ∧ s ≤ l then (if (s - f) % 2 = 0 then a else b) else S s) F I → Q () J') : wp (G6_addGroup 0 f l a b) Q J := by
  have lp : ∀ (d m : Nat) (x : Int) (J1 : JS), d < m → f ≤ x → x + d = l + 1 → FrP J J1 → DrR J1 (n + (x - f)) (if x = f then hi else if f = 70 then hi else x - 1) (fun p => if n ≤ p ∧ p < n + (x - f) then f + (p - n) else P p) (fun s => if f ≤ s ∧ s < x then (if (s - f) % 2 = 0 then a else b) else S s) F I → wp (G6_addGroup_3 m 0 f l a b x) Q J1 := by
    intro d
    induction d with
    | zero =>
      intro m x J1 hm h1 h2 hF hD1
      cases m with
      | zero => omega
      | succ m =>
        have ex : x = l + 1 := by omega
        subst ex
        unfold G6_addGroup_3 G6_addGroup_3_st
        simp only [wp_ib, wp_ig, wp_ite, jp_ret, jp_nz, jp_dI, jp_rI, jp_g9, jp_E, jpN1, jp_Bk, jp_Ck, jp_W, jp_R, jp_Tx, jp_Sl, jp_Sc, jp_Si, jp_Sq, jp_Xl, jp_X0, jp_Xc, jp_Xs, jp_Xi, jp_Tos, jp_NB, jp_NC, kj_1, kj_2, kj_3, kj_4, jpA1, jpS1, jp_con, ju1_s, ju1_a, ju2_s, ju2_a, juA_s, juA_a, jux_s, jux_a, jux_x, jux_t, ju1_jB, ju2_jB, juA_jB, ju1_jC, ju2_jC, juA_jC, ju1_jT, ju2_jT, juA_jT, ju1_jb, ju2_jb, juA_jb, ju1_jd, ju2_jd, juA_jd, ju1_jt, ju2_jt, juA_jt, ju1_jx, ju2_jx, juA_jx, ju1_jw, ju2_jw, juA_jw, ju1_jr, ju2_jr, juA_jr, ju1_jn, ju2_jn, juA_jn, jux_jB, jux_jC, jux_jT, jux_jb, jux_jd, jux_jw, jux_jr, jux_jn, jG2, jP2, jG3, jP3, jG4, jP4, jG5, jP5, jG8, jP8, jG9, jP9, jG10, jP10, jG11, jP11, jG1, jP1, jG6, jP6, jG7, jP7, jG12, jP12, wj2, wk2, wn2, wj3, wk3, wn3, wj4, wk4, wn4, wj5, wk5, wn5, wj6, wk6, wn6, wj7, wk7, wn7, wj8, wk8, wn8, wj9, wk9, wn9, wj10, wk10, wn10, Nat.reduceEqDiff, reduceIte, false_and, true_and, and_true, and_self, if_false, if_true, and_false]
        rw [if_pos (by omega)]
        refine ⟨by omega, by omega, hq J1 hF (hD1.cg (by omega) ?_ (fun p p0 p1 => ?_) (fun s s0 s1 => ?_) (fun q _ _ => ⟨rfl, rfl⟩))⟩
        · rw [if_neg (by omega)]
          by_cases c : f = 70
          · rw [if_pos c, if_pos c]
          · rw [if_neg c, if_neg c]; omega
        · have e : (n ≤ p ∧ p < n + (l + 1 - f)) = (n ≤ p ∧ p < n + (l - f + 1)) := propext ⟨fun q => by omega, fun q => by omega⟩
          simp only [e]
        · have e : (f ≤ s ∧ s < l + 1) = (f ≤ s ∧ s ≤ l) := propext ⟨fun q => by omega, fun q => by omega⟩
          simp only [e]
    | succ d ih =>
      intro m x J1 hm h1 h2 hF hD1
      cases m with
      | zero => omega
      | succ m =>
        have go : ∀ z, z = (if (x - f) % 2 = 0 then a else b) → wp (G6_addGathering 0 x z) (fun _ J2 => wp (G6_addGroup_3 m 0 f l a b (x + 1)) Q J2) J1 := by
          intro z hz
          refine c_addGathering hD1 ⟨by omega, by omega⟩ ⟨by omega, by omega⟩ fun J2 hF2 hD2 => ?_
          refine ih m (x + 1) J2 (by omega) (by omega) (by omega) (hF.trans hF2) (hD2.cg (by omega) ?_ (fun p p0 p1 => ?_) (fun s s0 s1 => ?_) (fun q _ _ => ⟨rfl, rfl⟩))
          · rw [if_neg (show ¬ x + 1 = f by omega)]
            by_cases c : f = 70
            · rw [if_pos (show x = 70 by omega), if_pos c, if_pos c]
              split <;> rfl
            · rw [if_neg (show ¬ x = 70 by omega), if_neg c]; omega
          · by_cases c : p = n + (x - f)
            · rw [if_pos c, if_pos (by omega)]; omega
            · rw [if_neg c]
              have e : (n ≤ p ∧ p < n + (x - f)) = (n ≤ p ∧ p < n + (x + 1 - f)) := propext ⟨fun q => by omega, fun q => by omega⟩
              simp only [e]
          · by_cases c : s = x
            · rw [if_pos c, if_pos (by omega), hz, c]
            · rw [if_neg c]
              have e : (f ≤ s ∧ s < x) = (f ≤ s ∧ s < x + 1) := propext ⟨fun q => by omega, fun q => by omega⟩
              simp only [e]
        have h0 := Nat.zero_le (jB J1)
        unfold G6_addGroup_3 G6_addGroup_3_st G6_addGroup_27
        simp only [wp_ib, wp_ig, wp_ite, jp_ret, jp_nz, jp_dI, jp_rI, jp_g9, jp_E, jpN1, jp_Bk, jp_Ck, jp_W, jp_R, jp_Tx, jp_Sl, jp_Sc, jp_Si, jp_Sq, jp_Xl, jp_X0, jp_Xc, jp_Xs, jp_Xi, jp_Tos, jp_NB, jp_NC, kj_1, kj_2, kj_3, kj_4, jpA1, jpS1, jp_con, ju1_s, ju1_a, ju2_s, ju2_a, juA_s, juA_a, jux_s, jux_a, jux_x, jux_t, ju1_jB, ju2_jB, juA_jB, ju1_jC, ju2_jC, juA_jC, ju1_jT, ju2_jT, juA_jT, ju1_jb, ju2_jb, juA_jb, ju1_jd, ju2_jd, juA_jd, ju1_jt, ju2_jt, juA_jt, ju1_jx, ju2_jx, juA_jx, ju1_jw, ju2_jw, juA_jw, ju1_jr, ju2_jr, juA_jr, ju1_jn, ju2_jn, juA_jn, jux_jB, jux_jC, jux_jT, jux_jb, jux_jd, jux_jw, jux_jr, jux_jn, jG2, jP2, jG3, jP3, jG4, jP4, jG5, jP5, jG8, jP8, jG9, jP9, jG10, jP10, jG11, jP11, jG1, jP1, jG6, jP6, jG7, jP7, jG12, jP12, wj2, wk2, wn2, wj3, wk3, wn3, wj4, wk4, wn4, wj5, wk5, wn5, wj6, wk6, wn6, wj7, wk7, wn7, wj8, wk8, wn8, wj9, wk9, wn9, wj10, wk10, wn10, Nat.reduceEqDiff, reduceIte, false_and, true_and, and_true, and_self, if_false, if_true, and_false]
        rw [if_neg (show ¬ l < x by omega), par2 (by omega)]
        refine ⟨by omega, by omega, ⟨by decide, by omega, by omega, by decide⟩, by omega, ?_⟩
        by_cases c : (x - f) % 2 = 0
        · rw [if_pos c]
          exact ⟨h0, go a (by rw [if_pos c])⟩
        · rw [if_neg c]
          exact ⟨h0, go b (by rw [if_neg c])⟩
  refine lp (l + 1 - f).toNat LFU f J (by unfold LFU; omega) (Int.le_refl _) (by omega) FrP.refl (hD.cg (by omega) (by rw [if_pos rfl]) (fun p p0 p1 => ?_) (fun s s0 s1 => ?_) (fun q _ _ => ⟨rfl, rfl⟩))
  · rw [if_neg (by omega)]
  · rw [if_neg (by omega)]
end FLT3
