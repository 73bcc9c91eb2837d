/-! ===== the longest rising rows, and which of them is taken ===== -/
/-- R i: how long the longest rising row is that begins with the i-th; of those from lo on -/
def rOK (E : Int → Int) (m lo : Int) (R : Int → Int) : Prop := ∀ i, lo ≤ i → i < m → 1 ≤ R i ∧ (∀ j, i < j → j < m → E i < E j → R j + 1 ≤ R i) ∧ (R i = 1 ∨ ∃ j, i < j ∧ j < m ∧ E i < E j ∧ R i = R j + 1)
theorem rOK_u {E : Int → Int} {m lo : Int} {R R' : Int → Int} (h : rOK E m lo R) (h' : rOK E m lo R') : ∀ (d : Nat) (i : Int), lo ≤ i → i < m → m ≤ i + d → R i = R' i := by
  intro d
  induction d with
  | zero => intro i h0 h1 h2; omega
  | succ d ih =>
    intro i h0 h1 h2
    obtain ⟨a1, a2, a3⟩ := h i h0 h1
    obtain ⟨b1, b2, b3⟩ := h' i h0 h1
    have l1 : R i ≤ R' i := by
      rcases a3 with e | ⟨j, j1, j2, j3, j4⟩
      · omega
      · have := ih j (by omega) j2 (by omega)
        have := b2 j j1 j2 j3
        omega
    have l2 : R' i ≤ R i := by
      rcases b3 with e | ⟨j, j1, j2, j3, j4⟩
      · omega
      · have := ih j (by omega) j2 (by omega)
        have := a2 j j1 j2 j3
        omega
    omega
/-- the greatest of them -/
def rMx (m lo : Int) (R : Int → Int) (x : Int) : Prop := (∀ i, lo ≤ i → i < m → R i ≤ x) ∧ ((m ≤ lo ∧ x = 0) ∨ ∃ i, lo ≤ i ∧ i < m ∧ R i = x)
theorem rMx_u {m lo : Int} {R R' : Int → Int} {x x' : Int} (h : rMx m lo R x) (h' : rMx m lo R' x') (e : ∀ i, lo ≤ i → i < m → R i = R' i) : x = x' := by
  rcases h.2 with ⟨h1, h2⟩ | ⟨i, h1, h2, h3⟩
  · rcases h'.2 with ⟨g1, g2⟩ | ⟨j, g1, g2, g3⟩
    · omega
    · omega
  · rcases h'.2 with ⟨g1, g2⟩ | ⟨j, g1, g2, g3⟩
    · omega
    · have a := h.1 j g1 g2
      have b := h'.1 i h1 h2
      have c := e i h1 h2
      have d := e j g1 g2
      omega
/-- what the class's begins hold: for each length the greatest place with which such a row begins -/
def bOK (E : Int → Int) (m lo : Int) (R B : Int → Int) (lg : Int) : Prop := (∀ l, 0 ≤ l → l < lg → ∃ j, lo ≤ j ∧ j < m ∧ R j = l + 1 ∧ E j = B l) ∧ (∀ j, lo ≤ j → j < m → R j ≤ lg ∧ E j ≤ B (R j - 1)) ∧ (∀ l l', 0 ≤ l → l < l' → l' < lg → B l' < B l) ∧ (0 ≤ lg ∧ lg ≤ m - lo)
theorem lis_step {E : Int → Int} {m e : Int} {R B : Int → Int} {lg ab : Int} (hR : rOK E m (e + 1) R) (hB : bOK E m (e + 1) R B lg) (he : e < m) (h0 : 0 ≤ ab) (h1 : ab ≤ lg) (h2 : ∀ l, 0 ≤ l → l < ab → E e < B l) (h3 : ∀ l, ab ≤ l → l < lg → B l ≤ E e) {R' B' : Int → Int} (hR' : ∀ i, R' i = if i = e then ab + 1 else R i) (hB' : ∀ l, B' l = if l = ab then E e else B l) : rOK E m e R' ∧ bOK E m e R' B' (if lg < ab + 1 then ab + 1 else lg) := by
  obtain ⟨b1, b2, b3, b4⟩ := hB
  refine ⟨fun i q1 q2 => ?_, fun l q1 q2 => ?_, fun i q1 q2 => ?_, fun l l' q1 q2 q3 => ?_, ?_⟩
  · by_cases c : i = e
    · subst c
      rw [hR', if_pos rfl]
      refine ⟨by omega, fun j j1 j2 j3 => ?_, ?_⟩
      · rw [hR', if_neg (by omega)]
        have h4 := b2 j (by omega) j2
        have h5 := (hR j (by omega) j2).1
        by_cases c2 : R j - 1 < ab
        · omega
        · have := h3 (R j - 1) (by omega) (by omega)
          omega
      · by_cases c2 : ab = 0
        · left; omega
        · right
          obtain ⟨j, j1, j2, j3, j4⟩ := b1 (ab - 1) (by omega) (by omega)
          have := h2 (ab - 1) (by omega) (by omega)
          refine ⟨j, by omega, j2, by omega, ?_⟩
          rw [hR', if_neg (by omega)]
          omega
    · obtain ⟨a1, a2, a3⟩ := hR i (by omega) q2
      rw [hR', if_neg c]
      refine ⟨a1, fun j j1 j2 j3 => ?_, ?_⟩
      · rw [hR', if_neg (by omega)]
        exact a2 j j1 j2 j3
      · rcases a3 with a3 | ⟨j, j1, j2, j3, j4⟩
        · exact Or.inl a3
        · exact Or.inr ⟨j, j1, j2, j3, by rw [hR', if_neg (by omega)]; exact j4⟩
  · rw [hB']
    by_cases c : l = ab
    · rw [if_pos c]
      exact ⟨e, by omega, he, by rw [hR', if_pos rfl, c], rfl⟩
    · rw [if_neg c]
      have hl : l < lg := by
        revert q2
        split <;> omega
      obtain ⟨j, j1, j2, j3, j4⟩ := b1 l q1 hl
      exact ⟨j, by omega, j2, by rw [hR', if_neg (by omega)]; exact j3, j4⟩
  · by_cases c : i = e
    · subst c
      rw [hR', if_pos rfl, hB']
      refine ⟨by split <;> omega, ?_⟩
      have e9 : ab + 1 - 1 = ab := by omega
      rw [if_pos e9]
      omega
    · have h4 := b2 i (by omega) q2
      rw [hR', if_neg c]
      refine ⟨by split <;> omega, ?_⟩
      rw [hB']
      by_cases c2 : R i - 1 = ab
      · rw [if_pos c2]
        have h5 := h3 ab (by omega) (by omega)
        rw [c2] at h4
        omega
      · rw [if_neg c2]
        exact h4.2
  · rw [hB', hB']
    have hl : l' < lg ∨ l' = ab := by
      revert q3
      split <;> omega
    by_cases c : l' = ab
    · rw [if_pos c, if_neg (by omega)]
      exact h2 l q1 (by omega)
    · rw [if_neg c]
      by_cases c2 : l = ab
      · rw [if_pos c2]
        have h5 := h3 ab (by omega) (by omega)
        have h6 := b3 ab l' (by omega) (by omega) (by omega)
        omega
      · rw [if_neg c2]
        exact b3 l l' q1 q2 (by omega)
  · split <;> omega
/-- which are taken: what is still wanted, the last that was taken -/
def gst (E R : Int → Int) (mx : Int) : Nat → Int × Int
  | 0 => (mx, -1)
  | i + 1 => if R i = (gst E R mx i).1 ∧ (gst E R mx i).2 < E i then ((gst E R mx i).1 - 1, E i) else gst E R mx i
abbrev rst (E R : Int → Int) (mx : Int) (i : Nat) : Prop := R i = (gst E R mx i).1 ∧ (gst E R mx i).2 < E i
theorem gst_cg {E R R' : Int → Int} {mx : Int} {m : Nat} (h : ∀ i : Nat, i < m → R i = R' i) : ∀ i : Nat, i ≤ m → gst E R mx i = gst E R' mx i
  | 0, _ => rfl
  | i + 1, hi => by
    have e : gst E R mx i = gst E R' mx i := gst_cg h i (by omega)
    show (if _ then _ else _) = (if _ then _ else _)
    rw [e, h i (by omega)]
theorem gst_bd {E R : Int → Int} {mx : Int} {m : Nat} (h0 : 0 ≤ mx) (h1 : mx ≤ 400) (hR : ∀ i : Nat, i < m → 1 ≤ R i) (hE : ∀ i : Nat, i < m → 0 ≤ E i ∧ E i < 400) : ∀ i : Nat, i ≤ m → (0 ≤ (gst E R mx i).1 ∧ (gst E R mx i).1 ≤ 400) ∧ -1 ≤ (gst E R mx i).2 ∧ (gst E R mx i).2 < 400
  | 0, _ => by show (0 ≤ mx ∧ mx ≤ 400) ∧ (-1 : Int) ≤ -1 ∧ (-1 : Int) < 400; omega
  | i + 1, hi => by
    have e := gst_bd h0 h1 hR hE i (by omega)
    have h2 := hR i (by omega)
    have h3 := hE i (by omega)
    show (0 ≤ (if _ then _ else _ : Int × Int).1 ∧ (if _ then _ else _ : Int × Int).1 ≤ 400) ∧ -1 ≤ (if _ then _ else _ : Int × Int).2 ∧ (if _ then _ else _ : Int × Int).2 < 400
    split
    · rename_i c
      obtain ⟨c1, c2⟩ := c
      show (0 ≤ (gst E R mx i).1 - 1 ∧ (gst E R mx i).1 - 1 ≤ 400) ∧ -1 ≤ E i ∧ E i < 400
      omega
    · exact e
/-! the class measures -/
def FrU (J J' : JS) : Prop := js J' = js J ∧ (∀ t i, t ≠ 9 → t ≠ 10 → ja J' t i = ja J t i) ∧ J'.2.2 = J.2.2
section LIC
variable {J : JS} {id : Nat} {m : Int}
theorem FrU.trans {J1 J2 J3 : JS} (h : FrU J1 J2) (h' : FrU J2 J3) : FrU J1 J3 := ⟨h'.1.trans h.1, fun t i q q' => (h'.2.1 t i q q').trans (h.2.1 t i q q'), h'.2.2.trans h.2.2⟩
theorem FrU.refl : FrU J J := ⟨rfl, fun _ _ _ _ => rfl, rfl⟩
theorem FrU.s {t : Nat} {k v : Int} (h : t = 9 ∨ t = 10) : FrU J (ju2 J t 0 k v) := ⟨rfl, fun t' i q q' => by funext l; rw [ju2_a, if_neg (by omega)], rfl⟩
theorem c_reach {E : Int → Int} {Q : Int → JS → Prop} {J0 : JS} (hx : rxk J0 id) (hm0 : 0 ≤ m) (hm : m ≤ 400) (hml : js J0 1 id = m) (hrl : m ≤ rl id) (hE : ∀ i, 0 ≤ i → i < m → ja J0 1 id i = E i) (hE2 : ∀ i, 0 ≤ i → i < m → 0 ≤ E i ∧ E i < 400) (hq : ∀ J' mx, FrU J0 J' → rOK E m 0 (ja J' 9 0) → rMx m 0 (ja J' 9 0) mx → (0 ≤ mx ∧ mx ≤ 400) → Q mx J') :
    ∀ (d k : Nat) (J : JS) (lg e : Int), d < k → e + 1 = d → FrU J0 J → e < m → rOK E m (e + 1) (ja J 9 0) → bOK E m (e + 1) (ja J 9 0) (ja J 10 0) lg → rMx m (e + 1) (ja J 9 0) lg → wp (G1_measureReach_17 k id lg e) Q J := by
  intro d
  induction d with
  | zero =>
    intro k J lg e hk he hF hem hR hB hM
    cases k with
    | zero => omega
    | succ k =>
      have e1 : e + 1 = 0 := by omega
      rw [e1] at hR hM hB
      unfold G1_measureReach_17 G1_measureReach_17_st
      simp only [wp_ib, wp_ig, wp_ite, jp_ret, jp_nz, jp_dI, jp_rI, jp_g9, jp_E, jpN1, jp_Bk, jp_Ck, jp_W, jp_R, jp_Tx, jp_Sl, jp_Sc, jp_Si, jp_Sq, jp_Xl, jp_X0, jp_Xc, jp_Xs, jp_Xi, jp_Tos, jp_NB, jp_NC, kj_1, kj_2, kj_3, kj_4, jpA1, jpS1, jp_con, ju1_s, ju1_a, ju2_s, ju2_a, juA_s, juA_a, jux_s, jux_a, jux_x, jux_t, ju1_jB, ju2_jB, juA_jB, ju1_jC, ju2_jC, juA_jC, ju1_jT, ju2_jT, juA_jT, ju1_jb, ju2_jb, juA_jb, ju1_jd, ju2_jd, juA_jd, ju1_jt, ju2_jt, juA_jt, ju1_jx, ju2_jx, juA_jx, ju1_jw, ju2_jw, juA_jw, ju1_jr, ju2_jr, juA_jr, ju1_jn, ju2_jn, juA_jn, jux_jB, jux_jC, jux_jT, jux_jb, jux_jd, jux_jw, jux_jr, jux_jn, jG2, jP2, jG3, jP3, jG4, jP4, jG5, jP5, jG8, jP8, jG9, jP9, jG10, jP10, jG11, jP11, jG1, jP1, jG6, jP6, jG7, jP7, jG12, jP12, wj2, wk2, wn2, wj3, wk3, wn3, wj4, wk4, wn4, wj5, wk5, wn5, wj6, wk6, wn6, wj7, wk7, wn7, wj8, wk8, wn8, wj9, wk9, wn9, wj10, wk10, wn10, Nat.reduceEqDiff, reduceIte, false_and, true_and, and_true, and_self, if_false, if_true, and_false]
      rw [if_pos (by omega)]
      have := hB.2.2.2
      exact ⟨by omega, hq J lg hF hR hM (by omega)⟩
  | succ d ih =>
    intro k J lg e hk he hF hem hR hB hM
    cases k with
    | zero => omega
    | succ k =>
      have hxJ : rxk J id := by
        unfold rxk jB jC at hx ⊢
        rw [hF.2.2]
        exact hx
      have hlg := hB.2.2.2
      have hEe := hE2 e (by omega) hem
      have hget : G8_get id e J = some (E e, J) := by
        rw [c_get hxJ (by omega) (by rw [hF.1]; omega) (by rw [hF.1]; omega), if_pos (by rw [hF.1]; omega), hF.2.1 1 id (by omega) (by omega), hE e (by omega) hem]
      -- behind the search
      have done : ∀ (ab : Int), 0 ≤ ab → ab ≤ lg → (∀ l, 0 ≤ l → l < ab → E e < ja J 10 0 l) → (∀ l, ab ≤ l → l < lg → ja J 10 0 l ≤ E e) → wp (G1_measureReach_64 (G1_measureReach_17 k) id lg e (E e) ab) Q J := by
        intro ab a0 a1 a2 a3
        unfold G1_measureReach_64 G1_measureReach_83
        simp only [wp_ib, wp_ig, wp_ite, jp_ret, jp_nz, jp_dI, jp_rI, jp_g9, jp_E, jpN1, jp_Bk, jp_Ck, jp_W, jp_R, jp_Tx, jp_Sl, jp_Sc, jp_Si, jp_Sq, jp_Xl, jp_X0, jp_Xc, jp_Xs, jp_Xi, jp_Tos, jp_NB, jp_NC, kj_1, kj_2, kj_3, kj_4, jpA1, jpS1, jp_con, ju1_s, ju1_a, ju2_s, ju2_a, juA_s, juA_a, jux_s, jux_a, jux_x, jux_t, ju1_jB, ju2_jB, juA_jB, ju1_jC, ju2_jC, juA_jC, ju1_jT, ju2_jT, juA_jT, ju1_jb, ju2_jb, juA_jb, ju1_jd, ju2_jd, juA_jd, ju1_jt, ju2_jt, juA_jt, ju1_jx, ju2_jx, juA_jx, ju1_jw, ju2_jw, juA_jw, ju1_jr, ju2_jr, juA_jr, ju1_jn, ju2_jn, juA_jn, jux_jB, jux_jC, jux_jT, jux_jb, jux_jd, jux_jw, jux_jr, jux_jn, jG2, jP2, jG3, jP3, jG4, jP4, jG5, jP5, jG8, jP8, jG9, jP9, jG10, jP10, jG11, jP11, jG1, jP1, jG6, jP6, jG7, jP7, jG12, jP12, wj2, wk2, wn2, wj3, wk3, wn3, wj4, wk4, wn4, wj5, wk5, wn5, wj6, wk6, wn6, wj7, wk7, wn7, wj8, wk8, wn8, wj9, wk9, wn9, wj10, wk10, wn10, Nat.reduceEqDiff, reduceIte, false_and, true_and, and_true, and_self, if_false, if_true, and_false]
        rw [if_neg (by omega)]
        refine ⟨by omega, by omega, ⟨by omega, by omega⟩, ⟨by omega, by omega⟩, by omega, by omega, ?_⟩
        have hst := lis_step hR hB hem a0 a1 a2 a3 (R' := ja (ju2 (ju2 J 10 0 ab (E e)) 9 0 e (ab + 1)) 9 0) (B' := ja (ju2 (ju2 J 10 0 ab (E e)) 9 0 e (ab + 1)) 10 0) (fun i => by
          simp only [ju2_a, true_and, Nat.reduceEqDiff, false_and, if_false]) (fun l => by
          simp only [ju2_a, true_and, Nat.reduceEqDiff, false_and, if_false])
        refine ih k _ _ (e + -1) (by omega) (by omega) ((hF.trans (FrU.s (by omega))).trans (FrU.s (by omega))) (by omega) ?_ ?_ ?_
        · rw [show e + -1 + 1 = e by omega]; exact hst.1
        · rw [show e + -1 + 1 = e by omega]; exact hst.2
        · rw [show e + -1 + 1 = e by omega]
          have e9 : ∀ i, ja (ju2 (ju2 J 10 0 ab (E e)) 9 0 e (ab + 1)) 9 0 i = if i = e then ab + 1 else ja J 9 0 i := fun i => by
            simp only [ju2_a, true_and, Nat.reduceEqDiff, false_and, if_false]
          refine ⟨fun i q1 q2 => ?_, Or.inr ?_⟩
          · rw [e9]
            by_cases c : i = e
            · rw [if_pos c]; split <;> omega
            · rw [if_neg c]
              have := hM.1 i (by omega) q2
              split <;> omega
          · by_cases c : lg < ab + 1
            · rw [if_pos c]
              exact ⟨e, by omega, hem, by rw [e9, if_pos rfl]⟩
            · rw [if_neg c]
              rcases hM.2 with ⟨h1, h2⟩ | ⟨i, h1, h2, h3⟩
              · omega
              · exact ⟨i, by omega, h2, by rw [e9, if_neg (by omega)]; exact h3⟩
      -- the search
      have srch : ∀ (q kk : Nat) (ab : Int), q < kk → ab = q → ab ≤ lg → (∀ l, ab ≤ l → l < lg → ja J 10 0 l ≤ E e) → wp (G1_measureReach_39 (G1_measureReach_17 k) kk id lg e (E e) ab) Q J := by
        intro q
        induction q with
        | zero =>
          intro kk ab hq1 hab hal h3
          cases kk with
          | zero => omega
          | succ kk =>
            unfold G1_measureReach_39 G1_measureReach_39_st
            simp only [wp_ib, wp_ig, wp_ite, jp_ret, jp_nz, jp_dI, jp_rI, jp_g9, jp_E, jpN1, jp_Bk, jp_Ck, jp_W, jp_R, jp_Tx, jp_Sl, jp_Sc, jp_Si, jp_Sq, jp_Xl, jp_X0, jp_Xc, jp_Xs, jp_Xi, jp_Tos, jp_NB, jp_NC, kj_1, kj_2, kj_3, kj_4, jpA1, jpS1, jp_con, ju1_s, ju1_a, ju2_s, ju2_a, juA_s, juA_a, jux_s, jux_a, jux_x, jux_t, ju1_jB, ju2_jB, juA_jB, ju1_jC, ju2_jC, juA_jC, ju1_jT, ju2_jT, juA_jT, ju1_jb, ju2_jb, juA_jb, ju1_jd, ju2_jd, juA_jd, ju1_jt, ju2_jt, juA_jt, ju1_jx, ju2_jx, juA_jx, ju1_jw, ju2_jw, juA_jw, ju1_jr, ju2_jr, juA_jr, ju1_jn, ju2_jn, juA_jn, jux_jB, jux_jC, jux_jT, jux_jb, jux_jd, jux_jw, jux_jr, jux_jn, jG2, jP2, jG3, jP3, jG4, jP4, jG5, jP5, jG8, jP8, jG9, jP9, jG10, jP10, jG11, jP11, jG1, jP1, jG6, jP6, jG7, jP7, jG12, jP12, wj2, wk2, wn2, wj3, wk3, wn3, wj4, wk4, wn4, wj5, wk5, wn5, wj6, wk6, wn6, wj7, wk7, wn7, wj8, wk8, wn8, wj9, wk9, wn9, wj10, wk10, wn10, Nat.reduceEqDiff, reduceIte, false_and, true_and, and_true, and_self, if_false, if_true, and_false]
            rw [if_pos (by omega)]
            exact ⟨by omega, done ab (by omega) hal (fun l l0 l1 => by omega) h3⟩
        | succ q ihq =>
          intro kk ab hq1 hab hal h3
          cases kk with
          | zero => omega
          | succ kk =>
            obtain ⟨j, j1, j2, j3, j4⟩ := hB.1 (ab - 1) (by omega) (by omega)
            have hEj := hE2 j (by omega) j2
            unfold G1_measureReach_39 G1_measureReach_39_st
            simp only [wp_ib, wp_ig, wp_ite, jp_ret, jp_nz, jp_dI, jp_rI, jp_g9, jp_E, jpN1, jp_Bk, jp_Ck, jp_W, jp_R, jp_Tx, jp_Sl, jp_Sc, jp_Si, jp_Sq, jp_Xl, jp_X0, jp_Xc, jp_Xs, jp_Xi, jp_Tos, jp_NB, jp_NC, kj_1, kj_2, kj_3, kj_4, jpA1, jpS1, jp_con, ju1_s, ju1_a, ju2_s, ju2_a, juA_s, juA_a, jux_s, jux_a, jux_x, jux_t, ju1_jB, ju2_jB, juA_jB, ju1_jC, ju2_jC, juA_jC, ju1_jT, ju2_jT, juA_jT, ju1_jb, ju2_jb, juA_jb, ju1_jd, ju2_jd, juA_jd, ju1_jt, ju2_jt, juA_jt, ju1_jx, ju2_jx, juA_jx, ju1_jw, ju2_jw, juA_jw, ju1_jr, ju2_jr, juA_jr, ju1_jn, ju2_jn, juA_jn, jux_jB, jux_jC, jux_jT, jux_jb, jux_jd, jux_jw, jux_jr, jux_jn, jG2, jP2, jG3, jP3, jG4, jP4, jG5, jP5, jG8, jP8, jG9, jP9, jG10, jP10, jG11, jP11, jG1, jP1, jG6, jP6, jG7, jP7, jG12, jP12, wj2, wk2, wn2, wj3, wk3, wn3, wj4, wk4, wn4, wj5, wk5, wn5, wj6, wk6, wn6, wj7, wk7, wn7, wj8, wk8, wn8, wj9, wk9, wn9, wj10, wk10, wn10, Nat.reduceEqDiff, reduceIte, false_and, true_and, and_true, and_self, if_false, if_true, and_false]
            rw [if_neg (by omega)]
            refine ⟨by omega, ⟨by omega, by omega⟩, by omega, by omega, ?_⟩
            by_cases c : E e < ja J 10 0 (ab - 1)
            · rw [if_pos c]
              refine done ab (by omega) hal (fun l l0 l1 => ?_) h3
              by_cases c2 : l = ab - 1
              · rw [c2]; exact c
              · have := hB.2.2.1 l (ab - 1) l0 (by omega) (by omega)
                omega
            · rw [if_neg c]
              refine ihq kk (ab + -1) (by omega) (by omega) (by omega) fun l l0 l1 => ?_
              by_cases c2 : l = ab - 1
              · rw [c2]; omega
              · exact h3 l (by omega) l1
      unfold G1_measureReach_17 G1_measureReach_17_st
      simp only [wp_ib, wp_ig, wp_ite, jp_ret, jp_nz, jp_dI, jp_rI, jp_g9, jp_E, jpN1, jp_Bk, jp_Ck, jp_W, jp_R, jp_Tx, jp_Sl, jp_Sc, jp_Si, jp_Sq, jp_Xl, jp_X0, jp_Xc, jp_Xs, jp_Xi, jp_Tos, jp_NB, jp_NC, kj_1, kj_2, kj_3, kj_4, jpA1, jpS1, jp_con, ju1_s, ju1_a, ju2_s, ju2_a, juA_s, juA_a, jux_s, jux_a, jux_x, jux_t, ju1_jB, ju2_jB, juA_jB, ju1_jC, ju2_jC, juA_jC, ju1_jT, ju2_jT, juA_jT, ju1_jb, ju2_jb, juA_jb, ju1_jd, ju2_jd, juA_jd, ju1_jt, ju2_jt, juA_jt, ju1_jx, ju2_jx, juA_jx, ju1_jw, ju2_jw, juA_jw, ju1_jr, ju2_jr, juA_jr, ju1_jn, ju2_jn, juA_jn, jux_jB, jux_jC, jux_jT, jux_jb, jux_jd, jux_jw, jux_jr, jux_jn, jG2, jP2, jG3, jP3, jG4, jP4, jG5, jP5, jG8, jP8, jG9, jP9, jG10, jP10, jG11, jP11, jG1, jP1, jG6, jP6, jG7, jP7, jG12, jP12, wj2, wk2, wn2, wj3, wk3, wn3, wj4, wk4, wn4, wj5, wk5, wn5, wj6, wk6, wn6, wj7, wk7, wn7, wj8, wk8, wn8, wj9, wk9, wn9, wj10, wk10, wn10, Nat.reduceEqDiff, reduceIte, false_and, true_and, and_true, and_self, if_false, if_true, and_false]
      rw [if_neg (by omega), wp_ret hget]
      unfold rxk at hxJ
      have hmn : (if (400 : Int) < lg then (400 : Int) else lg) = lg := if_neg (by omega)
      refine ⟨by omega, hxJ, by decide, by omega, ?_⟩
      rw [hmn]
      exact srch lg.toNat LFU lg (by unfold LFU; omega) (by omega) (Int.le_refl _) (fun l l0 l1 => by omega)
theorem c_measureReach {E : Int → Int} {Q : Int → JS → Prop} (hx : rxk J id) (hm0 : 0 ≤ m) (hm : m ≤ 400) (hml : js J 1 id = m) (hrl : m ≤ rl id) (hE : ∀ i, 0 ≤ i → i < m → ja J 1 id i = E i) (hE2 : ∀ i, 0 ≤ i → i < m → 0 ≤ E i ∧ E i < 400) (hq : ∀ J' mx, FrU J J' → rOK E m 0 (ja J' 9 0) → rMx m 0 (ja J' 9 0) mx → (0 ≤ mx ∧ mx ≤ 400) → Q mx J') : wp (G1_measureReach id) Q J := by
  have hx' := hx
  unfold rxk at hx'
  unfold G1_measureReach
  simp only [wp_ib, wp_ig, wp_ite, jp_ret, jp_nz, jp_dI, jp_rI, jp_g9, jp_E, jpN1, jp_Bk, jp_Ck, jp_W, jp_R, jp_Tx, jp_Sl, jp_Sc, jp_Si, jp_Sq, jp_Xl, jp_X0, jp_Xc, jp_Xs, jp_Xi, jp_Tos, jp_NB, jp_NC, kj_1, kj_2, kj_3, kj_4, jpA1, jpS1, jp_con, ju1_s, ju1_a, ju2_s, ju2_a, juA_s, juA_a, jux_s, jux_a, jux_x, jux_t, ju1_jB, ju2_jB, juA_jB, ju1_jC, ju2_jC, juA_jC, ju1_jT, ju2_jT, juA_jT, ju1_jb, ju2_jb, juA_jb, ju1_jd, ju2_jd, juA_jd, ju1_jt, ju2_jt, juA_jt, ju1_jx, ju2_jx, juA_jx, ju1_jw, ju2_jw, juA_jw, ju1_jr, ju2_jr, juA_jr, ju1_jn, ju2_jn, juA_jn, jux_jB, jux_jC, jux_jT, jux_jb, jux_jd, jux_jw, jux_jr, jux_jn, jG2, jP2, jG3, jP3, jG4, jP4, jG5, jP5, jG8, jP8, jG9, jP9, jG10, jP10, jG11, jP11, jG1, jP1, jG6, jP6, jG7, jP7, jG12, jP12, wj2, wk2, wn2, wj3, wk3, wn3, wj4, wk4, wn4, wj5, wk5, wn5, wj6, wk6, wn6, wj7, wk7, wn7, wj8, wk8, wn8, wj9, wk9, wn9, wj10, wk10, wn10, Nat.reduceEqDiff, reduceIte, false_and, true_and, and_true, and_self, if_false, if_true, and_false]
  have hmn : (if (400 : Int) < js J 1 id then (400 : Int) else js J 1 id) = m := by rw [hml]; exact if_neg (by omega)
  rw [hmn]
  refine ⟨hx', by decide, by omega, ?_⟩
  refine c_reach hx hm0 hm hml hrl hE hE2 hq m.toNat LFU J 0 (m - 1) (by unfold LFU; omega) (by omega) FrU.refl (by omega) (fun i q1 q2 => by omega) ⟨fun l q1 q2 => by omega, fun i q1 q2 => by omega, fun l l' q1 q2 q3 => by omega, by omega⟩ ⟨fun i q1 q2 => by omega, Or.inl ⟨by omega, rfl⟩⟩
end LIC
