/-! ===== the class sets out a book's leaves ===== -/
/-- one number more in a Row -/
def FrA (J J' : JS) (id : Nat) (n v : Int) : Prop := js J' 1 id = n + 1 ∧ (∀ t i, ¬ (t = 1 ∧ i = id) → js J' t i = js J t i) ∧ (∀ l, ja J' 1 id l = if l = n then v else ja J 1 id l) ∧ (∀ t i, ¬ (t = 1 ∧ i = id) → ja J' t i = ja J t i) ∧ J'.2.2 = J.2.2
/-- only the book's four rows are written; and where its leaves begin -/
def FrL4 (b : Nat) (J J' : JS) : Prop := (∀ t i, ¬ (t = 1 ∧ 100 + 4 * b ≤ i ∧ i < 104 + 4 * b) → js J' t i = js J t i) ∧ (∀ t i, ¬ (t = 1 ∧ 100 + 4 * b ≤ i ∧ i < 104 + 4 * b) → ja J' t i = ja J t i) ∧ J'.2.2 = J.2.2
def FrK (b : Nat) (J J' : JS) : Prop := (∀ t i, ¬ (t = 1 ∧ 100 + 4 * b ≤ i ∧ i < 104 + 4 * b) → js J' t i = js J t i) ∧ (∀ t i, ¬ ((t = 1 ∧ 100 + 4 * b ≤ i ∧ i < 104 + 4 * b) ∨ (t = 7 ∧ i = b)) → ja J' t i = ja J t i) ∧ J'.2.2 = J.2.2
/-- n leaves are set out -/
def CLf (J : JS) (b : Nat) (B : BK) (n : Int) : Prop := (js J 1 (100 + 4 * b) = n ∧ js J 1 (101 + 4 * b) = n ∧ js J 1 (102 + 4 * b) = n ∧ js J 1 (103 + 4 * b) = n) ∧ ∀ p, 0 ≤ p → p < n → isAt B p (ja J 1 (100 + 4 * b) p) (ja J 1 (101 + 4 * b) p) (ja J 1 (103 + 4 * b) p) ∧ ja J 1 (102 + 4 * b) p = knd B (ja J 1 (100 + 4 * b) p) (ja J 1 (101 + 4 * b) p) (ja J 1 (103 + 4 * b) p)
/-- where they begin, of those ahead of g, i -/
def AhL (J : JS) (b : Nat) (B : BK) (g i : Int) : Prop := ∀ g' i', isV B g' i' → (g' < g ∨ (g' = g ∧ i' < i)) → ja J 7 b (slt B g' i') = ah B g' i'
section SET
variable {J : JS} {B : BK} {b : Nat}
theorem FrK.refl : FrK b J J := ⟨fun _ _ _ => rfl, fun _ _ _ => rfl, rfl⟩
theorem FrK.trans {J1 J2 J3 : JS} (h : FrK b J1 J2) (h' : FrK b J2 J3) : FrK b J1 J3 := ⟨fun t i q => (h'.1 t i q).trans (h.1 t i q), fun t i q => (h'.2.1 t i q).trans (h.2.1 t i q), h'.2.2.trans h.2.2⟩
theorem FrL4.kk {J' : JS} (h : FrL4 b J J') : FrK b J J' := ⟨h.1, fun t i q => h.2.1 t i (fun c => q (Or.inl c)), h.2.2⟩
theorem jB_r {J' : JS} (h : J'.2.2 = J.2.2) : jB J' = jB J := by unfold jB; rw [h]
theorem jC_r {J' : JS} (h : J'.2.2 = J.2.2) : jC J' = jC J := by unfold jC; rw [h]
theorem w_addA {id : Nat} {n v : Int} (hx : rxk J id) (h : js J 1 id = n) (h0 : 0 ≤ n ∧ n < rl id) {Q : Int → JS → Prop} (hq : ∀ J', FrA J J' id n v → Q 1 J') : wp (G8_add id v) Q J := by
  rw [wp_ret (c_add hx (by omega) (by omega))]
  refine hq _ ⟨?_, fun t i c => ?_, fun l => ?_, fun t i c => ?_, rfl⟩
  · rw [addR_s, if_pos ⟨rfl, rfl⟩, h]
  · rw [addR_s, if_neg c]
  · rw [addR_a, h]
    by_cases e : l = n
    · rw [if_pos ⟨rfl, rfl, e⟩, if_pos e]
    · rw [if_neg (fun q => e q.2.2), if_neg e]
  · funext l
    rw [addR_a, if_neg (fun q => c ⟨q.1, q.2.1⟩)]
theorem c_addLeaf (hb : b < jB J) {n g i k kd : Int} (hn : 0 ≤ n ∧ n < 400) (hL : CLf J b B n) (hA : isAt B n g i k) (hkd : kd = knd B g i k) {Q : Unit → JS → Prop} (hq : ∀ J', FrL4 b J J' → CLf J' b B (n + 1) → Q () J') : wp (G0_addLeaf b g i kd k) Q J := by
  obtain ⟨⟨l0, l1, l2, l3⟩, hl⟩ := hL
  have hr : ∀ r, 100 + 4 * b ≤ r → rl r = 400 := fun r hr => by unfold rl; rw [if_neg (by omega)]
  unfold G0_addLeaf
  simp only [wp_ib, wp_ig, wp_ite, jp_ret, jp_nz, jp_dI, jp_rI, jp_g9, jp_E, jpN1, jp_Bk, jp_Ck, jp_W, jp_R, jp_Tx, jp_Sl, jp_Sc, jp_Si, jp_Sq, jp_Xl, jp_X0, jp_Xc, jp_Xs, jp_Xi, jp_Tos, jp_NB, jp_NC, kj_1, kj_2, kj_3, kj_4, jpA1, jpS1, jp_con, ju1_s, ju1_a, ju2_s, ju2_a, juA_s, juA_a, jux_s, jux_a, jux_x, jux_t, ju1_jB, ju2_jB, juA_jB, ju1_jC, ju2_jC, juA_jC, ju1_jT, ju2_jT, juA_jT, ju1_jb, ju2_jb, juA_jb, ju1_jd, ju2_jd, juA_jd, ju1_jt, ju2_jt, juA_jt, ju1_jx, ju2_jx, juA_jx, ju1_jw, ju2_jw, juA_jw, ju1_jr, ju2_jr, juA_jr, ju1_jn, ju2_jn, juA_jn, jux_jB, jux_jC, jux_jT, jux_jb, jux_jd, jux_jw, jux_jr, jux_jn, jG2, jP2, jG3, jP3, jG4, jP4, jG5, jP5, jG8, jP8, jG9, jP9, jG10, jP10, jG11, jP11, jG1, jP1, jG6, jP6, jG7, jP7, jG12, jP12, wj2, wk2, wn2, wj3, wk3, wn3, wj4, wk4, wn4, wj5, wk5, wn5, wj6, wk6, wn6, wj7, wk7, wn7, wj8, wk8, wn8, wj9, wk9, wn9, wj10, wk10, wn10, Nat.reduceEqDiff, reduceIte, false_and, true_and, and_true, and_self, if_false, if_true, and_false]
  refine ⟨hb, by omega, w_addA (n := n) (by unfold rxk; omega) l0 (by rw [hr _ (by omega)]; omega) fun J1 f1 => ?_⟩
  have b1 := jB_r f1.2.2.2.2
  rw [b1]
  refine ⟨hb, by omega, w_addA (n := n) (by unfold rxk; omega) (by rw [f1.2.1 _ _ (by omega)]; exact l1) (by rw [hr _ (by omega)]; omega) fun J2 f2 => ?_⟩
  have b2 := (jB_r f2.2.2.2.2).trans b1
  rw [b2]
  refine ⟨hb, by omega, w_addA (n := n) (by unfold rxk; omega) (by rw [f2.2.1 _ _ (by omega), f1.2.1 _ _ (by omega)]; exact l2) (by rw [hr _ (by omega)]; omega) fun J3 f3 => ?_⟩
  have b3 := (jB_r f3.2.2.2.2).trans b2
  rw [b3]
  refine ⟨hb, by omega, w_addA (n := n) (by unfold rxk; omega) (by rw [f3.2.1 _ _ (by omega), f2.2.1 _ _ (by omega), f1.2.1 _ _ (by omega)]; exact l3) (by rw [hr _ (by omega)]; omega) fun J4 f4 => ?_⟩
  refine hq J4 ⟨fun t i c => ?_, fun t i c => ?_, f4.2.2.2.2.trans (f3.2.2.2.2.trans (f2.2.2.2.2.trans f1.2.2.2.2))⟩ ⟨⟨?_, ?_, ?_, ?_⟩, fun p p0 p1 => ?_⟩
  · rw [f4.2.1 t i (by omega), f3.2.1 t i (by omega), f2.2.1 t i (by omega), f1.2.1 t i (by omega)]
  · rw [f4.2.2.2.1 t i (by omega), f3.2.2.2.1 t i (by omega), f2.2.2.2.1 t i (by omega), f1.2.2.2.1 t i (by omega)]
  · rw [f4.2.1 _ _ (by omega), f3.2.1 _ _ (by omega), f2.2.1 _ _ (by omega), f1.1]
  · rw [f4.2.1 _ _ (by omega), f3.2.1 _ _ (by omega), f2.1]
  · rw [f4.2.1 _ _ (by omega), f3.1]
  · exact f4.1
  · rw [f4.2.2.2.1 1 (100 + 4 * b) (by omega), f3.2.2.2.1 1 (100 + 4 * b) (by omega), f2.2.2.2.1 1 (100 + 4 * b) (by omega), f1.2.2.1 p, f4.2.2.2.1 1 (101 + 4 * b) (by omega), f3.2.2.2.1 1 (101 + 4 * b) (by omega), f2.2.2.1 p, f1.2.2.2.1 1 (101 + 4 * b) (by omega), f4.2.2.2.1 1 (102 + 4 * b) (by omega), f3.2.2.1 p, f2.2.2.2.1 1 (102 + 4 * b) (by omega), f1.2.2.2.1 1 (102 + 4 * b) (by omega), f4.2.2.1 p, f3.2.2.2.1 1 (103 + 4 * b) (by omega), f2.2.2.2.1 1 (103 + 4 * b) (by omega), f1.2.2.2.1 1 (103 + 4 * b) (by omega)]
    by_cases e : p = n
    · subst e
      rw [if_pos rfl, if_pos rfl, if_pos rfl, if_pos rfl]
      exact ⟨hA, hkd⟩
    · rw [if_neg e, if_neg e, if_neg e, if_neg e]
      exact hl p p0 (by omega)
theorem PlR.fk {J' : JS} {p : Nat} (hP : PlR J p B) (h : FrK b J J') : PlR J' p B := by
  obtain ⟨p1, p2, p3, p4, p5⟩ := hP
  unfold PlR
  rw [h.1 6 p (by omega), h.2.1 3 p (by omega), h.2.1 4 p (by omega), h.2.1 5 p (by omega), h.2.1 6 p (by omega)]
  exact ⟨p1, p2, p3, p4, p5⟩
theorem AhL.l4 {J' : JS} {g i : Int} (hA : AhL J b B g i) (h : FrL4 b J J') : AhL J' b B g i := by
  unfold AhL
  rw [h.2.1 7 b (by omega)]
  exact hA
/-- those put in behind one leaf -/
theorem c_setOut99 {J0 : JS} (hb : b < jB J0) (hP : PlR J0 (b + 1) B) (hB : BOK B) (hT : LC B ≤ 400) {g i : Int} (hV : isV B g i) {k11 : Nat → Int → Int → Int → JM Unit} {Q : Unit → JS → Prop}
    (hk : ∀ J' n, FrK b J0 J' → CLf J' b B n → AhL J' b B g (i + 1) → n = ah B g (i + 1) → wp (k11 b g (bs B g) (i + 1)) Q J') :
    ∀ (d m : Nat) (J : JS) (n k : Int), d < m → k + d = bm B g i + 1 → 1 ≤ k → n = ah B g i + k - cut B g i → FrK b J0 J → CLf J b B n → AhL J b B g (i + 1) → wp (G0_setOut_99 k11 m b g (bs B g) i (slt B g i) k) Q J := by
  have hm := hB.2.2.1 g i hV.1.1 hV.1.2 hV.2.1 hV.2.2
  have hc := cut01 (B := B) g i
  intro d
  induction d with
  | zero =>
    intro m J n k hm' hd hk0 hn hF hL hA
    cases m with
    | zero => omega
    | succ m =>
      have eb := jB_r hF.2.2
      unfold G0_setOut_99 G0_setOut_99_st G0_setOut_128
      simp only [wp_ib, wp_ig, wp_ite, jp_ret, jp_nz, jp_dI, jp_rI, jp_g9, jp_E, jpN1, jp_Bk, jp_Ck, jp_W, jp_R, jp_Tx, jp_Sl, jp_Sc, jp_Si, jp_Sq, jp_Xl, jp_X0, jp_Xc, jp_Xs, jp_Xi, jp_Tos, jp_NB, jp_NC, kj_1, kj_2, kj_3, kj_4, jpA1, jpS1, jp_con, ju1_s, ju1_a, ju2_s, ju2_a, juA_s, juA_a, jux_s, jux_a, jux_x, jux_t, ju1_jB, ju2_jB, juA_jB, ju1_jC, ju2_jC, juA_jC, ju1_jT, ju2_jT, juA_jT, ju1_jb, ju2_jb, juA_jb, ju1_jd, ju2_jd, juA_jd, ju1_jt, ju2_jt, juA_jt, ju1_jx, ju2_jx, juA_jx, ju1_jw, ju2_jw, juA_jw, ju1_jr, ju2_jr, juA_jr, ju1_jn, ju2_jn, juA_jn, jux_jB, jux_jC, jux_jT, jux_jb, jux_jd, jux_jw, jux_jr, jux_jn, jG2, jP2, jG3, jP3, jG4, jP4, jG5, jP5, jG8, jP8, jG9, jP9, jG10, jP10, jG11, jP11, jG1, jP1, jG6, jP6, jG7, jP7, jG12, jP12, wj2, wk2, wn2, wj3, wk3, wn3, wj4, wk4, wn4, wj5, wk5, wn5, wj6, wk6, wn6, wj7, wk7, wn7, wj8, wk8, wn8, wj9, wk9, wn9, wj10, wk10, wn10, Nat.reduceEqDiff, reduceIte, false_and, true_and, and_true, and_self, if_false, if_true, and_false]
      rw [wp_ret (c_ins (by omega) (hP.fk hF) hB hV), if_pos (by omega)]
      refine ⟨by omega, by omega, by omega, by omega, hk J n hF hL hA ?_⟩
      rw [ah_sn hV.2.1]
      unfold cnt
      omega
  | succ d ih =>
    intro m J n k hm' hd hk0 hn hF hL hA
    cases m with
    | zero => omega
    | succ m =>
      have eb := jB_r hF.2.2
      have hAt : isAt B n g i k := ⟨hV, ⟨by omega, by omega⟩, hn⟩
      have hl := LC_bd hB hAt
      unfold G0_setOut_99 G0_setOut_99_st
      simp only [wp_ib, wp_ig, wp_ite, jp_ret, jp_nz, jp_dI, jp_rI, jp_g9, jp_E, jpN1, jp_Bk, jp_Ck, jp_W, jp_R, jp_Tx, jp_Sl, jp_Sc, jp_Si, jp_Sq, jp_Xl, jp_X0, jp_Xc, jp_Xs, jp_Xi, jp_Tos, jp_NB, jp_NC, kj_1, kj_2, kj_3, kj_4, jpA1, jpS1, jp_con, ju1_s, ju1_a, ju2_s, ju2_a, juA_s, juA_a, jux_s, jux_a, jux_x, jux_t, ju1_jB, ju2_jB, juA_jB, ju1_jC, ju2_jC, juA_jC, ju1_jT, ju2_jT, juA_jT, ju1_jb, ju2_jb, juA_jb, ju1_jd, ju2_jd, juA_jd, ju1_jt, ju2_jt, juA_jt, ju1_jx, ju2_jx, juA_jx, ju1_jw, ju2_jw, juA_jw, ju1_jr, ju2_jr, juA_jr, ju1_jn, ju2_jn, juA_jn, jux_jB, jux_jC, jux_jT, jux_jb, jux_jd, jux_jw, jux_jr, jux_jn, jG2, jP2, jG3, jP3, jG4, jP4, jG5, jP5, jG8, jP8, jG9, jP9, jG10, jP10, jG11, jP11, jG1, jP1, jG6, jP6, jG7, jP7, jG12, jP12, wj2, wk2, wn2, wj3, wk3, wn3, wj4, wk4, wn4, wj5, wk5, wn5, wj6, wk6, wn6, wj7, wk7, wn7, wj8, wk8, wn8, wj9, wk9, wn9, wj10, wk10, wn10, Nat.reduceEqDiff, reduceIte, false_and, true_and, and_true, and_self, if_false, if_true, and_false]
      rw [wp_ret (c_ins (by omega) (hP.fk hF) hB hV), if_neg (by omega)]
      refine ⟨by omega, by omega, by omega, by omega, by omega, ?_⟩
      refine c_addLeaf (by omega) (by omega) hL hAt (by unfold knd; rw [if_pos (by omega)]) fun J' f hL' => ?_
      exact ih m J' (n + 1) (k + 1) (by omega) (by omega) (by omega) (by omega) (hF.trans f.kk) hL' (hA.l4 f)
theorem c_setOut60 {J0 J : JS} (hb : b < jB J0) (hP : PlR J0 (b + 1) B) (hB : BOK B) (hT : LC B ≤ 400) {g i : Int} (hV : isV B g i) {k11 : Nat → Int → Int → Int → JM Unit} {Q : Unit → JS → Prop}
    (hk : ∀ J' n, FrK b J0 J' → CLf J' b B n → AhL J' b B g (i + 1) → n = ah B g (i + 1) → wp (k11 b g (bs B g) (i + 1)) Q J') (hF : FrK b J0 J) (hL : CLf J b B (ah B g i)) (hA : AhL J b B g (i + 1)) : wp (G0_setOut_60 k11 b g (bs B g) i (slt B g i)) Q J := by
  have hm := hB.2.2.1 g i hV.1.1 hV.1.2 hV.2.1 hV.2.2
  have hc := cut01 (B := B) g i
  have eb := jB_r hF.2.2
  have nx : ∀ (J1 : JS) (n1 : Int), FrK b J0 J1 → CLf J1 b B n1 → AhL J1 b B g (i + 1) → n1 = ah B g i + 1 - cut B g i → wp (G0_setOut_96 k11 b g (bs B g) i (slt B g i)) Q J1 := fun J1 n1 f l a e => by
    unfold G0_setOut_96
    exact c_setOut99 hb hP hB hT hV hk (bm B g i).toNat LFU J1 n1 1 (by unfold LFU; omega) (by omega) (by omega) e f l a
  have one : ∀ y0, y0 = knd B g i 0 → cut B g i = 0 → wp (G0_setOut_92 k11 b g (bs B g) i (slt B g i) y0 i g) Q J := fun y0 hy h0 => by
    have hAt : isAt B (ah B g i) g i 0 := ⟨hV, ⟨by omega, by omega⟩, by omega⟩
    have hl := LC_bd hB hAt
    unfold G0_setOut_92
    simp only [wp_ib, wp_ig, wp_ite, jp_ret, jp_nz, jp_dI, jp_rI, jp_g9, jp_E, jpN1, jp_Bk, jp_Ck, jp_W, jp_R, jp_Tx, jp_Sl, jp_Sc, jp_Si, jp_Sq, jp_Xl, jp_X0, jp_Xc, jp_Xs, jp_Xi, jp_Tos, jp_NB, jp_NC, kj_1, kj_2, kj_3, kj_4, jpA1, jpS1, jp_con, ju1_s, ju1_a, ju2_s, ju2_a, juA_s, juA_a, jux_s, jux_a, jux_x, jux_t, ju1_jB, ju2_jB, juA_jB, ju1_jC, ju2_jC, juA_jC, ju1_jT, ju2_jT, juA_jT, ju1_jb, ju2_jb, juA_jb, ju1_jd, ju2_jd, juA_jd, ju1_jt, ju2_jt, juA_jt, ju1_jx, ju2_jx, juA_jx, ju1_jw, ju2_jw, juA_jw, ju1_jr, ju2_jr, juA_jr, ju1_jn, ju2_jn, juA_jn, jux_jB, jux_jC, jux_jT, jux_jb, jux_jd, jux_jw, jux_jr, jux_jn, jG2, jP2, jG3, jP3, jG4, jP4, jG5, jP5, jG8, jP8, jG9, jP9, jG10, jP10, jG11, jP11, jG1, jP1, jG6, jP6, jG7, jP7, jG12, jP12, wj2, wk2, wn2, wj3, wk3, wn3, wj4, wk4, wn4, wj5, wk5, wn5, wj6, wk6, wn6, wj7, wk7, wn7, wj8, wk8, wn8, wj9, wk9, wn9, wj10, wk10, wn10, Nat.reduceEqDiff, reduceIte, false_and, true_and, and_true, and_self, if_false, if_true, and_false]
    refine ⟨by omega, c_addLeaf (by omega) (by omega) hL hAt hy fun J' f hL' => ?_⟩
    exact nx J' _ (hF.trans f.kk) hL' (hA.l4 f) (by omega)
  unfold G0_setOut_60
  simp only [wp_ib, wp_ig, wp_ite, jp_ret, jp_nz, jp_dI, jp_rI, jp_g9, jp_E, jpN1, jp_Bk, jp_Ck, jp_W, jp_R, jp_Tx, jp_Sl, jp_Sc, jp_Si, jp_Sq, jp_Xl, jp_X0, jp_Xc, jp_Xs, jp_Xi, jp_Tos, jp_NB, jp_NC, kj_1, kj_2, kj_3, kj_4, jpA1, jpS1, jp_con, ju1_s, ju1_a, ju2_s, ju2_a, juA_s, juA_a, jux_s, jux_a, jux_x, jux_t, ju1_jB, ju2_jB, juA_jB, ju1_jC, ju2_jC, juA_jC, ju1_jT, ju2_jT, juA_jT, ju1_jb, ju2_jb, juA_jb, ju1_jd, ju2_jd, juA_jd, ju1_jt, ju2_jt, juA_jt, ju1_jx, ju2_jx, juA_jx, ju1_jw, ju2_jw, juA_jw, ju1_jr, ju2_jr, juA_jr, ju1_jn, ju2_jn, juA_jn, jux_jB, jux_jC, jux_jT, jux_jb, jux_jd, jux_jw, jux_jr, jux_jn, jG2, jP2, jG3, jP3, jG4, jP4, jG5, jP5, jG8, jP8, jG9, jP9, jG10, jP10, jG11, jP11, jG1, jP1, jG6, jP6, jG7, jP7, jG12, jP12, wj2, wk2, wn2, wj3, wk3, wn3, wj4, wk4, wn4, wj5, wk5, wn5, wj6, wk6, wn6, wj7, wk7, wn7, wj8, wk8, wn8, wj9, wk9, wn9, wj10, wk10, wn10, Nat.reduceEqDiff, reduceIte, false_and, true_and, and_true, and_self, if_false, if_true, and_false]
  rw [wp_ret (c_isCut (by omega) (hP.fk hF) hB hV)]
  refine ⟨by omega, by omega, by omega, ?_⟩
  by_cases c : cut B g i = 0
  · rw [if_pos c, wp_ret (c_isReplaced (by omega) (hP.fk hF) hB hV)]
    refine ⟨by omega, by omega, ifR, ?_⟩
    have hk0 : knd B g i 0 = if bf B g i = 0 then 0 else 1 := by unfold knd; rw [if_neg (by omega)]
    by_cases c2 : bf B g i = 2
    · rw [if_pos c2, if_neg (by omega)]
      exact one 1 (by rw [hk0, if_neg (by omega)]) c
    · rw [if_neg c2, if_pos rfl]
      have : bf B g i ≠ 1 := fun e => by unfold cut at c; rw [if_pos e] at c; omega
      exact one 0 (by rw [hk0, if_pos (by omega)]) c
  · rw [if_neg c]
    exact nx J _ hF hL hA (by omega)
end SET
