/-! ===== the class cuts its tape into pieces ===== -/
def TpR (J : JS) (T : Int → Int) (n : Int) : Prop := js J 2 0 = n ∧ byt T n ∧ ∀ i, 0 ≤ i → i < n → iAnd (ja J 2 0 i) 255 = T i
def addR (J : JS) (id : Nat) (v : Int) : JS := ju2 (ju1 J 1 id (js J 1 id + 1)) 1 id (js J 1 id) v
/-- as many rows as told hold the pieces -/
def TkR (J : JS) (T : Int → Int) (n : Int) (j : Nat) : Prop := (js J 1 0 = j ∧ js J 1 1 = j ∧ js J 1 2 = j) ∧ ∀ i : Nat, i < j → ja J 1 0 i = kdP T n (tkP T n i) ∧ ja J 1 1 i = tkP T n i ∧ ja J 1 2 i = vlP T n (tkP T n i)
def FrT (J J' : JS) : Prop := (∀ t i, ¬ (t = 1 ∧ i ≤ 2) → js J' t i = js J t i) ∧ (∀ t i, ¬ (t = 1 ∧ i ≤ 2) → ja J' t i = ja J t i) ∧ J'.2.2 = J.2.2
section CLX
variable {J : JS} {T : Int → Int} {n : Int}
theorem FrT.trans {J1 J2 J3 : JS} (h : FrT J1 J2) (h' : FrT J2 J3) : FrT J1 J3 := ⟨fun t i q => (h'.1 t i q).trans (h.1 t i q), fun t i q => (h'.2.1 t i q).trans (h.2.1 t i q), h'.2.2.trans h.2.2⟩
theorem FrT.refl : FrT J J := ⟨fun _ _ _ => rfl, fun _ _ _ => rfl, rfl⟩
theorem iC16_b {v : Int} (h0 : 0 ≤ v) (h1 : v < 256) : iC16 v = v := by
  have key : ∀ i : Fin 256, iC16 (i.1 : Int) = (i.1 : Int) := by decide +kernel
  have := key ⟨v.toNat, by omega⟩
  have e : ((v.toNat : Nat) : Int) = v := by omega
  simp only [e] at this
  exact this
theorem c_byteAt (hT : TpR J T n) {i : Int} (hi : R32 i) : G10_byteAt i J = some (if 0 ≤ i ∧ i < n then T i else -1, J) := by
  have hn := hT.2.1.1
  refine wp_eq ?_
  unfold G10_byteAt
  simp only [wp_ib, wp_ig, wp_ite, jp_ret, jp_nz, jp_dI, jp_rI, jp_g9, jp_E, jpN1, jp_Bk, jp_Ck, jp_W, jp_R, jp_Tx, jp_Sl, jp_Sc, jp_Si, jp_Sq, jp_Xl, jp_X0, jp_Xc, jp_Xs, jp_Xi, jp_Tos, jp_NB, jp_NC, kj_1, kj_2, kj_3, kj_4, jpA1, jpS1, jp_con, ju1_s, ju1_a, ju2_s, ju2_a, juA_s, juA_a, jux_s, jux_a, jux_x, jux_t, ju1_jB, ju2_jB, juA_jB, ju1_jC, ju2_jC, juA_jC, ju1_jT, ju2_jT, juA_jT, ju1_jb, ju2_jb, juA_jb, ju1_jd, ju2_jd, juA_jd, ju1_jt, ju2_jt, juA_jt, ju1_jx, ju2_jx, juA_jx, ju1_jw, ju2_jw, juA_jw, ju1_jr, ju2_jr, juA_jr, ju1_jn, ju2_jn, juA_jn, jux_jB, jux_jC, jux_jT, jux_jb, jux_jd, jux_jw, jux_jr, jux_jn, jG2, jP2, jG3, jP3, jG4, jP4, jG5, jP5, jG8, jP8, jG9, jP9, jG10, jP10, jG11, jP11, jG1, jP1, jG6, jP6, jG7, jP7, jG12, jP12, wj2, wk2, wn2, wj3, wk3, wn3, wj4, wk4, wn4, wj5, wk5, wn5, wj6, wk6, wn6, wj7, wk7, wn7, wj8, wk8, wn8, wj9, wk9, wn9, wj10, wk10, wn10, Nat.reduceEqDiff, reduceIte, false_and, true_and, and_true, and_self, if_false, if_true, and_false]
  refine ⟨hi, ?_⟩
  by_cases h : i < 0
  · rw [if_pos h, if_neg (by omega)]; (first | done | exact ⟨rfl, rfl⟩ | exact ⟨trivial, rfl⟩ | exact ⟨rfl, trivial⟩ | rfl | trivial)
  · rw [if_neg h, hT.1]
    refine ⟨by omega, ?_⟩
    by_cases h2 : n ≤ i
    · rw [if_pos h2, if_neg (by omega)]; (first | done | exact ⟨rfl, rfl⟩ | exact ⟨trivial, rfl⟩ | exact ⟨rfl, trivial⟩ | rfl | trivial)
    · rw [if_neg h2, if_pos (by omega), if_pos (by omega), hT.2.2 i (by omega) (by omega)]
      exact ⟨by omega, by omega, by (first | done | exact ⟨rfl, rfl⟩ | exact ⟨trivial, rfl⟩ | exact ⟨rfl, trivial⟩ | rfl | trivial)⟩
theorem c_byte (hT : TpR J T n) {i : Int} (h0 : 0 ≤ i) (h1 : i < n) : G10_byteAt i J = some (T i, J) := by
  have hn := hT.2.1.1
  rw [c_byteAt hT (by omega), if_pos ⟨h0, h1⟩]
theorem c_isLetter {c : Int} (h : R32 c) : G10_isLetter c J = some (if isLt c then 1 else 0, J) := by
  refine wp_eq ?_
  unfold G10_isLetter
  simp only [wp_ib, wp_ig, wp_ite, jp_ret, jp_nz, jp_dI, jp_rI, jp_g9, jp_E, jpN1, jp_Bk, jp_Ck, jp_W, jp_R, jp_Tx, jp_Sl, jp_Sc, jp_Si, jp_Sq, jp_Xl, jp_X0, jp_Xc, jp_Xs, jp_Xi, jp_Tos, jp_NB, jp_NC, kj_1, kj_2, kj_3, kj_4, jpA1, jpS1, jp_con, ju1_s, ju1_a, ju2_s, ju2_a, juA_s, juA_a, jux_s, jux_a, jux_x, jux_t, ju1_jB, ju2_jB, juA_jB, ju1_jC, ju2_jC, juA_jC, ju1_jT, ju2_jT, juA_jT, ju1_jb, ju2_jb, juA_jb, ju1_jd, ju2_jd, juA_jd, ju1_jt, ju2_jt, juA_jt, ju1_jx, ju2_jx, juA_jx, ju1_jw, ju2_jw, juA_jw, ju1_jr, ju2_jr, juA_jr, ju1_jn, ju2_jn, juA_jn, jux_jB, jux_jC, jux_jT, jux_jb, jux_jd, jux_jw, jux_jr, jux_jn, jG2, jP2, jG3, jP3, jG4, jP4, jG5, jP5, jG8, jP8, jG9, jP9, jG10, jP10, jG11, jP11, jG1, jP1, jG6, jP6, jG7, jP7, jG12, jP12, wj2, wk2, wn2, wj3, wk3, wn3, wj4, wk4, wn4, wj5, wk5, wn5, wj6, wk6, wn6, wj7, wk7, wn7, wj8, wk8, wn8, wj9, wk9, wn9, wj10, wk10, wn10, Nat.reduceEqDiff, reduceIte, false_and, true_and, and_true, and_self, if_false, if_true, and_false]
  refine ⟨h, ?_⟩
  by_cases h1 : c < 97
  · rw [if_pos h1, if_neg (by omega)]; (first | done | exact ⟨rfl, rfl⟩ | exact ⟨trivial, rfl⟩ | exact ⟨rfl, trivial⟩ | rfl | trivial)
  · rw [if_neg h1]
    by_cases h2 : 122 < c
    · rw [if_pos h2, if_neg (by omega)]; (first | done | exact ⟨rfl, rfl⟩ | exact ⟨trivial, rfl⟩ | exact ⟨rfl, trivial⟩ | rfl | trivial)
    · rw [if_neg h2, if_pos (by omega)]; (first | done | exact ⟨rfl, rfl⟩ | exact ⟨trivial, rfl⟩ | exact ⟨rfl, trivial⟩ | rfl | trivial)
theorem c_isDigit {c : Int} (h : R32 c) : G10_isDigit c J = some (if isDg c then 1 else 0, J) := by
  refine wp_eq ?_
  unfold G10_isDigit
  simp only [wp_ib, wp_ig, wp_ite, jp_ret, jp_nz, jp_dI, jp_rI, jp_g9, jp_E, jpN1, jp_Bk, jp_Ck, jp_W, jp_R, jp_Tx, jp_Sl, jp_Sc, jp_Si, jp_Sq, jp_Xl, jp_X0, jp_Xc, jp_Xs, jp_Xi, jp_Tos, jp_NB, jp_NC, kj_1, kj_2, kj_3, kj_4, jpA1, jpS1, jp_con, ju1_s, ju1_a, ju2_s, ju2_a, juA_s, juA_a, jux_s, jux_a, jux_x, jux_t, ju1_jB, ju2_jB, juA_jB, ju1_jC, ju2_jC, juA_jC, ju1_jT, ju2_jT, juA_jT, ju1_jb, ju2_jb, juA_jb, ju1_jd, ju2_jd, juA_jd, ju1_jt, ju2_jt, juA_jt, ju1_jx, ju2_jx, juA_jx, ju1_jw, ju2_jw, juA_jw, ju1_jr, ju2_jr, juA_jr, ju1_jn, ju2_jn, juA_jn, jux_jB, jux_jC, jux_jT, jux_jb, jux_jd, jux_jw, jux_jr, jux_jn, jG2, jP2, jG3, jP3, jG4, jP4, jG5, jP5, jG8, jP8, jG9, jP9, jG10, jP10, jG11, jP11, jG1, jP1, jG6, jP6, jG7, jP7, jG12, jP12, wj2, wk2, wn2, wj3, wk3, wn3, wj4, wk4, wn4, wj5, wk5, wn5, wj6, wk6, wn6, wj7, wk7, wn7, wj8, wk8, wn8, wj9, wk9, wn9, wj10, wk10, wn10, Nat.reduceEqDiff, reduceIte, false_and, true_and, and_true, and_self, if_false, if_true, and_false]
  refine ⟨h, ?_⟩
  by_cases h1 : c < 48
  · rw [if_pos h1, if_neg (by omega)]; (first | done | exact ⟨rfl, rfl⟩ | exact ⟨trivial, rfl⟩ | exact ⟨rfl, trivial⟩ | rfl | trivial)
  · rw [if_neg h1]
    by_cases h2 : 57 < c
    · rw [if_pos h2, if_neg (by omega)]; (first | done | exact ⟨rfl, rfl⟩ | exact ⟨trivial, rfl⟩ | exact ⟨rfl, trivial⟩ | rfl | trivial)
    · rw [if_neg h2, if_pos (by omega)]; (first | done | exact ⟨rfl, rfl⟩ | exact ⟨trivial, rfl⟩ | exact ⟨rfl, trivial⟩ | rfl | trivial)
theorem c_isMark {c : Int} (h : R32 c) : G10_isMark c J = some (if isMk c then 1 else 0, J) := by
  refine wp_eq ?_
  unfold G10_isMark
  simp only [wp_ib, wp_ig, wp_ite, jp_ret, jp_nz, jp_dI, jp_rI, jp_g9, jp_E, jpN1, jp_Bk, jp_Ck, jp_W, jp_R, jp_Tx, jp_Sl, jp_Sc, jp_Si, jp_Sq, jp_Xl, jp_X0, jp_Xc, jp_Xs, jp_Xi, jp_Tos, jp_NB, jp_NC, kj_1, kj_2, kj_3, kj_4, jpA1, jpS1, jp_con, ju1_s, ju1_a, ju2_s, ju2_a, juA_s, juA_a, jux_s, jux_a, jux_x, jux_t, ju1_jB, ju2_jB, juA_jB, ju1_jC, ju2_jC, juA_jC, ju1_jT, ju2_jT, juA_jT, ju1_jb, ju2_jb, juA_jb, ju1_jd, ju2_jd, juA_jd, ju1_jt, ju2_jt, juA_jt, ju1_jx, ju2_jx, juA_jx, ju1_jw, ju2_jw, juA_jw, ju1_jr, ju2_jr, juA_jr, ju1_jn, ju2_jn, juA_jn, jux_jB, jux_jC, jux_jT, jux_jb, jux_jd, jux_jw, jux_jr, jux_jn, jG2, jP2, jG3, jP3, jG4, jP4, jG5, jP5, jG8, jP8, jG9, jP9, jG10, jP10, jG11, jP11, jG1, jP1, jG6, jP6, jG7, jP7, jG12, jP12, wj2, wk2, wn2, wj3, wk3, wn3, wj4, wk4, wn4, wj5, wk5, wn5, wj6, wk6, wn6, wj7, wk7, wn7, wj8, wk8, wn8, wj9, wk9, wn9, wj10, wk10, wn10, Nat.reduceEqDiff, reduceIte, false_and, true_and, and_true, and_self, if_false, if_true, and_false]
  refine ⟨h, ?_⟩
  by_cases h1 : c = 40
  · rw [if_pos h1, if_pos (by omega)]; (first | done | exact ⟨rfl, rfl⟩ | exact ⟨trivial, rfl⟩ | exact ⟨rfl, trivial⟩ | rfl | trivial)
  · rw [if_neg h1]
    by_cases h2 : c = 41
    · rw [if_pos h2, if_pos (by omega)]; (first | done | exact ⟨rfl, rfl⟩ | exact ⟨trivial, rfl⟩ | exact ⟨rfl, trivial⟩ | rfl | trivial)
    · rw [if_neg h2]
      by_cases h3 : c = 44
      · rw [if_pos h3, if_pos (by omega)]; (first | done | exact ⟨rfl, rfl⟩ | exact ⟨trivial, rfl⟩ | exact ⟨rfl, trivial⟩ | rfl | trivial)
      · rw [if_neg h3]
        by_cases h4 : c = 45
        · rw [if_pos h4, if_pos (by omega)]; (first | done | exact ⟨rfl, rfl⟩ | exact ⟨trivial, rfl⟩ | exact ⟨rfl, trivial⟩ | rfl | trivial)
        · rw [if_neg h4]
          by_cases h5 : c = 43
          · rw [if_pos h5, if_pos (by omega)]; (first | done | exact ⟨rfl, rfl⟩ | exact ⟨trivial, rfl⟩ | exact ⟨rfl, trivial⟩ | rfl | trivial)
          · rw [if_neg h5]
            by_cases h6 : c = 61
            · rw [if_pos h6, if_pos (by omega)]; (first | done | exact ⟨rfl, rfl⟩ | exact ⟨trivial, rfl⟩ | exact ⟨rfl, trivial⟩ | rfl | trivial)
            · rw [if_neg h6, if_neg (by omega)]; (first | done | exact ⟨rfl, rfl⟩ | exact ⟨trivial, rfl⟩ | exact ⟨rfl, trivial⟩ | rfl | trivial)
theorem c_widthAt_32 (hT : TpR J T n) {p l : Int} (hp : 0 ≤ p) (hl : l = 0 ∨ l = 1) : ∀ (d m : Nat) (e : Int), d < m → p ≤ e → e + d = n → G10_widthAt_32 m p l e J = some ((if l = 0 then spD T d e else spL T d e) - p, J) := by
  have hn := hT.2.1.1
  intro d
  induction d with
  | zero =>
    intro m e hm he hd
    cases m with
    | zero => omega
    | succ m =>
      refine wp_eq ?_
      unfold G10_widthAt_32 G10_widthAt_32_st
      simp only [wp_ib, wp_ig, wp_ite, jp_ret, jp_nz, jp_dI, jp_rI, jp_g9, jp_E, jpN1, jp_Bk, jp_Ck, jp_W, jp_R, jp_Tx, jp_Sl, jp_Sc, jp_Si, jp_Sq, jp_Xl, jp_X0, jp_Xc, jp_Xs, jp_Xi, jp_Tos, jp_NB, jp_NC, kj_1, kj_2, kj_3, kj_4, jpA1, jpS1, jp_con, ju1_s, ju1_a, ju2_s, ju2_a, juA_s, juA_a, jux_s, jux_a, jux_x, jux_t, ju1_jB, ju2_jB, juA_jB, ju1_jC, ju2_jC, juA_jC, ju1_jT, ju2_jT, juA_jT, ju1_jb, ju2_jb, juA_jb, ju1_jd, ju2_jd, juA_jd, ju1_jt, ju2_jt, juA_jt, ju1_jx, ju2_jx, juA_jx, ju1_jw, ju2_jw, juA_jw, ju1_jr, ju2_jr, juA_jr, ju1_jn, ju2_jn, juA_jn, jux_jB, jux_jC, jux_jT, jux_jb, jux_jd, jux_jw, jux_jr, jux_jn, jG2, jP2, jG3, jP3, jG4, jP4, jG5, jP5, jG8, jP8, jG9, jP9, jG10, jP10, jG11, jP11, jG1, jP1, jG6, jP6, jG7, jP7, jG12, jP12, wj2, wk2, wn2, wj3, wk3, wn3, wj4, wk4, wn4, wj5, wk5, wn5, wj6, wk6, wn6, wj7, wk7, wn7, wj8, wk8, wn8, wj9, wk9, wn9, wj10, wk10, wn10, Nat.reduceEqDiff, reduceIte, false_and, true_and, and_true, and_self, if_false, if_true, and_false]
      rw [hT.1, if_pos (by omega)]
      refine ⟨by omega, by omega, ?_⟩
      unfold spD spL
      split <;> rfl
  | succ d ih =>
    intro m e hm he hd
    cases m with
    | zero => omega
    | succ m =>
      have hb := hT.2.1.2 e (by omega) (by omega)
      refine wp_eq ?_
      unfold G10_widthAt_32 G10_widthAt_32_st G10_widthAt_72
      simp only [wp_ib, wp_ig, wp_ite, jp_ret, jp_nz, jp_dI, jp_rI, jp_g9, jp_E, jpN1, jp_Bk, jp_Ck, jp_W, jp_R, jp_Tx, jp_Sl, jp_Sc, jp_Si, jp_Sq, jp_Xl, jp_X0, jp_Xc, jp_Xs, jp_Xi, jp_Tos, jp_NB, jp_NC, kj_1, kj_2, kj_3, kj_4, jpA1, jpS1, jp_con, ju1_s, ju1_a, ju2_s, ju2_a, juA_s, juA_a, jux_s, jux_a, jux_x, jux_t, ju1_jB, ju2_jB, juA_jB, ju1_jC, ju2_jC, juA_jC, ju1_jT, ju2_jT, juA_jT, ju1_jb, ju2_jb, juA_jb, ju1_jd, ju2_jd, juA_jd, ju1_jt, ju2_jt, juA_jt, ju1_jx, ju2_jx, juA_jx, ju1_jw, ju2_jw, juA_jw, ju1_jr, ju2_jr, juA_jr, ju1_jn, ju2_jn, juA_jn, jux_jB, jux_jC, jux_jT, jux_jb, jux_jd, jux_jw, jux_jr, jux_jn, jG2, jP2, jG3, jP3, jG4, jP4, jG5, jP5, jG8, jP8, jG9, jP9, jG10, jP10, jG11, jP11, jG1, jP1, jG6, jP6, jG7, jP7, jG12, jP12, wj2, wk2, wn2, wj3, wk3, wn3, wj4, wk4, wn4, wj5, wk5, wn5, wj6, wk6, wn6, wj7, wk7, wn7, wj8, wk8, wn8, wj9, wk9, wn9, wj10, wk10, wn10, Nat.reduceEqDiff, reduceIte, false_and, true_and, and_true, and_self, if_false, if_true, and_false]
      rw [hT.1, if_neg (by omega), wp_ret (c_byte hT (by omega) (by omega)), wp_ret (c_byte hT (by omega) (by omega)), wp_ret (c_isDigit (by omega)), wp_ret (c_isLetter (by omega))]
      refine ⟨by omega, by omega, by omega, ?_⟩
      have e1 : spD T (d + 1) e = if isDg (T e) then spD T d (e + 1) else e := rfl
      have e2 : spL T (d + 1) e = if isLt (T e) then spL T d (e + 1) else e := rfl
      by_cases c : l = 0
      · rw [if_pos c, if_pos c, e1]
        refine ⟨ifR, ?_⟩
        by_cases c2 : isDg (T e)
        · rw [if_pos c2, if_pos c2, if_neg (by decide), wp_ret (ih m (e + 1) (by omega) (by omega) (by omega)), if_pos c]
          (first | done | exact ⟨rfl, rfl⟩ | exact ⟨trivial, rfl⟩ | exact ⟨rfl, trivial⟩ | rfl | trivial)
        · rw [if_neg c2, if_neg c2, if_pos rfl]; (first | done | exact ⟨rfl, rfl⟩ | exact ⟨trivial, rfl⟩ | exact ⟨rfl, trivial⟩ | rfl | trivial)
      · rw [if_neg c, if_neg c, e2]
        refine ⟨ifR, ?_⟩
        by_cases c2 : isLt (T e)
        · rw [if_pos c2, if_pos c2, if_neg (by decide), wp_ret (ih m (e + 1) (by omega) (by omega) (by omega)), if_neg c]
          (first | done | exact ⟨rfl, rfl⟩ | exact ⟨trivial, rfl⟩ | exact ⟨rfl, trivial⟩ | rfl | trivial)
        · rw [if_neg c2, if_neg c2, if_pos rfl]; (first | done | exact ⟨rfl, rfl⟩ | exact ⟨trivial, rfl⟩ | exact ⟨rfl, trivial⟩ | rfl | trivial)
theorem c_widthAt (hT : TpR J T n) {p : Int} (hp : 0 ≤ p) (h1 : p < n) : G10_widthAt p J = some (wen T n p - p, J) := by
  have hn := hT.2.1.1
  have hb := hT.2.1.2 p hp h1
  refine wp_eq ?_
  unfold G10_widthAt G10_widthAt_22
  simp only [wp_ib, wp_ig, wp_ite, jp_ret, jp_nz, jp_dI, jp_rI, jp_g9, jp_E, jpN1, jp_Bk, jp_Ck, jp_W, jp_R, jp_Tx, jp_Sl, jp_Sc, jp_Si, jp_Sq, jp_Xl, jp_X0, jp_Xc, jp_Xs, jp_Xi, jp_Tos, jp_NB, jp_NC, kj_1, kj_2, kj_3, kj_4, jpA1, jpS1, jp_con, ju1_s, ju1_a, ju2_s, ju2_a, juA_s, juA_a, jux_s, jux_a, jux_x, jux_t, ju1_jB, ju2_jB, juA_jB, ju1_jC, ju2_jC, juA_jC, ju1_jT, ju2_jT, juA_jT, ju1_jb, ju2_jb, juA_jb, ju1_jd, ju2_jd, juA_jd, ju1_jt, ju2_jt, juA_jt, ju1_jx, ju2_jx, juA_jx, ju1_jw, ju2_jw, juA_jw, ju1_jr, ju2_jr, juA_jr, ju1_jn, ju2_jn, juA_jn, jux_jB, jux_jC, jux_jT, jux_jb, jux_jd, jux_jw, jux_jr, jux_jn, jG2, jP2, jG3, jP3, jG4, jP4, jG5, jP5, jG8, jP8, jG9, jP9, jG10, jP10, jG11, jP11, jG1, jP1, jG6, jP6, jG7, jP7, jG12, jP12, wj2, wk2, wn2, wj3, wk3, wn3, wj4, wk4, wn4, wj5, wk5, wn5, wj6, wk6, wn6, wj7, wk7, wn7, wj8, wk8, wn8, wj9, wk9, wn9, wj10, wk10, wn10, Nat.reduceEqDiff, reduceIte, false_and, true_and, and_true, and_self, if_false, if_true, and_false]
  rw [wp_ret (c_byte hT hp h1), wp_ret (c_isLetter (by omega))]
  have hs : (n - p).toNat = (n - (p + 1)).toNat + 1 := by omega
  refine ⟨ifR, ?_⟩
  unfold wen
  by_cases c : isLt (T p)
  · rw [if_pos c, if_neg (by decide), wp_ret (c_isLetter (by omega)), if_pos c, wp_ret (c_widthAt_32 hT hp (by omega) (n - (p + 1)).toNat LFU (p + 1) (by unfold LFU; omega) (by omega) (by omega)), if_neg (by decide), if_pos c, hs]
    have e2 : spL T ((n - (p + 1)).toNat + 1) p = if isLt (T p) then spL T (n - (p + 1)).toNat (p + 1) else p := rfl
    rw [e2, if_pos c]
    (first | done | exact ⟨rfl, rfl⟩ | exact ⟨trivial, rfl⟩ | exact ⟨rfl, trivial⟩ | rfl | trivial)
  · rw [if_neg c, if_pos rfl, wp_ret (c_isDigit (by omega)), if_neg c]
    refine ⟨ifR, ?_⟩
    by_cases c2 : isDg (T p)
    · rw [if_pos c2, if_neg (by decide), wp_ret (c_isLetter (by omega)), if_neg c, wp_ret (c_widthAt_32 hT hp (by omega) (n - (p + 1)).toNat LFU (p + 1) (by unfold LFU; omega) (by omega) (by omega)), if_pos rfl, if_pos c2, hs]
      have e2 : spD T ((n - (p + 1)).toNat + 1) p = if isDg (T p) then spD T (n - (p + 1)).toNat (p + 1) else p := rfl
      rw [e2, if_pos c2]
      (first | done | exact ⟨rfl, rfl⟩ | exact ⟨trivial, rfl⟩ | exact ⟨rfl, trivial⟩ | rfl | trivial)
    · rw [if_neg c2, if_pos rfl, if_neg c2]
      exact ⟨by omega, rfl⟩
theorem c_signOfWord_94 (hC : CT J) (hT : TpR J T n) {p w l : Int} (hp : 0 ≤ p) (hw : 1 ≤ w) (hpw : p + w ≤ n) (hw3 : w ≤ 3) : ∀ (d m : Nat) (i : Int), d < m → p ≤ i → i + d = p + w → (∀ k, p ≤ k → k < i → T k = T p) → G10_signOfWord_94 m p w (T p) l i J = some (if (2 ≤ w → T (p + 1) = T p) ∧ (3 ≤ w → T (p + 2) = T p) then (w - 1) * 23 + l + 1 else -1, J) := by
  have hn := hT.2.1.1
  have hbp := hT.2.1.2 p hp (by omega)
  intro d
  induction d with
  | zero =>
    intro m i hm hi hd ho
    cases m with
    | zero => omega
    | succ m =>
      have h0t := hC.2 0 (by decide)
      have hall := (all3 (T := T) (p := p) (e := p + w) (by omega)).mp (fun k q1 q2 => ho k q1 (by omega))
      rw [show p + w - p = w by omega] at hall
      refine wp_eq ?_
      unfold G10_signOfWord_94 G10_signOfWord_94_st G10_signOfWord_120
      simp only [wp_ib, wp_ig, wp_ite, jp_ret, jp_nz, jp_dI, jp_rI, jp_g9, jp_E, jpN1, jp_Bk, jp_Ck, jp_W, jp_R, jp_Tx, jp_Sl, jp_Sc, jp_Si, jp_Sq, jp_Xl, jp_X0, jp_Xc, jp_Xs, jp_Xi, jp_Tos, jp_NB, jp_NC, kj_1, kj_2, kj_3, kj_4, jpA1, jpS1, jp_con, ju1_s, ju1_a, ju2_s, ju2_a, juA_s, juA_a, jux_s, jux_a, jux_x, jux_t, ju1_jB, ju2_jB, juA_jB, ju1_jC, ju2_jC, juA_jC, ju1_jT, ju2_jT, juA_jT, ju1_jb, ju2_jb, juA_jb, ju1_jd, ju2_jd, juA_jd, ju1_jt, ju2_jt, juA_jt, ju1_jx, ju2_jx, juA_jx, ju1_jw, ju2_jw, juA_jw, ju1_jr, ju2_jr, juA_jr, ju1_jn, ju2_jn, juA_jn, jux_jB, jux_jC, jux_jT, jux_jb, jux_jd, jux_jw, jux_jr, jux_jn, jG2, jP2, jG3, jP3, jG4, jP4, jG5, jP5, jG8, jP8, jG9, jP9, jG10, jP10, jG11, jP11, jG1, jP1, jG6, jP6, jG7, jP7, jG12, jP12, wj2, wk2, wn2, wj3, wk3, wn3, wj4, wk4, wn4, wj5, wk5, wn5, wj6, wk6, wn6, wj7, wk7, wn7, wj8, wk8, wn8, wj9, wk9, wn9, wj10, wk10, wn10, Nat.reduceEqDiff, reduceIte, false_and, true_and, and_true, and_self, if_false, if_true, and_false]
      rw [if_pos (by omega), if_pos hall, h0t, txt_eq.1, txt12]
      exact ⟨by omega, by omega, by have := hC.1; omega, by rfl⟩
  | succ d ih =>
    intro m i hm hi hd ho
    cases m with
    | zero => omega
    | succ m =>
      have hb := hT.2.1.2 i (by omega) (by omega)
      refine wp_eq ?_
      unfold G10_signOfWord_94 G10_signOfWord_94_st
      simp only [wp_ib, wp_ig, wp_ite, jp_ret, jp_nz, jp_dI, jp_rI, jp_g9, jp_E, jpN1, jp_Bk, jp_Ck, jp_W, jp_R, jp_Tx, jp_Sl, jp_Sc, jp_Si, jp_Sq, jp_Xl, jp_X0, jp_Xc, jp_Xs, jp_Xi, jp_Tos, jp_NB, jp_NC, kj_1, kj_2, kj_3, kj_4, jpA1, jpS1, jp_con, ju1_s, ju1_a, ju2_s, ju2_a, juA_s, juA_a, jux_s, jux_a, jux_x, jux_t, ju1_jB, ju2_jB, juA_jB, ju1_jC, ju2_jC, juA_jC, ju1_jT, ju2_jT, juA_jT, ju1_jb, ju2_jb, juA_jb, ju1_jd, ju2_jd, juA_jd, ju1_jt, ju2_jt, juA_jt, ju1_jx, ju2_jx, juA_jx, ju1_jw, ju2_jw, juA_jw, ju1_jr, ju2_jr, juA_jr, ju1_jn, ju2_jn, juA_jn, jux_jB, jux_jC, jux_jT, jux_jb, jux_jd, jux_jw, jux_jr, jux_jn, jG2, jP2, jG3, jP3, jG4, jP4, jG5, jP5, jG8, jP8, jG9, jP9, jG10, jP10, jG11, jP11, jG1, jP1, jG6, jP6, jG7, jP7, jG12, jP12, wj2, wk2, wn2, wj3, wk3, wn3, wj4, wk4, wn4, wj5, wk5, wn5, wj6, wk6, wn6, wj7, wk7, wn7, wj8, wk8, wn8, wj9, wk9, wn9, wj10, wk10, wn10, Nat.reduceEqDiff, reduceIte, false_and, true_and, and_true, and_self, if_false, if_true, and_false]
      rw [if_neg (by omega), wp_ret (c_byte hT (by omega) (by omega))]
      refine ⟨by omega, by omega, by omega, by omega, ?_⟩
      by_cases c : T i = T p
      · rw [if_pos c, wp_ret (ih m (i + 1) (by omega) (by omega) (by omega) (fun k q1 q2 => by
          by_cases e9 : k = i
          · rw [e9]; exact c
          · exact ho k q1 (by omega)))]
        (first | done | exact ⟨rfl, rfl⟩ | exact ⟨trivial, rfl⟩ | exact ⟨rfl, trivial⟩ | rfl | trivial)
      · rw [if_neg c, if_neg (fun q => c ((all3 (T := T) (p := p) (e := p + w) (by omega)).mpr (by rw [show p + w - p = w by omega]; exact q) i hi (by omega)))]
        (first | done | exact ⟨rfl, rfl⟩ | exact ⟨trivial, rfl⟩ | exact ⟨rfl, trivial⟩ | rfl | trivial)
theorem c_signOfWord (hC : CT J) (hT : TpR J T n) {p w : Int} (hp : 0 ≤ p) (hw : 1 ≤ w) (hpw : p + w ≤ n) {Q : Int → JS → Prop} (hq : Q (sgW T p w) J) : wp (G10_signOfWord p w) Q J := by
  have hn := hT.2.1.1
  have hb := hT.2.1.2 p hp (by omega)
  have h0t := hC.2 0 (by decide)
  have hl := idxZ_bd (T p).toNat
  have h2R : R32 (if 0 ≤ p + 1 ∧ p + 1 < n then T (p + 1) else -1) := by
    split
    · have := hT.2.1.2 (p + 1) (by omega) (by omega); omega
    · decide
  have h3R : R32 (if 0 ≤ p + 2 ∧ p + 2 < n then T (p + 2) else -1) := by
    split
    · have := hT.2.1.2 (p + 2) (by omega) (by omega); omega
    · decide
  have i2 : 2 ≤ w → (if 0 ≤ p + 1 ∧ p + 1 < n then T (p + 1) else -1) = T (p + 1) := fun h => if_pos (by omega)
  have i3 : 3 ≤ w → (if 0 ≤ p + 2 ∧ p + 2 < n then T (p + 2) else -1) = T (p + 2) := fun h => if_pos (by omega)
  -- the last of the three
  have last : ¬ (w = 2 ∧ T p = 112 ∧ T (p + 1) = 105) → ¬ (w = 3 ∧ T p = 99 ∧ T (p + 1) = 104 ∧ T (p + 2) = 105) → wp (G10_signOfWord_68 p w (T p)) Q J := by
    intro n1 n2
    unfold sgW at hq
    rw [if_neg n1, if_neg n2] at hq
    unfold G10_signOfWord_68
    simp only [wp_ib, wp_ig, wp_ite, jp_ret, jp_nz, jp_dI, jp_rI, jp_g9, jp_E, jpN1, jp_Bk, jp_Ck, jp_W, jp_R, jp_Tx, jp_Sl, jp_Sc, jp_Si, jp_Sq, jp_Xl, jp_X0, jp_Xc, jp_Xs, jp_Xi, jp_Tos, jp_NB, jp_NC, kj_1, kj_2, kj_3, kj_4, jpA1, jpS1, jp_con, ju1_s, ju1_a, ju2_s, ju2_a, juA_s, juA_a, jux_s, jux_a, jux_x, jux_t, ju1_jB, ju2_jB, juA_jB, ju1_jC, ju2_jC, juA_jC, ju1_jT, ju2_jT, juA_jT, ju1_jb, ju2_jb, juA_jb, ju1_jd, ju2_jd, juA_jd, ju1_jt, ju2_jt, juA_jt, ju1_jx, ju2_jx, juA_jx, ju1_jw, ju2_jw, juA_jw, ju1_jr, ju2_jr, juA_jr, ju1_jn, ju2_jn, juA_jn, jux_jB, jux_jC, jux_jT, jux_jb, jux_jd, jux_jw, jux_jr, jux_jn, jG2, jP2, jG3, jP3, jG4, jP4, jG5, jP5, jG8, jP8, jG9, jP9, jG10, jP10, jG11, jP11, jG1, jP1, jG6, jP6, jG7, jP7, jG12, jP12, wj2, wk2, wn2, wj3, wk3, wn3, wj4, wk4, wn4, wj5, wk5, wn5, wj6, wk6, wn6, wj7, wk7, wn7, wj8, wk8, wn8, wj9, wk9, wn9, wj10, wk10, wn10, Nat.reduceEqDiff, reduceIte, false_and, true_and, and_true, and_self, if_false, if_true, and_false]
    rw [iC16_b hb.1 (by omega), h0t, txt_eq.1]
    refine ⟨⟨by have := hC.1; omega, by rw [txt12]; omega, by omega, by omega⟩, by omega, ?_⟩
    by_cases c : idxZ (txt 12) (T p).toNat < 0
    · rw [if_pos c]
      rw [if_neg (by omega)] at hq
      exact hq
    · rw [if_neg c]
      refine ⟨by omega, ?_⟩
      by_cases c3 : w ≤ 3
      · rw [if_pos c3, wp_ret (c_signOfWord_94 hC hT hp hw hpw c3 (w - 1).toNat LFU (p + 1) (by unfold LFU; omega) (by omega) (by omega) (fun k q1 q2 => by rw [show k = p by omega]))]
        by_cases c4 : (2 ≤ w → T (p + 1) = T p) ∧ (3 ≤ w → T (p + 2) = T p)
        · rw [if_pos c4]
          rw [if_pos ⟨by omega, c3, c4⟩] at hq
          exact hq
        · rw [if_neg c4]
          rw [if_neg (fun q => c4 q.2.2)] at hq
          exact hq
      · rw [if_neg c3]
        rw [if_neg (fun q => c3 q.2.1)] at hq
        exact hq
  have mid : ¬ (w = 2 ∧ T p = 112 ∧ T (p + 1) = 105) → wp (G10_signOfWord_35 p w (T p) (if 0 ≤ p + 1 ∧ p + 1 < n then T (p + 1) else -1)) Q J := by
    intro n1
    unfold G10_signOfWord_35
    simp only [wp_ib, wp_ig, wp_ite, jp_ret, jp_nz, jp_dI, jp_rI, jp_g9, jp_E, jpN1, jp_Bk, jp_Ck, jp_W, jp_R, jp_Tx, jp_Sl, jp_Sc, jp_Si, jp_Sq, jp_Xl, jp_X0, jp_Xc, jp_Xs, jp_Xi, jp_Tos, jp_NB, jp_NC, kj_1, kj_2, kj_3, kj_4, jpA1, jpS1, jp_con, ju1_s, ju1_a, ju2_s, ju2_a, juA_s, juA_a, jux_s, jux_a, jux_x, jux_t, ju1_jB, ju2_jB, juA_jB, ju1_jC, ju2_jC, juA_jC, ju1_jT, ju2_jT, juA_jT, ju1_jb, ju2_jb, juA_jb, ju1_jd, ju2_jd, juA_jd, ju1_jt, ju2_jt, juA_jt, ju1_jx, ju2_jx, juA_jx, ju1_jw, ju2_jw, juA_jw, ju1_jr, ju2_jr, juA_jr, ju1_jn, ju2_jn, juA_jn, jux_jB, jux_jC, jux_jT, jux_jb, jux_jd, jux_jw, jux_jr, jux_jn, jG2, jP2, jG3, jP3, jG4, jP4, jG5, jP5, jG8, jP8, jG9, jP9, jG10, jP10, jG11, jP11, jG1, jP1, jG6, jP6, jG7, jP7, jG12, jP12, wj2, wk2, wn2, wj3, wk3, wn3, wj4, wk4, wn4, wj5, wk5, wn5, wj6, wk6, wn6, wj7, wk7, wn7, wj8, wk8, wn8, wj9, wk9, wn9, wj10, wk10, wn10, Nat.reduceEqDiff, reduceIte, false_and, true_and, and_true, and_self, if_false, if_true, and_false]
    refine ⟨by omega, ?_⟩
    by_cases c1 : w = 3
    · rw [if_pos c1]
      refine ⟨by omega, ?_⟩
      by_cases c2 : T p = 99
      · rw [if_pos c2]
        refine ⟨h2R, ?_⟩
        rw [i2 (by omega)]
        by_cases c3 : T (p + 1) = 104
        · rw [if_pos c3, wp_ret (c_byteAt hT (by omega))]
          refine ⟨h3R, ?_⟩
          rw [i3 (by omega)]
          by_cases c4 : T (p + 2) = 105
          · rw [if_pos c4]
            unfold sgW at hq
            rw [if_neg n1, if_pos ⟨c1, c2, c3, c4⟩] at hq
            exact hq
          · rw [if_neg c4]
            exact last n1 fun q => c4 q.2.2.2
        · rw [if_neg c3]
          exact last n1 fun q => c3 q.2.2.1
      · rw [if_neg c2]
        exact last n1 fun q => c2 q.2.1
    · rw [if_neg c1]
      exact last n1 fun q => c1 q.1
  unfold G10_signOfWord
  simp only [wp_ib, wp_ig, wp_ite, jp_ret, jp_nz, jp_dI, jp_rI, jp_g9, jp_E, jpN1, jp_Bk, jp_Ck, jp_W, jp_R, jp_Tx, jp_Sl, jp_Sc, jp_Si, jp_Sq, jp_Xl, jp_X0, jp_Xc, jp_Xs, jp_Xi, jp_Tos, jp_NB, jp_NC, kj_1, kj_2, kj_3, kj_4, jpA1, jpS1, jp_con, ju1_s, ju1_a, ju2_s, ju2_a, juA_s, juA_a, jux_s, jux_a, jux_x, jux_t, ju1_jB, ju2_jB, juA_jB, ju1_jC, ju2_jC, juA_jC, ju1_jT, ju2_jT, juA_jT, ju1_jb, ju2_jb, juA_jb, ju1_jd, ju2_jd, juA_jd, ju1_jt, ju2_jt, juA_jt, ju1_jx, ju2_jx, juA_jx, ju1_jw, ju2_jw, juA_jw, ju1_jr, ju2_jr, juA_jr, ju1_jn, ju2_jn, juA_jn, jux_jB, jux_jC, jux_jT, jux_jb, jux_jd, jux_jw, jux_jr, jux_jn, jG2, jP2, jG3, jP3, jG4, jP4, jG5, jP5, jG8, jP8, jG9, jP9, jG10, jP10, jG11, jP11, jG1, jP1, jG6, jP6, jG7, jP7, jG12, jP12, wj2, wk2, wn2, wj3, wk3, wn3, wj4, wk4, wn4, wj5, wk5, wn5, wj6, wk6, wn6, wj7, wk7, wn7, wj8, wk8, wn8, wj9, wk9, wn9, wj10, wk10, wn10, Nat.reduceEqDiff, reduceIte, false_and, true_and, and_true, and_self, if_false, if_true, and_false]
  rw [wp_ret (c_byte hT hp (by omega)), wp_ret (c_byteAt hT (by omega))]
  refine ⟨by omega, ?_⟩
  by_cases c1 : w = 2
  · rw [if_pos c1]
    refine ⟨by omega, ?_⟩
    by_cases c2 : T p = 112
    · rw [if_pos c2]
      refine ⟨h2R, ?_⟩
      by_cases c3 : T (p + 1) = 105
      · rw [if_pos (by rw [i2 (by omega)]; exact c3)]
        unfold sgW at hq
        rw [if_pos ⟨c1, c2, c3⟩] at hq
        exact hq
      · rw [if_neg (by rw [i2 (by omega)]; exact c3)]
        exact mid fun q => c3 q.2.2
    · rw [if_neg c2]
      exact mid fun q => c2 q.2.1
  · rw [if_neg c1]
    exact mid fun q => c1 q.1
theorem c_valueOfNumber_5 (hT : TpR J T n) {p w : Int} (hp : 0 ≤ p) (hpw : p + w ≤ n) : ∀ (d m : Nat) (a i : Int), d < m → p ≤ i → i + d = p + w → G10_valueOfNumber_5 m p w a i J = some (valN T d i a, J) := by
  have hn := hT.2.1.1
  intro d
  induction d with
  | zero =>
    intro m a i hm hi hd
    cases m with
    | zero => omega
    | succ m =>
      refine wp_eq ?_
      unfold G10_valueOfNumber_5 G10_valueOfNumber_5_st
      simp only [wp_ib, wp_ig, wp_ite, jp_ret, jp_nz, jp_dI, jp_rI, jp_g9, jp_E, jpN1, jp_Bk, jp_Ck, jp_W, jp_R, jp_Tx, jp_Sl, jp_Sc, jp_Si, jp_Sq, jp_Xl, jp_X0, jp_Xc, jp_Xs, jp_Xi, jp_Tos, jp_NB, jp_NC, kj_1, kj_2, kj_3, kj_4, jpA1, jpS1, jp_con, ju1_s, ju1_a, ju2_s, ju2_a, juA_s, juA_a, jux_s, jux_a, jux_x, jux_t, ju1_jB, ju2_jB, juA_jB, ju1_jC, ju2_jC, juA_jC, ju1_jT, ju2_jT, juA_jT, ju1_jb, ju2_jb, juA_jb, ju1_jd, ju2_jd, juA_jd, ju1_jt, ju2_jt, juA_jt, ju1_jx, ju2_jx, juA_jx, ju1_jw, ju2_jw, juA_jw, ju1_jr, ju2_jr, juA_jr, ju1_jn, ju2_jn, juA_jn, jux_jB, jux_jC, jux_jT, jux_jb, jux_jd, jux_jw, jux_jr, jux_jn, jG2, jP2, jG3, jP3, jG4, jP4, jG5, jP5, jG8, jP8, jG9, jP9, jG10, jP10, jG11, jP11, jG1, jP1, jG6, jP6, jG7, jP7, jG12, jP12, wj2, wk2, wn2, wj3, wk3, wn3, wj4, wk4, wn4, wj5, wk5, wn5, wj6, wk6, wn6, wj7, wk7, wn7, wj8, wk8, wn8, wj9, wk9, wn9, wj10, wk10, wn10, Nat.reduceEqDiff, reduceIte, false_and, true_and, and_true, and_self, if_false, if_true, and_false]
      rw [if_pos (by omega)]
      exact ⟨by omega, by omega, by (first | done | exact ⟨rfl, rfl⟩ | exact ⟨trivial, rfl⟩ | exact ⟨rfl, trivial⟩ | rfl | trivial)⟩
  | succ d ih =>
    intro m a i hm hi hd
    cases m with
    | zero => omega
    | succ m =>
      refine wp_eq ?_
      unfold G10_valueOfNumber_5 G10_valueOfNumber_5_st
      simp only [wp_ib, wp_ig, wp_ite, jp_ret, jp_nz, jp_dI, jp_rI, jp_g9, jp_E, jpN1, jp_Bk, jp_Ck, jp_W, jp_R, jp_Tx, jp_Sl, jp_Sc, jp_Si, jp_Sq, jp_Xl, jp_X0, jp_Xc, jp_Xs, jp_Xi, jp_Tos, jp_NB, jp_NC, kj_1, kj_2, kj_3, kj_4, jpA1, jpS1, jp_con, ju1_s, ju1_a, ju2_s, ju2_a, juA_s, juA_a, jux_s, jux_a, jux_x, jux_t, ju1_jB, ju2_jB, juA_jB, ju1_jC, ju2_jC, juA_jC, ju1_jT, ju2_jT, juA_jT, ju1_jb, ju2_jb, juA_jb, ju1_jd, ju2_jd, juA_jd, ju1_jt, ju2_jt, juA_jt, ju1_jx, ju2_jx, juA_jx, ju1_jw, ju2_jw, juA_jw, ju1_jr, ju2_jr, juA_jr, ju1_jn, ju2_jn, juA_jn, jux_jB, jux_jC, jux_jT, jux_jb, jux_jd, jux_jw, jux_jr, jux_jn, jG2, jP2, jG3, jP3, jG4, jP4, jG5, jP5, jG8, jP8, jG9, jP9, jG10, jP10, jG11, jP11, jG1, jP1, jG6, jP6, jG7, jP7, jG12, jP12, wj2, wk2, wn2, wj3, wk3, wn3, wj4, wk4, wn4, wj5, wk5, wn5, wj6, wk6, wn6, wj7, wk7, wn7, wj8, wk8, wn8, wj9, wk9, wn9, wj10, wk10, wn10, Nat.reduceEqDiff, reduceIte, false_and, true_and, and_true, and_self, if_false, if_true, and_false]
      rw [if_neg (by omega), wp_ret (c_byte hT (by omega) (by omega)), wp_ret (ih m _ (i + 1) (by omega) (by omega) (by omega))]
      refine ⟨by omega, by omega, ?_, rfl⟩
      show valN T d (i + 1) _ = valN T d (i + 1) (10 * a + T i - 48)
      congr 1
      omega
theorem c_add {id : Nat} (hx : rxk J id) {v : Int} (h0 : 0 ≤ js J 1 id) (h1 : js J 1 id < rl id) : G8_add id v J = some (1, addR J id v) := by
  have hr := rl_le id
  refine wp_eq ?_
  unfold G8_add
  unfold rxk at hx
  simp only [wp_ib, wp_ig, wp_ite, jp_ret, jp_nz, jp_dI, jp_rI, jp_g9, jp_E, jpN1, jp_Bk, jp_Ck, jp_W, jp_R, jp_Tx, jp_Sl, jp_Sc, jp_Si, jp_Sq, jp_Xl, jp_X0, jp_Xc, jp_Xs, jp_Xi, jp_Tos, jp_NB, jp_NC, kj_1, kj_2, kj_3, kj_4, jpA1, jpS1, jp_con, ju1_s, ju1_a, ju2_s, ju2_a, juA_s, juA_a, jux_s, jux_a, jux_x, jux_t, ju1_jB, ju2_jB, juA_jB, ju1_jC, ju2_jC, juA_jC, ju1_jT, ju2_jT, juA_jT, ju1_jb, ju2_jb, juA_jb, ju1_jd, ju2_jd, juA_jd, ju1_jt, ju2_jt, juA_jt, ju1_jx, ju2_jx, juA_jx, ju1_jw, ju2_jw, juA_jw, ju1_jr, ju2_jr, juA_jr, ju1_jn, ju2_jn, juA_jn, jux_jB, jux_jC, jux_jT, jux_jb, jux_jd, jux_jw, jux_jr, jux_jn, jG2, jP2, jG3, jP3, jG4, jP4, jG5, jP5, jG8, jP8, jG9, jP9, jG10, jP10, jG11, jP11, jG1, jP1, jG6, jP6, jG7, jP7, jG12, jP12, wj2, wk2, wn2, wj3, wk3, wn3, wj4, wk4, wn4, wj5, wk5, wn5, wj6, wk6, wn6, wj7, wk7, wn7, wj8, wk8, wn8, wj9, wk9, wn9, wj10, wk10, wn10, Nat.reduceEqDiff, reduceIte, false_and, true_and, and_true, and_self, if_false, if_true, and_false]
  rw [if_pos (by omega)]
  exact ⟨hx, hx, hx, by omega, by omega, hx, hx, hx, ⟨hx, h0, h1⟩, by (first | done | exact ⟨rfl, rfl⟩ | exact ⟨trivial, rfl⟩ | exact ⟨rfl, trivial⟩ | rfl | trivial)⟩
theorem addR_s {id : Nat} {v : Int} {t i : Nat} : js (addR J id v) t i = if t = 1 ∧ i = id then js J 1 id + 1 else js J t i := rfl
theorem addR_a {id : Nat} {v : Int} {t i : Nat} {l : Int} : ja (addR J id v) t i l = if t = 1 ∧ i = id ∧ l = js J 1 id then v else ja J t i l := rfl
theorem addR_r {id : Nat} {v : Int} : (addR J id v).2.2 = J.2.2 := rfl
theorem FrT.add {id : Nat} {v : Int} (h : id ≤ 2) : FrT J (addR J id v) := ⟨fun t i q => by rw [addR_s, if_neg (by omega)], fun t i q => by funext l; rw [addR_a, if_neg (by omega)], rfl⟩
theorem TpR.fr {J' : JS} (h : TpR J T n) (hF : FrT J J') : TpR J' T n := by
  unfold TpR
  rw [hF.1 2 0 (by omega), hF.2.1 2 0 (by omega)]
  exact h
theorem CT.r {J' : JS} (h : CT J) (hF : J'.2.2 = J.2.2) : CT J' := by
  unfold CT jT jt at h ⊢
  rw [hF]
  exact h
/-- one piece more -/
theorem TkR.add {j : Nat} {a b c : Int} (h : TkR J T n j) (ha : a = kdP T n (tkP T n j)) (hb : b = tkP T n j) (hc : c = vlP T n (tkP T n j)) : TkR (addR (addR (addR J 0 a) 1 b) 2 c) T n (j + 1) := by
  obtain ⟨⟨h0, h1, h2⟩, h3⟩ := h
  have e0 : js (addR J 0 a) 1 1 = j := h1
  have e1 : js (addR (addR J 0 a) 1 b) 1 2 = j := h2
  refine ⟨⟨?_, ?_, ?_⟩, fun i hi => ?_⟩
  · show js J 1 0 + 1 = ((j + 1 : Nat) : Int); omega
  · show js J 1 1 + 1 = ((j + 1 : Nat) : Int); omega
  · show js J 1 2 + 1 = ((j + 1 : Nat) : Int); omega
  · simp only [addR_a, e1, e0]
    rw [h0]
    by_cases e : i = j
    · subst e
      simp only [and_true, and_self, if_true, reduceCtorEq, Nat.reduceEqDiff, false_and, and_false, if_false]
      exact ⟨ha, hb, hc⟩
    · have := h3 i (by omega)
      have ne : ¬ (i : Int) = (j : Int) := by omega
      simp only [ne, and_false, if_false]
      exact this
theorem c_addPiece {j : Nat} {p : Int} (hC : CT J) (hT : TpR J T n) (hK : TkR J T n j) (hp : 0 ≤ p) (h1 : p < n) (hj : (j : Int) ≤ 120) (hpj : p = tkP T n j) {Q : Unit → JS → Prop} (hq : ∀ J', FrT J J' → TkR J' T n (j + 1) → Q () J') : wp (G10_addPiece p (wen T n p - p)) Q J := by
  have hn := hT.2.1.1
  have hb := hT.2.1.2 p hp h1
  have hw := wen_bd (T := T) h1
  have fin : ∀ a c, a = kdP T n p → c = vlP T n p → wp (G10_addPiece_77 p a c) Q J := by
    intro a c ha hc
    unfold G10_addPiece_77
    simp only [wp_ib, wp_ig, wp_ite, jp_ret, jp_nz, jp_dI, jp_rI, jp_g9, jp_E, jpN1, jp_Bk, jp_Ck, jp_W, jp_R, jp_Tx, jp_Sl, jp_Sc, jp_Si, jp_Sq, jp_Xl, jp_X0, jp_Xc, jp_Xs, jp_Xi, jp_Tos, jp_NB, jp_NC, kj_1, kj_2, kj_3, kj_4, jpA1, jpS1, jp_con, ju1_s, ju1_a, ju2_s, ju2_a, juA_s, juA_a, jux_s, jux_a, jux_x, jux_t, ju1_jB, ju2_jB, juA_jB, ju1_jC, ju2_jC, juA_jC, ju1_jT, ju2_jT, juA_jT, ju1_jb, ju2_jb, juA_jb, ju1_jd, ju2_jd, juA_jd, ju1_jt, ju2_jt, juA_jt, ju1_jx, ju2_jx, juA_jx, ju1_jw, ju2_jw, juA_jw, ju1_jr, ju2_jr, juA_jr, ju1_jn, ju2_jn, juA_jn, jux_jB, jux_jC, jux_jT, jux_jb, jux_jd, jux_jw, jux_jr, jux_jn, jG2, jP2, jG3, jP3, jG4, jP4, jG5, jP5, jG8, jP8, jG9, jP9, jG10, jP10, jG11, jP11, jG1, jP1, jG6, jP6, jG7, jP7, jG12, jP12, wj2, wk2, wn2, wj3, wk3, wn3, wj4, wk4, wn4, wj5, wk5, wn5, wj6, wk6, wn6, wj7, wk7, wn7, wj8, wk8, wn8, wj9, wk9, wn9, wj10, wk10, wn10, Nat.reduceEqDiff, reduceIte, false_and, true_and, and_true, and_self, if_false, if_true, and_false]
    have hr : ∀ i, i ≤ 11 → rl i = 121 := fun i hi => if_pos hi
    obtain ⟨⟨k0, k1, k2⟩, k3⟩ := hK
    rw [wp_ret (c_add (id := 0) (Or.inl (by omega)) (by omega) (by rw [hr 0 (by omega)]; omega))]
    rw [wp_ret (c_add (J := addR J 0 a) (id := 1) (Or.inl (by omega)) (by show 0 ≤ js J 1 1; omega) (by rw [hr 1 (by omega)]; show js J 1 1 < _; omega))]
    rw [wp_ret (c_add (J := addR (addR J 0 a) 1 p) (id := 2) (Or.inl (by omega)) (by show 0 ≤ js J 1 2; omega) (by rw [hr 2 (by omega)]; show js J 1 2 < _; omega))]
    exact hq _ (((FrT.add (by omega)).trans (FrT.add (by omega))).trans (FrT.add (by omega))) (TkR.add ⟨⟨k0, k1, k2⟩, k3⟩ (by rw [← hpj]; exact ha) hpj (by rw [← hpj]; exact hc))
  have body : ∀ k, k = (if isMk (T p) then T p else 3) → wp (G10_addPiece_18 p (wen T n p - p) (T p) k) Q J := by
    intro k hk
    unfold G10_addPiece_18 G10_addPiece_49
    simp only [wp_ib, wp_ig, wp_ite, jp_ret, jp_nz, jp_dI, jp_rI, jp_g9, jp_E, jpN1, jp_Bk, jp_Ck, jp_W, jp_R, jp_Tx, jp_Sl, jp_Sc, jp_Si, jp_Sq, jp_Xl, jp_X0, jp_Xc, jp_Xs, jp_Xi, jp_Tos, jp_NB, jp_NC, kj_1, kj_2, kj_3, kj_4, jpA1, jpS1, jp_con, ju1_s, ju1_a, ju2_s, ju2_a, juA_s, juA_a, jux_s, jux_a, jux_x, jux_t, ju1_jB, ju2_jB, juA_jB, ju1_jC, ju2_jC, juA_jC, ju1_jT, ju2_jT, juA_jT, ju1_jb, ju2_jb, juA_jb, ju1_jd, ju2_jd, juA_jd, ju1_jt, ju2_jt, juA_jt, ju1_jx, ju2_jx, juA_jx, ju1_jw, ju2_jw, juA_jw, ju1_jr, ju2_jr, juA_jr, ju1_jn, ju2_jn, juA_jn, jux_jB, jux_jC, jux_jT, jux_jb, jux_jd, jux_jw, jux_jr, jux_jn, jG2, jP2, jG3, jP3, jG4, jP4, jG5, jP5, jG8, jP8, jG9, jP9, jG10, jP10, jG11, jP11, jG1, jP1, jG6, jP6, jG7, jP7, jG12, jP12, wj2, wk2, wn2, wj3, wk3, wn3, wj4, wk4, wn4, wj5, wk5, wn5, wj6, wk6, wn6, wj7, wk7, wn7, wj8, wk8, wn8, wj9, wk9, wn9, wj10, wk10, wn10, Nat.reduceEqDiff, reduceIte, false_and, true_and, and_true, and_self, if_false, if_true, and_false]
    rw [wp_ret (c_isLetter (by omega))]
    refine ⟨ifR, ?_⟩
    by_cases cl : isLt (T p)
    · rw [if_pos cl, if_neg (by decide)]
      have hs := sgW_bd (T := T) p (wen T n p - p) (by omega)
      have ekd : kdP T n p = if sgW T p (wen T n p - p) < 0 then 3 else 1 := by unfold kdP; rw [if_neg (by omega), if_pos cl]
      have evl : vlP T n p = sgW T p (wen T n p - p) := by unfold vlP; rw [if_neg (by omega), if_pos cl]
      refine c_signOfWord hC hT hp (by omega) (by omega) ⟨by omega, ?_⟩
      by_cases c0 : sgW T p (wen T n p - p) = -1
      · rw [if_pos c0]
        rw [if_pos (by omega)] at ekd
        exact fin 3 _ ekd.symm evl.symm
      · rw [if_neg c0]
        rw [if_neg (by omega)] at ekd
        exact fin 1 _ ekd.symm evl.symm
    · rw [if_neg cl, if_pos rfl, wp_ret (c_isDigit (by omega))]
      refine ⟨ifR, ?_⟩
      by_cases cd : isDg (T p)
      · rw [if_pos cd, if_neg (by decide)]
        refine ⟨by omega, ?_⟩
        have ekd : kdP T n p = if wen T n p - p ≤ 3 then 2 else 3 := by unfold kdP; rw [if_neg (by omega), if_neg cl, if_pos cd]
        have evl : vlP T n p = if isDg (T p) ∧ wen T n p - p ≤ 3 then valN T (wen T n p - p).toNat p 0 else 0 := by unfold vlP; rw [if_neg (by omega), if_neg cl]
        have nm : ¬ isMk (T p) := by omega
        rw [if_neg nm] at hk
        by_cases c3 : 3 < wen T n p - p
        · rw [if_pos c3]
          rw [if_neg (by omega)] at ekd
          rw [if_neg (by omega)] at evl
          rw [hk]
          exact fin 3 0 ekd.symm evl.symm
        · rw [if_neg c3]
          rw [if_pos (by omega)] at ekd
          rw [if_pos (by omega)] at evl
          unfold G10_valueOfNumber
          rw [wp_ret (c_valueOfNumber_5 hT hp (by omega) (wen T n p - p).toNat LFU 0 p (by unfold LFU; omega) (by omega) (by omega))]
          exact fin 2 _ ekd.symm evl.symm
      · rw [if_neg cd, if_pos rfl]
        refine fin k 0 ?_ ?_
        · have np : ¬ n ≤ p := by omega
          rw [hk]; unfold kdP; rw [if_neg np, if_neg cl, if_neg cd]
        · unfold vlP; rw [if_neg (by omega), if_neg cl, if_neg (fun q => cd q.1)]
  unfold G10_addPiece
  simp only [wp_ib, wp_ig, wp_ite, jp_ret, jp_nz, jp_dI, jp_rI, jp_g9, jp_E, jpN1, jp_Bk, jp_Ck, jp_W, jp_R, jp_Tx, jp_Sl, jp_Sc, jp_Si, jp_Sq, jp_Xl, jp_X0, jp_Xc, jp_Xs, jp_Xi, jp_Tos, jp_NB, jp_NC, kj_1, kj_2, kj_3, kj_4, jpA1, jpS1, jp_con, ju1_s, ju1_a, ju2_s, ju2_a, juA_s, juA_a, jux_s, jux_a, jux_x, jux_t, ju1_jB, ju2_jB, juA_jB, ju1_jC, ju2_jC, juA_jC, ju1_jT, ju2_jT, juA_jT, ju1_jb, ju2_jb, juA_jb, ju1_jd, ju2_jd, juA_jd, ju1_jt, ju2_jt, juA_jt, ju1_jx, ju2_jx, juA_jx, ju1_jw, ju2_jw, juA_jw, ju1_jr, ju2_jr, juA_jr, ju1_jn, ju2_jn, juA_jn, jux_jB, jux_jC, jux_jT, jux_jb, jux_jd, jux_jw, jux_jr, jux_jn, jG2, jP2, jG3, jP3, jG4, jP4, jG5, jP5, jG8, jP8, jG9, jP9, jG10, jP10, jG11, jP11, jG1, jP1, jG6, jP6, jG7, jP7, jG12, jP12, wj2, wk2, wn2, wj3, wk3, wn3, wj4, wk4, wn4, wj5, wk5, wn5, wj6, wk6, wn6, wj7, wk7, wn7, wj8, wk8, wn8, wj9, wk9, wn9, wj10, wk10, wn10, Nat.reduceEqDiff, reduceIte, false_and, true_and, and_true, and_self, if_false, if_true, and_false]
  rw [wp_ret (c_byte hT hp h1), wp_ret (c_isMark (by omega))]
  refine ⟨ifR, ?_⟩
  by_cases cm : isMk (T p)
  · rw [if_pos cm, if_neg (by decide)]
    exact body _ (by rw [if_pos cm])
  · rw [if_neg cm, if_pos rfl]
    exact body _ (by rw [if_neg cm])
/-- all pieces -/
theorem c_cut_25 {Q : Unit → JS → Prop} {J0 : JS} (hC : CT J0) (hT : TpR J0 T n) (hq : ∀ J' N, FrT J0 J' → (∀ i : Nat, i < N → tkP T n i < n) → tkP T n N = n → TkR J' T n (N + 1) → Q () J') : ∀ (d : Nat) (J : JS) (m j : Nat) (a : Int), (n - a).toNat ≤ d → d < m → FrT J0 J → 0 ≤ a → a ≤ n → bl T n a = tkP T n j → (∀ i : Nat, i < j → tkP T n i < n) → (j : Int) ≤ tkP T n j → TkR J T n j → wp (G10_cutIntoPieces_25 m a) Q J := by
  have hn := hT.2.1.1
  have hr : ∀ i, i ≤ 11 → rl i = 121 := fun i hi => if_pos hi
  have finish : ∀ (J : JS) (j : Nat), FrT J0 J → tkP T n j = n → (∀ i : Nat, i < j → tkP T n i < n) → (j : Int) ≤ tkP T n j → TkR J T n j → wp G10_cutIntoPieces_66 Q J := by
    intro J j hF hp hlt hj hK
    unfold G10_cutIntoPieces_66
    have hK' := hK
    obtain ⟨⟨k0, k1, k2⟩, k3⟩ := hK
    have h2 : js J 2 0 = n := by rw [hF.1 2 0 (by omega)]; exact hT.1
    simp only [wp_ib, wp_ig, wp_ite, jp_ret, jp_nz, jp_dI, jp_rI, jp_g9, jp_E, jpN1, jp_Bk, jp_Ck, jp_W, jp_R, jp_Tx, jp_Sl, jp_Sc, jp_Si, jp_Sq, jp_Xl, jp_X0, jp_Xc, jp_Xs, jp_Xi, jp_Tos, jp_NB, jp_NC, kj_1, kj_2, kj_3, kj_4, jpA1, jpS1, jp_con, ju1_s, ju1_a, ju2_s, ju2_a, juA_s, juA_a, jux_s, jux_a, jux_x, jux_t, ju1_jB, ju2_jB, juA_jB, ju1_jC, ju2_jC, juA_jC, ju1_jT, ju2_jT, juA_jT, ju1_jb, ju2_jb, juA_jb, ju1_jd, ju2_jd, juA_jd, ju1_jt, ju2_jt, juA_jt, ju1_jx, ju2_jx, juA_jx, ju1_jw, ju2_jw, juA_jw, ju1_jr, ju2_jr, juA_jr, ju1_jn, ju2_jn, juA_jn, jux_jB, jux_jC, jux_jT, jux_jb, jux_jd, jux_jw, jux_jr, jux_jn, jG2, jP2, jG3, jP3, jG4, jP4, jG5, jP5, jG8, jP8, jG9, jP9, jG10, jP10, jG11, jP11, jG1, jP1, jG6, jP6, jG7, jP7, jG12, jP12, wj2, wk2, wn2, wj3, wk3, wn3, wj4, wk4, wn4, wj5, wk5, wn5, wj6, wk6, wn6, wj7, wk7, wn7, wj8, wk8, wn8, wj9, wk9, wn9, wj10, wk10, wn10, Nat.reduceEqDiff, reduceIte, false_and, true_and, and_true, and_self, if_false, if_true, and_false]
    rw [wp_ret (c_add (id := 0) (Or.inl (by omega)) (by omega) (by rw [hr 0 (by omega)]; omega))]
    rw [show js (addR J 0 0) 2 0 = n from h2]
    rw [wp_ret (c_add (J := addR J 0 0) (id := 1) (Or.inl (by omega)) (by show 0 ≤ js J 1 1; omega) (by rw [hr 1 (by omega)]; show js J 1 1 < _; omega))]
    rw [wp_ret (c_add (J := addR (addR J 0 0) 1 n) (id := 2) (Or.inl (by omega)) (by show 0 ≤ js J 1 2; omega) (by rw [hr 2 (by omega)]; show js J 1 2 < _; omega))]
    refine hq _ j (hF.trans (((FrT.add (by omega)).trans (FrT.add (by omega))).trans (FrT.add (by omega)))) hlt hp (TkR.add hK' ?_ hp.symm ?_)
    · rw [hp]; unfold kdP; rw [if_pos (by omega)]
    · rw [hp]; unfold vlP; rw [if_pos (by omega)]
  intro d
  induction d with
  | zero =>
    intro J m j a hd hm hF h0 h1 hb hlt hj hK
    cases m with
    | zero => omega
    | succ m =>
      have h2 : js J 2 0 = n := by rw [hF.1 2 0 (by omega)]; exact hT.1
      unfold G10_cutIntoPieces_25 G10_cutIntoPieces_25_st
      simp only [wp_ib, wp_ig, wp_ite, jp_ret, jp_nz, jp_dI, jp_rI, jp_g9, jp_E, jpN1, jp_Bk, jp_Ck, jp_W, jp_R, jp_Tx, jp_Sl, jp_Sc, jp_Si, jp_Sq, jp_Xl, jp_X0, jp_Xc, jp_Xs, jp_Xi, jp_Tos, jp_NB, jp_NC, kj_1, kj_2, kj_3, kj_4, jpA1, jpS1, jp_con, ju1_s, ju1_a, ju2_s, ju2_a, juA_s, juA_a, jux_s, jux_a, jux_x, jux_t, ju1_jB, ju2_jB, juA_jB, ju1_jC, ju2_jC, juA_jC, ju1_jT, ju2_jT, juA_jT, ju1_jb, ju2_jb, juA_jb, ju1_jd, ju2_jd, juA_jd, ju1_jt, ju2_jt, juA_jt, ju1_jx, ju2_jx, juA_jx, ju1_jw, ju2_jw, juA_jw, ju1_jr, ju2_jr, juA_jr, ju1_jn, ju2_jn, juA_jn, jux_jB, jux_jC, jux_jT, jux_jb, jux_jd, jux_jw, jux_jr, jux_jn, jG2, jP2, jG3, jP3, jG4, jP4, jG5, jP5, jG8, jP8, jG9, jP9, jG10, jP10, jG11, jP11, jG1, jP1, jG6, jP6, jG7, jP7, jG12, jP12, wj2, wk2, wn2, wj3, wk3, wn3, wj4, wk4, wn4, wj5, wk5, wn5, wj6, wk6, wn6, wj7, wk7, wn7, wj8, wk8, wn8, wj9, wk9, wn9, wj10, wk10, wn10, Nat.reduceEqDiff, reduceIte, false_and, true_and, and_true, and_self, if_false, if_true, and_false]
      rw [h2, if_pos (by omega)]
      refine ⟨by omega, by omega, finish J j hF ?_ hlt hj hK⟩
      rw [← hb, bl_no (by omega)]
      omega
  | succ d ih =>
    intro J m j a hd hm hF h0 h1 hb hlt hj hK
    cases m with
    | zero => omega
    | succ m =>
      have hT' := hT.fr hF
      have h2 : js J 2 0 = n := hT'.1
      unfold G10_cutIntoPieces_25 G10_cutIntoPieces_25_st G10_cutIntoPieces_55
      simp only [wp_ib, wp_ig, wp_ite, jp_ret, jp_nz, jp_dI, jp_rI, jp_g9, jp_E, jpN1, jp_Bk, jp_Ck, jp_W, jp_R, jp_Tx, jp_Sl, jp_Sc, jp_Si, jp_Sq, jp_Xl, jp_X0, jp_Xc, jp_Xs, jp_Xi, jp_Tos, jp_NB, jp_NC, kj_1, kj_2, kj_3, kj_4, jpA1, jpS1, jp_con, ju1_s, ju1_a, ju2_s, ju2_a, juA_s, juA_a, jux_s, jux_a, jux_x, jux_t, ju1_jB, ju2_jB, juA_jB, ju1_jC, ju2_jC, juA_jC, ju1_jT, ju2_jT, juA_jT, ju1_jb, ju2_jb, juA_jb, ju1_jd, ju2_jd, juA_jd, ju1_jt, ju2_jt, juA_jt, ju1_jx, ju2_jx, juA_jx, ju1_jw, ju2_jw, juA_jw, ju1_jr, ju2_jr, juA_jr, ju1_jn, ju2_jn, juA_jn, jux_jB, jux_jC, jux_jT, jux_jb, jux_jd, jux_jw, jux_jr, jux_jn, jG2, jP2, jG3, jP3, jG4, jP4, jG5, jP5, jG8, jP8, jG9, jP9, jG10, jP10, jG11, jP11, jG1, jP1, jG6, jP6, jG7, jP7, jG12, jP12, wj2, wk2, wn2, wj3, wk3, wn3, wj4, wk4, wn4, wj5, wk5, wn5, wj6, wk6, wn6, wj7, wk7, wn7, wj8, wk8, wn8, wj9, wk9, wn9, wj10, wk10, wn10, Nat.reduceEqDiff, reduceIte, false_and, true_and, and_true, and_self, if_false, if_true, and_false]
      rw [h2]
      refine ⟨by omega, by omega, ?_⟩
      by_cases c : n ≤ a
      · rw [if_pos c]
        refine finish J j hF ?_ hlt hj hK
        rw [← hb, bl_no (by omega)]
        omega
      · have hba := hT.2.1.2 a h0 (by omega)
        have hw := wen_bd (T := T) (n := n) (p := a) (by omega)
        have e8 : ¬ (wen T n a - a < 1) := by omega
        rw [if_neg c, wp_ret (c_widthAt hT' h0 (by omega)), wp_ret (c_byte hT' h0 (by omega))]
        refine ⟨by omega, ?_⟩
        by_cases c2 : T a = 32
        · have e1 : wen T n a = a + 1 := by unfold wen; rw [if_neg (by omega), if_neg (by omega)]
          rw [if_pos c2]
          refine ⟨by omega, ?_⟩
          rw [if_neg e8, e1, show a + (a + 1 - a) = a + 1 by omega]
          exact ih J m j (a + 1) (by omega) (by omega) hF (by omega) (by omega) (by rw [← bl_sp (by omega) c2]; exact hb) hlt hj hK
        · have ep : tkP T n j = a := by rw [← hb]; exact bl_no fun _ => c2
          rw [if_neg c2]
          refine c_addPiece (hC.r hF.2.2) hT' hK h0 (by omega) (by omega) ep.symm fun J' hF' hK' => ?_
          refine ⟨by omega, ?_⟩
          rw [if_neg e8, show a + (wen T n a - a) = wen T n a by omega]
          have hj2 := tkP_lt (T := T) (n := n) (by omega) hj (by omega)
          have e2 : tkP T n (j + 1) = bl T n (wen T n a) := by
            show bl T n (enP T n (tkP T n j)) = _
            rw [ep]
            congr 1
            exact if_neg c
          refine ih J' m (j + 1) (wen T n a) (by omega) (by omega) (hF.trans hF') (by omega) (by omega) e2.symm (fun i hi => ?_) hj2 hK'
          by_cases e9 : i = j
          · rw [e9, ep]; omega
          · exact hlt i (by omega)
theorem c_clear {id : Nat} (hx : rxk J id) : G8_clear id J = some ((), ju1 J 1 id 0) := by
  refine wp_eq ?_
  unfold G8_clear
  unfold rxk at hx
  simp only [wp_ib, wp_ig, wp_ite, jp_ret, jp_nz, jp_dI, jp_rI, jp_g9, jp_E, jpN1, jp_Bk, jp_Ck, jp_W, jp_R, jp_Tx, jp_Sl, jp_Sc, jp_Si, jp_Sq, jp_Xl, jp_X0, jp_Xc, jp_Xs, jp_Xi, jp_Tos, jp_NB, jp_NC, kj_1, kj_2, kj_3, kj_4, jpA1, jpS1, jp_con, ju1_s, ju1_a, ju2_s, ju2_a, juA_s, juA_a, jux_s, jux_a, jux_x, jux_t, ju1_jB, ju2_jB, juA_jB, ju1_jC, ju2_jC, juA_jC, ju1_jT, ju2_jT, juA_jT, ju1_jb, ju2_jb, juA_jb, ju1_jd, ju2_jd, juA_jd, ju1_jt, ju2_jt, juA_jt, ju1_jx, ju2_jx, juA_jx, ju1_jw, ju2_jw, juA_jw, ju1_jr, ju2_jr, juA_jr, ju1_jn, ju2_jn, juA_jn, jux_jB, jux_jC, jux_jT, jux_jb, jux_jd, jux_jw, jux_jr, jux_jn, jG2, jP2, jG3, jP3, jG4, jP4, jG5, jP5, jG8, jP8, jG9, jP9, jG10, jP10, jG11, jP11, jG1, jP1, jG6, jP6, jG7, jP7, jG12, jP12, wj2, wk2, wn2, wj3, wk3, wn3, wj4, wk4, wn4, wj5, wk5, wn5, wj6, wk6, wn6, wj7, wk7, wn7, wj8, wk8, wn8, wj9, wk9, wn9, wj10, wk10, wn10, Nat.reduceEqDiff, reduceIte, false_and, true_and, and_true, and_self, if_false, if_true, and_false]
  exact hx
theorem c_cutIntoPieces {Q : Unit → JS → Prop} (hC : CT J) (hT : TpR J T n) (hq : ∀ J' N, FrT J J' → (∀ i : Nat, i < N → tkP T n i < n) → tkP T n N = n → TkR J' T n (N + 1) → Q () J') : wp G10_cutIntoPieces Q J := by
  have hn := hT.2.1.1
  have hF : FrT J (ju1 (ju1 (ju1 J 1 0 0) 1 1 0) 1 2 0) := by
    refine ⟨fun t i q => ?_, fun t i q => rfl, rfl⟩
    simp only [ju1_s]
    rw [if_neg (by omega), if_neg (by omega), if_neg (by omega)]
  unfold G10_cutIntoPieces
  simp only [wp_ib, wp_ig, wp_ite, jp_ret, jp_nz, jp_dI, jp_rI, jp_g9, jp_E, jpN1, jp_Bk, jp_Ck, jp_W, jp_R, jp_Tx, jp_Sl, jp_Sc, jp_Si, jp_Sq, jp_Xl, jp_X0, jp_Xc, jp_Xs, jp_Xi, jp_Tos, jp_NB, jp_NC, kj_1, kj_2, kj_3, kj_4, jpA1, jpS1, jp_con, ju1_s, ju1_a, ju2_s, ju2_a, juA_s, juA_a, jux_s, jux_a, jux_x, jux_t, ju1_jB, ju2_jB, juA_jB, ju1_jC, ju2_jC, juA_jC, ju1_jT, ju2_jT, juA_jT, ju1_jb, ju2_jb, juA_jb, ju1_jd, ju2_jd, juA_jd, ju1_jt, ju2_jt, juA_jt, ju1_jx, ju2_jx, juA_jx, ju1_jw, ju2_jw, juA_jw, ju1_jr, ju2_jr, juA_jr, ju1_jn, ju2_jn, juA_jn, jux_jB, jux_jC, jux_jT, jux_jb, jux_jd, jux_jw, jux_jr, jux_jn, jG2, jP2, jG3, jP3, jG4, jP4, jG5, jP5, jG8, jP8, jG9, jP9, jG10, jP10, jG11, jP11, jG1, jP1, jG6, jP6, jG7, jP7, jG12, jP12, wj2, wk2, wn2, wj3, wk3, wn3, wj4, wk4, wn4, wj5, wk5, wn5, wj6, wk6, wn6, wj7, wk7, wn7, wj8, wk8, wn8, wj9, wk9, wn9, wj10, wk10, wn10, Nat.reduceEqDiff, reduceIte, false_and, true_and, and_true, and_self, if_false, if_true, and_false]
  rw [wp_ret (c_clear (Or.inl (by omega))), wp_ret (c_clear (Or.inl (by omega))), wp_ret (c_clear (Or.inl (by omega)))]
  refine c_cut_25 hC hT hq n.toNat _ LFU 0 0 (by omega) (by unfold LFU; omega) hF (by omega) (by omega) rfl (fun i hi => by omega) ?_ ⟨⟨rfl, rfl, rfl⟩, fun i hi => by omega⟩
  have := tkP_bd (T := T) hn.1 0
  omega
end CLX
