/-! ===== the class's faults of changes ===== -/
def slo (R : Nat → Int → Int) (c : Int) : Int := R 33 c * 12 + R 34 c - 1
/-- fates, inserted ones after so many changes from the e-th on -/
def rFt (F : Int → Int) (R : Nat → Int → Int) (e : Int) : Nat → Int → Int
  | 0, l => F l
  | d + 1, l => if R 32 (e + d) ≠ 43 ∧ l = slo R (e + d) then R 32 (e + d) else rFt F R e d l
def rIt (I : Int → Int) (R : Nat → Int → Int) (e : Int) : Nat → Int → Int
  | 0, l => I l
  | d + 1, l => if R 32 (e + d) = 43 ∧ l = slo R (e + d) then R 35 (e + d) else rIt I R e d l
def ChC (J : JS) (R : Nat → Int → Int) (n : Int) : Prop := (js J 1 8 = n ∧ js J 1 9 = n ∧ js J 1 10 = n ∧ js J 1 11 = n) ∧ ∀ i, 0 ≤ i → i < n → ja J 1 8 i = R 32 i ∧ ja J 1 9 i = R 33 i ∧ ja J 1 10 i = R 34 i ∧ ja J 1 11 i = if R 32 i = 43 then R 35 i else -1
section FLT4
variable {J : JS} {R : Nat → Int → Int} {F I : Int → Int} {n e : Int}
theorem ChR.c {W : IS} {c : Int} (h : ChR W J c) : ChC J W.2 c := ⟨h.1.2.2, fun i i0 i1 => (h.2 i i0 i1).1⟩
theorem ChC.fr {J' : JS} (h : ChC J R n) (hF : FrP J J') : ChC J' R n := by
  unfold ChC
  rw [hF.1 1 8 (by omega), hF.1 1 9 (by omega), hF.1 1 10 (by omega), hF.1 1 11 (by omega), hF.2.1 1 8 (by omega), hF.2.1 1 9 (by omega), hF.2.1 1 10 (by omega), hF.2.1 1 11 (by omega)]
  exact h
theorem ChC.g (h : ChC J R n) (hn : 0 ≤ n ∧ n ≤ 60) {i : Int} (hi : 0 ≤ i ∧ i < n) : G8_get 8 i J = some (R 32 i, J) ∧ G8_get 9 i J = some (R 33 i, J) ∧ G8_get 10 i J = some (R 34 i, J) ∧ G8_get 11 i J = some (if R 32 i = 43 then R 35 i else -1, J) := by
  obtain ⟨⟨h8, h9, h10, h11⟩, h⟩ := h
  obtain ⟨a8, a9, a10, a11⟩ := h i hi.1 hi.2
  refine ⟨?_, ?_, ?_, ?_⟩
  · rw [c_get (id := 8) (Or.inl (by omega)) (by omega) (by omega) (by rw [rl11 (by omega)]; omega), if_pos (by omega), a8]
  · rw [c_get (id := 9) (Or.inl (by omega)) (by omega) (by omega) (by rw [rl11 (by omega)]; omega), if_pos (by omega), a9]
  · rw [c_get (id := 10) (Or.inl (by omega)) (by omega) (by omega) (by rw [rl11 (by omega)]; omega), if_pos (by omega), a10]
  · rw [c_get (id := 11) (Or.inl (by omega)) (by omega) (by omega) (by rw [rl11 (by omega)]; omega), if_pos (by omega), a11]
theorem rFt_0 {l : Int} {n : Int} (hB : chB R n) (he : 0 ≤ e) : ∀ d : Nat, e + d ≤ n → (rFt F R e d l = 0 ↔ F l = 0 ∧ ∀ c, e ≤ c → c < e + d → ¬ (R 32 c ≠ 43 ∧ l = slo R c))
  | 0, _ => ⟨fun h => ⟨h, fun c q1 q2 => by omega⟩, fun h => h.1⟩
  | d + 1, hd => by
    have ih := rFt_0 (l := l) hB he d (by omega)
    have hb := (hB (e + d) (by omega) (by omega)).1
    unfold rFt
    by_cases c : R 32 (e + d) ≠ 43 ∧ l = slo R (e + d)
    · rw [if_pos c]
      exact ⟨fun q => by omega, fun q => absurd c (q.2 _ (by omega) (by omega))⟩
    · rw [if_neg c, ih]
      refine ⟨fun q => ⟨q.1, fun x q1 q2 => ?_⟩, fun q => ⟨q.1, fun x q1 q2 => q.2 x q1 (by omega)⟩⟩
      by_cases e1 : x = e + d
      · rw [e1]; exact c
      · exact q.2 x q1 (by omega)
theorem rIt_0 {l : Int} {n : Int} (he : 0 ≤ e) (hB : ∀ c, e ≤ c → c < n → R 32 c = 43 → 1 ≤ R 35 c) : ∀ d : Nat, e + d ≤ n → (rIt I R e d l = 0 ↔ I l = 0 ∧ ∀ c, e ≤ c → c < e + d → ¬ (R 32 c = 43 ∧ l = slo R c))
  | 0, _ => ⟨fun h => ⟨h, fun c q1 q2 => by omega⟩, fun h => h.1⟩
  | d + 1, hd => by
    have ih := rIt_0 (l := l) he hB d (by omega)
    unfold rIt
    by_cases c : R 32 (e + d) = 43 ∧ l = slo R (e + d)
    · rw [if_pos c]
      have hb := hB (e + d) (by omega) (by omega) c.1
      exact ⟨fun q => by omega, fun q => absurd c (q.2 _ (by omega) (by omega))⟩
    · rw [if_neg c, ih]
      refine ⟨fun q => ⟨q.1, fun x q1 q2 => ?_⟩, fun q => ⟨q.1, fun x q1 q2 => q.2 x q1 (by omega)⟩⟩
      by_cases e1 : x = e + d
      · rw [e1]; exact c
      · exact q.2 x q1 (by omega)
theorem c_ofSigns {e' f l n : Int} (hn : 0 ≤ n ∧ n ≤ 60) (hB : chB R n) (hC : ChC J R n) (hf : R32 f ∧ R32 l) (he : 0 ≤ e ∧ e ≤ e' ∧ e' ≤ n) {Q : Int → JS → Prop} (h1 : (∀ c, e ≤ c → c < e' → f ≤ R 33 c ∧ R 33 c ≤ l) → Q 1 J) (h0 : (∃ c, e ≤ c ∧ c < e' ∧ ¬ (f ≤ R 33 c ∧ R 33 c ≤ l)) → Q 0 J) : wp (G3_ofSigns e e' f l) Q J := by
  have lp : ∀ (d m : Nat) (x : Int), d < m → e ≤ x → x + d = e' → (∀ c, e ≤ c → c < x → f ≤ R 33 c ∧ R 33 c ≤ l) → wp (G3_ofSigns_3 m e' f l x) Q J := by
    intro d
    induction d with
    | zero =>
      intro m x hm q1 q2 hp
      cases m with
      | zero => omega
      | succ m =>
        unfold G3_ofSigns_3 G3_ofSigns_3_st
        simp only [wp_ib, wp_ig, wp_ite, jp_ret, jp_nz, jp_dI, jp_rI, jp_g9, jp_E, jpN1, jp_Bk, jp_Ck, jp_W, jp_R, jp_Tx, jp_Sl, jp_Sc, jp_Si, jp_Sq, jp_Xl, jp_X0, jp_Xc, jp_Xs, jp_Xi, jp_Tos, jp_NB, jp_NC, kj_1, kj_2, kj_3, kj_4, jpA1, jpS1, jp_con, ju1_s, ju1_a, ju2_s, ju2_a, juA_s, juA_a, jux_s, jux_a, jux_x, jux_t, ju1_jB, ju2_jB, juA_jB, ju1_jC, ju2_jC, juA_jC, ju1_jT, ju2_jT, juA_jT, ju1_jb, ju2_jb, juA_jb, ju1_jd, ju2_jd, juA_jd, ju1_jt, ju2_jt, juA_jt, ju1_jx, ju2_jx, juA_jx, ju1_jw, ju2_jw, juA_jw, ju1_jr, ju2_jr, juA_jr, ju1_jn, ju2_jn, juA_jn, jux_jB, jux_jC, jux_jT, jux_jb, jux_jd, jux_jw, jux_jr, jux_jn, jG2, jP2, jG3, jP3, jG4, jP4, jG5, jP5, jG8, jP8, jG9, jP9, jG10, jP10, jG11, jP11, jG1, jP1, jG6, jP6, jG7, jP7, jG12, jP12, wj2, wk2, wn2, wj3, wk3, wn3, wj4, wk4, wn4, wj5, wk5, wn5, wj6, wk6, wn6, wj7, wk7, wn7, wj8, wk8, wn8, wj9, wk9, wn9, wj10, wk10, wn10, Nat.reduceEqDiff, reduceIte, false_and, true_and, and_true, and_self, if_false, if_true, and_false]
        rw [if_pos (by omega)]
        exact ⟨by omega, by omega, h1 fun c c0 c1 => hp c c0 (by omega)⟩
    | succ d ih =>
      intro m x hm q1 q2 hp
      cases m with
      | zero => omega
      | succ m =>
        have b := hB x (by omega) (by omega)
        have g9 := (hC.g hn (i := x) ⟨by omega, by omega⟩).2.1
        unfold G3_ofSigns_3 G3_ofSigns_3_st
        simp only [wp_ib, wp_ig, wp_ite, jp_ret, jp_nz, jp_dI, jp_rI, jp_g9, jp_E, jpN1, jp_Bk, jp_Ck, jp_W, jp_R, jp_Tx, jp_Sl, jp_Sc, jp_Si, jp_Sq, jp_Xl, jp_X0, jp_Xc, jp_Xs, jp_Xi, jp_Tos, jp_NB, jp_NC, kj_1, kj_2, kj_3, kj_4, jpA1, jpS1, jp_con, ju1_s, ju1_a, ju2_s, ju2_a, juA_s, juA_a, jux_s, jux_a, jux_x, jux_t, ju1_jB, ju2_jB, juA_jB, ju1_jC, ju2_jC, juA_jC, ju1_jT, ju2_jT, juA_jT, ju1_jb, ju2_jb, juA_jb, ju1_jd, ju2_jd, juA_jd, ju1_jt, ju2_jt, juA_jt, ju1_jx, ju2_jx, juA_jx, ju1_jw, ju2_jw, juA_jw, ju1_jr, ju2_jr, juA_jr, ju1_jn, ju2_jn, juA_jn, jux_jB, jux_jC, jux_jT, jux_jb, jux_jd, jux_jw, jux_jr, jux_jn, jG2, jP2, jG3, jP3, jG4, jP4, jG5, jP5, jG8, jP8, jG9, jP9, jG10, jP10, jG11, jP11, jG1, jP1, jG6, jP6, jG7, jP7, jG12, jP12, wj2, wk2, wn2, wj3, wk3, wn3, wj4, wk4, wn4, wj5, wk5, wn5, wj6, wk6, wn6, wj7, wk7, wn7, wj8, wk8, wn8, wj9, wk9, wn9, wj10, wk10, wn10, Nat.reduceEqDiff, reduceIte, false_and, true_and, and_true, and_self, if_false, if_true, and_false]
        rw [if_neg (show ¬ e' ≤ x by omega), wp_ret g9]
        refine ⟨by omega, by omega, by omega, hf.1, ?_⟩
        by_cases c1 : R 33 x < f
        · rw [if_pos c1]; exact h0 ⟨x, q1, by omega, by omega⟩
        · rw [if_neg c1, wp_ret g9]
          refine ⟨by omega, hf.2, ?_⟩
          by_cases c2 : R 33 x ≤ l
          · rw [if_pos c2]
            refine ih m (x + 1) (by omega) (by omega) (by omega) fun c c0 c3 => ?_
            by_cases ec : c = x
            · rw [ec]; omega
            · exact hp c c0 (by omega)
          · rw [if_neg c2]; exact h0 ⟨x, q1, by omega, by omega⟩
  exact lp (e' - e).toNat LFU e (by unfold LFU; omega) (Int.le_refl _) (by omega) (fun c c0 c1 => by omega)
end FLT4
