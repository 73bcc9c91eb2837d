/-! ===== the class's fault of a formula ===== -/
section FLTA
variable {J : JS} {R : Nat → Int → Int} {n : Int}
theorem jpFiA {t i : Nat} {b : Bool} {v : Int} {Q : Unit → JS → Prop} : wp (jFi t i b v) Q J = ((kj J (20 + t, i) = true ∧ by2 t = b) ∧ Q () (juA J t i (fun l => if l < jl t i then (if b = true then iB8 v else v) else ja J t i l))) := wp_if rfl
theorem jpFi {t i : Nat} {b : Bool} {Q : Unit → JS → Prop} : wp (jFi t i b 0) Q J = ((kj J (20 + t, i) = true ∧ by2 t = b) ∧ Q () (juA J t i (fun l => if l < jl t i then 0 else ja J t i l))) := by
  rw [jpFiA, show (if b = true then iB8 0 else 0) = 0 by cases b <;> decide]
theorem c_clearPlan {Q : Unit → JS → Prop} (hq : ∀ J', FrP J J' → DrR J' 0 (-1) (fun _ => 0) (fun _ => 0) (fun _ => 0) (fun _ => 0) → Q () J') : wp (G6_clear 0) Q J := by
  have hz := Nat.zero_le (jB J)
  have k2 : kj J (2, 0) = true := by rw [kj_2]; exact hz
  have st : ∀ (t : Nat) (J1 : JS) (f : Int → Int), (3 ≤ t ∧ t ≤ 6) → FrP J J1 → FrP J (juA J1 t 0 f) := fun t J1 f ht h => h.trans ⟨fun _ _ _ => rfl, fun t' i q => by funext l; rw [juA_a, if_neg (by omega)], rfl⟩
  have kk : ∀ (J1 : JS), FrP J J1 → ∀ t, t = 2 ∨ t = 24 ∨ t = 25 ∨ t = 26 → kj J1 (t, 0) = true := fun J1 h t ht => by
    rcases ht with e | e | e | e <;> subst e <;> exact decide_eq_true (p := 0 ≤ jB J1) (Nat.zero_le _)
  unfold G6_clear
  rw [wp_ib, jp_E]
  refine ⟨k2, ?_⟩
  rw [wp_ib, jpFi]
  refine ⟨⟨kk J FrP.refl 24 (by omega), rfl⟩, ?_⟩
  have F1 := st 4 J (fun l => if l < jl 4 0 then 0 else ja J 4 0 l) (by omega) FrP.refl
  have v1 : ∀ s, 0 ≤ s → s ≤ 70 → ja (juA J 4 0 (fun l => if l < jl 4 0 then 0 else ja J 4 0 l)) 4 0 s = 0 := fun s s0 s1 => by
    rw [juA_a, if_pos ⟨rfl, rfl⟩]
    exact if_pos (show s < 71 by omega)
  revert F1 v1
  generalize juA J 4 0 (fun l => if l < jl 4 0 then 0 else ja J 4 0 l) = J1
  intro F1 v1
  rw [wp_ib, jp_E]
  refine ⟨kk J1 F1 2 (by omega), ?_⟩
  rw [wp_ib, jpFi]
  refine ⟨⟨kk J1 F1 25 (by omega), rfl⟩, ?_⟩
  have F2 := st 5 J1 (fun l => if l < jl 5 0 then 0 else ja J1 5 0 l) (by omega) F1
  have v2 : ∀ s, 0 ≤ s → s < 852 → ja (juA J1 5 0 (fun l => if l < jl 5 0 then 0 else ja J1 5 0 l)) 5 0 s = 0 := fun s s0 s1 => by
    rw [juA_a, if_pos ⟨rfl, rfl⟩]
    exact if_pos (show s < 852 by omega)
  have v1' : ∀ s, 0 ≤ s → s ≤ 70 → ja (juA J1 5 0 (fun l => if l < jl 5 0 then 0 else ja J1 5 0 l)) 4 0 s = 0 := fun s s0 s1 => by
    rw [juA_a, if_neg (by omega)]
    exact v1 s s0 s1
  revert F2 v2 v1'
  generalize juA J1 5 0 (fun l => if l < jl 5 0 then 0 else ja J1 5 0 l) = J2
  intro F2 v2 v1'
  rw [wp_ib, jp_E]
  refine ⟨kk J2 F2 2 (by omega), ?_⟩
  rw [wp_ib, jpFi]
  refine ⟨⟨kk J2 F2 26 (by omega), rfl⟩, ?_⟩
  have F3 := st 6 J2 (fun l => if l < jl 6 0 then 0 else ja J2 6 0 l) (by omega) F2
  have v3 : ∀ s, 0 ≤ s → s < 852 → ja (juA J2 6 0 (fun l => if l < jl 6 0 then 0 else ja J2 6 0 l)) 5 0 s = 0 ∧ ja (juA J2 6 0 (fun l => if l < jl 6 0 then 0 else ja J2 6 0 l)) 6 0 s = 0 := fun s s0 s1 => by
    rw [juA_a, if_neg (by omega), juA_a, if_pos ⟨rfl, rfl⟩]
    exact ⟨v2 s s0 s1, if_pos (show s < 852 by omega)⟩
  have v1'' : ∀ s, 0 ≤ s → s ≤ 70 → ja (juA J2 6 0 (fun l => if l < jl 6 0 then 0 else ja J2 6 0 l)) 4 0 s = 0 := fun s s0 s1 => by
    rw [juA_a, if_neg (by omega)]
    exact v1' s s0 s1
  revert F3 v3 v1''
  generalize juA J2 6 0 (fun l => if l < jl 6 0 then 0 else ja J2 6 0 l) = J3
  intro F3 v3 v1''
  rw [wp_ib, jP6]
  refine ⟨kk J3 F3 2 (by omega), ?_⟩
  rw [wp_ib, jP7]
  refine ⟨kk _ (F3.trans (FrP.u (by omega))) 2 (by omega), ?_⟩
  refine hq _ ((F3.trans (FrP.u (by omega))).trans (FrP.u (by omega))) ⟨?_, ?_, fun p p0 p1 => by omega, v1'', v3⟩
  · rw [ju1_s, if_neg (by omega), ju1_s, if_pos ⟨rfl, rfl⟩]
  · rw [ju1_s, if_pos ⟨rfl, rfl⟩]
theorem c_ofFormula {g : Nat} (hGr : GrC J R g) (hC : ChC J R n) (hg : (g : Int) ≤ 60) (hn : 0 ≤ n ∧ n ≤ 60) (hB : chB R n) (hG : grB R g n) {Q : Int → JS → Prop}
    (h0 : FA R g 0 → GGd R g → ∀ J', FrP J J' → DrR J' (gN R g) (gH R g) (gP R g) (gS R g) (gFt R g) (gIt R g) → Q 0 J')
    (hf : ∀ v J', FA R g v → v ≠ 0 → FrP J J' → Q v J') : wp (G3_ofFormula 0) Q J := by
  have lp : ∀ (d m k : Nat) (ki : Int) (J1 : JS), d < m → ki = (k : Int) → k + d = g → FrP J J1 → DrR J1 (gN R k) (gH R k) (gP R k) (gS R k) (gFt R k) (gIt R k) → GGd R k → (∀ i : Nat, i < k → FG R i (gH R i) (gX R i) 0) → wp (G3_ofFormula_8 m 0 (R 31 ki) ki) Q J1 := by
    intro d
    induction d with
    | zero =>
      intro m k ki J1 hm hki hkd hF hD hGG hp
      cases m with
      | zero => omega
      | succ m =>
        have e13 : js J1 1 3 = g := (hGr.fr hF).1.1
        have ek : k = g := by omega
        subst ek
        unfold G3_ofFormula_8 G3_ofFormula_8_st
        simp only [wp_ib, wp_ig, wp_ite, jp_ret, jp_nz, jp_dI, jp_rI, jp_g9, jp_E, jpN1, jp_Bk, jp_Ck, jp_W, jp_R, jp_Tx, jp_Sl, jp_Sc, jp_Si, jp_Sq, jp_Xl, jp_X0, jp_Xc, jp_Xs, jp_Xi, jp_Tos, jp_NB, jp_NC, kj_1, kj_2, kj_3, kj_4, jpA1, jpS1, jp_con, ju1_s, ju1_a, ju2_s, ju2_a, juA_s, juA_a, jux_s, jux_a, jux_x, jux_t, ju1_jB, ju2_jB, juA_jB, ju1_jC, ju2_jC, juA_jC, ju1_jT, ju2_jT, juA_jT, ju1_jb, ju2_jb, juA_jb, ju1_jd, ju2_jd, juA_jd, ju1_jt, ju2_jt, juA_jt, ju1_jx, ju2_jx, juA_jx, ju1_jw, ju2_jw, juA_jw, ju1_jr, ju2_jr, juA_jr, ju1_jn, ju2_jn, juA_jn, jux_jB, jux_jC, jux_jT, jux_jb, jux_jd, jux_jw, jux_jr, jux_jn, jG2, jP2, jG3, jP3, jG4, jP4, jG5, jP5, jG8, jP8, jG9, jP9, jG10, jP10, jG11, jP11, jG1, jP1, jG6, jP6, jG7, jP7, jG12, jP12, wj2, wk2, wn2, wj3, wk3, wn3, wj4, wk4, wn4, wj5, wk5, wn5, wj6, wk6, wn6, wj7, wk7, wn7, wj8, wk8, wn8, wj9, wk9, wn9, wj10, wk10, wn10, Nat.reduceEqDiff, reduceIte, false_and, true_and, and_true, and_self, if_false, if_true, and_false]
        rw [e13, if_pos (by omega)]
        exact ⟨Or.inl (by omega), by omega, by omega, h0 (Or.inl ⟨rfl, hp⟩) hGG J1 hF hD⟩
    | succ d ih =>
      intro m k ki J1 hm hki hkd hF hD hGG hp
      cases m with
      | zero => omega
      | succ m =>
        have e13 : js J1 1 3 = g := (hGr.fr hF).1.1
        unfold G3_ofFormula_8 G3_ofFormula_8_st
        simp only [wp_ib, wp_ig, wp_ite, jp_ret, jp_nz, jp_dI, jp_rI, jp_g9, jp_E, jpN1, jp_Bk, jp_Ck, jp_W, jp_R, jp_Tx, jp_Sl, jp_Sc, jp_Si, jp_Sq, jp_Xl, jp_X0, jp_Xc, jp_Xs, jp_Xi, jp_Tos, jp_NB, jp_NC, kj_1, kj_2, kj_3, kj_4, jpA1, jpS1, jp_con, ju1_s, ju1_a, ju2_s, ju2_a, juA_s, juA_a, jux_s, jux_a, jux_x, jux_t, ju1_jB, ju2_jB, juA_jB, ju1_jC, ju2_jC, juA_jC, ju1_jT, ju2_jT, juA_jT, ju1_jb, ju2_jb, juA_jb, ju1_jd, ju2_jd, juA_jd, ju1_jt, ju2_jt, juA_jt, ju1_jx, ju2_jx, juA_jx, ju1_jw, ju2_jw, juA_jw, ju1_jr, ju2_jr, juA_jr, ju1_jn, ju2_jn, juA_jn, jux_jB, jux_jC, jux_jT, jux_jb, jux_jd, jux_jw, jux_jr, jux_jn, jG2, jP2, jG3, jP3, jG4, jP4, jG5, jP5, jG8, jP8, jG9, jP9, jG10, jP10, jG11, jP11, jG1, jP1, jG6, jP6, jG7, jP7, jG12, jP12, wj2, wk2, wn2, wj3, wk3, wn3, wj4, wk4, wn4, wj5, wk5, wn5, wj6, wk6, wn6, wj7, wk7, wn7, wj8, wk8, wn8, wj9, wk9, wn9, wj10, wk10, wn10, Nat.reduceEqDiff, reduceIte, false_and, true_and, and_true, and_self, if_false, if_true, and_false]
        rw [e13, if_neg (show ¬ (g : Int) ≤ ki by omega)]
        refine ⟨Or.inl (by omega), by omega, by omega, ?_⟩
        refine c_ofGroup (k := k) (ki := ki) hki hD (hGr.fr hF) (hC.fr hF) ⟨by omega, hg⟩ hn hB hG (by omega) hGG (fun hv J2 hF2 hD2 => ?_) (fun v J2 hv v0 hF2 => ?_)
        · rw [hki] at hv
          have g7 := ((hGr.fr (hF.trans hF2)).gt ⟨by omega, hg⟩ (i := ki) ⟨by omega, by omega⟩).2.2.2.2
          rw [if_pos rfl, wp_ret g7]
          refine ⟨by decide, ih m (k + 1) (ki + 1) J2 (by omega) (by omega) (by omega) (hF.trans hF2) hD2 (GG_s hn hB hG (by omega) hGG hv) (fun i hi => ?_)⟩
          by_cases e : i = k
          · rw [e]; exact hv
          · exact hp i (by omega)
        · have hb := FG_bd hv
          rw [if_neg v0]
          rw [hki] at hv
          exact ⟨by omega, hf v J2 (Or.inr ⟨v0, k, by omega, hp, hv⟩) v0 (hF.trans hF2)⟩
  have hz := Nat.zero_le (jB J)
  unfold G3_ofFormula
  rw [wp_ib, jp_E]
  refine ⟨decide_eq_true hz, ?_⟩
  rw [wp_ib]
  refine c_clearPlan fun J1 hF1 hD1 => ?_
  have := lp g LFU 0 0 J1 (by unfold LFU; omega) rfl (by omega) hF1 hD1 GG_z (fun i hi => by omega)
  rw [hG.2.1] at this
  exact this
end FLTA
