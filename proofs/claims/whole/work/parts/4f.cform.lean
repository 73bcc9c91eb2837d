/-! ===== the class writes formulas ===== -/
theorem ite_p {c : Prop} {d : Decidable c} {A B : Prop} (h : c) (ha : A) : @ite Prop c d A B := by rw [if_pos h]; exact ha
theorem ite_n {c : Prop} {d : Decidable c} {A B : Prop} (h : ¬ c) (ha : B) : @ite Prop c d A B := by rw [if_neg h]; exact ha
section CFO
variable {J : JS} {B : BK} {p : Nat}
theorem PlR.ux {l : List Nat} (h : PlR J p B) : PlR (jux J l) p B := h
theorem fC_c (v : Int) (h : 0 ≤ v ∧ v ≤ 2) : (fC v = 0 ↔ v = 0) ∧ (v ≠ 0 → (0 ≤ iC16 (fC v) ∧ iC16 (fC v) < 256) ∧ (iC16 (fC v)).toNat = if v = 1 then 45 else 61) := by
  have h3 : v = 0 ∨ v = 1 ∨ v = 2 := by omega
  rcases h3 with e | e | e <;> subst e <;> decide
theorem c_writeChangesOf_3 (hC : CT J) (hp : p ≤ jB J) (hP : PlR J p B) (hB : BOK B) {g : Int} (hg : 0 ≤ g ∧ g < bn B) {pre : List Nat} {x3 : Int} (hx : x3 = pre.length) :
    ∀ (d m : Nat) (i : Int) (acc : List Nat), d < m → 1 ≤ i → i + d = bz B g + 1 → pre.length + (chI B g d i acc).length ≤ 16000 → G9_writeChangesOf_3 m p (bs B g) x3 i (jux J (pre ++ acc)) = some ((), jux J (pre ++ chI B g d i acc)) := by
  have hz := hB.2.1 g hg.1 hg.2
  intro d
  induction d with
  | zero =>
    intro m i acc hm hi hd hl
    cases m with
    | zero => omega
    | succ m =>
      refine wp_eq ?_
      unfold G9_writeChangesOf_3 G9_writeChangesOf_3_st
      simp only [wp_ib, wp_ig, wp_ite, jp_ret, jp_nz, jp_dI, jp_rI, jp_g9, jp_E, jpN1, jp_Bk, jp_Ck, jp_W, jp_R, jp_Tx, jp_Sl, jp_Sc, jp_Si, jp_Sq, jp_Xl, jp_X0, jp_Xc, jp_Xs, jp_Xi, jp_Tos, jp_NB, jp_NC, kj_1, kj_2, kj_3, kj_4, jpA1, jpS1, jp_con, ju1_s, ju1_a, ju2_s, ju2_a, juA_s, juA_a, jux_s, jux_a, jux_x, jux_t, ju1_jB, ju2_jB, juA_jB, ju1_jC, ju2_jC, juA_jC, ju1_jT, ju2_jT, juA_jT, ju1_jb, ju2_jb, juA_jb, ju1_jd, ju2_jd, juA_jd, ju1_jt, ju2_jt, juA_jt, ju1_jx, ju2_jx, juA_jx, ju1_jw, ju2_jw, juA_jw, ju1_jr, ju2_jr, juA_jr, ju1_jn, ju2_jn, juA_jn, jux_jB, jux_jC, jux_jT, jux_jb, jux_jd, jux_jw, jux_jr, jux_jn, jG2, jP2, jG3, jP3, jG4, jP4, jG5, jP5, jG8, jP8, jG9, jP9, jG10, jP10, jG11, jP11, jG1, jP1, jG6, jP6, jG7, jP7, jG12, jP12, wj2, wk2, wn2, wj3, wk3, wn3, wj4, wk4, wn4, wj5, wk5, wn5, wj6, wk6, wn6, wj7, wk7, wn7, wj8, wk8, wn8, wj9, wk9, wn9, wj10, wk10, wn10, Nat.reduceEqDiff, reduceIte, false_and, true_and, and_true, and_self, if_false, if_true, and_false]
      rw [wp_ret (c_size (J := jux J (pre ++ acc)) hp hP hB hg), if_pos (by omega)]
      exact ⟨hp, by omega, by omega, rfl⟩
  | succ d ih =>
    intro m i acc hm hi hd hl
    cases m with
    | zero => omega
    | succ m =>
      have hV : isV B g i := ⟨hg, hi, by omega⟩
      have hmm := hB.2.2.1 g i hV.1.1 hV.1.2 hV.2.1 hV.2.2
      have hf := fC_c _ hmm.1
      have hfR := fC_R (bf B g i)
      have s1 := sgnT_le hz.1.2
      have d1 := dgs_le i.toNat
      have d2 := dgs_le (bm B g i).toNat
      have l0 := chI_le (B := B) hz.1.2 d (i + 1) (itM B g i (itF B g i acc))
      have l1 := itM_le (B := B) (i := i) hz.1.2 (itF B g i acc)
      unfold chI at hl ⊢
      have nx : ∀ acc' m', acc' = itM B g i (itF B g i acc) → m' = pre ++ acc' → G9_writeChangesOf_3 m p (bs B g) x3 (i + 1) (jux J m') = some ((), jux J (pre ++ chI B g d (i + 1) (itM B g i (itF B g i acc)))) := fun acc' m' e e' => by
        subst e'
        subst e
        exact ih m (i + 1) _ (by omega) (by omega) (by omega) hl
      -- those put in
      have second : ∀ acc1, acc1 = itF B g i acc → wp (G9_writeChangesOf_90 (G9_writeChangesOf_3 m) p (bs B g) x3 i (bm B g i)) (fun _ s' => s' = jux J (pre ++ chI B g d (i + 1) (itM B g i (itF B g i acc)))) (jux J (pre ++ acc1)) := by
        intro acc1 e1
        have nn : ∀ m', m' = pre ++ itM B g i acc1 → wp (G9_writeChangesOf_3 m p (bs B g) x3 (i + 1)) (fun _ s' => s' = jux J (pre ++ chI B g d (i + 1) (itM B g i (itF B g i acc)))) (jux J m') := fun m' e => by
          rw [wp_ret (nx (itM B g i acc1) m' (by rw [e1]) e)]
        have li : (itM B g i acc1).length ≤ 16000 - pre.length := by rw [e1]; omega
        have lp : pre.length + (itM B g i acc1).length ≤ 16000 := by rw [e1]; omega
        unfold itM at li nn lp
        unfold G9_writeChangesOf_90 G9_writeChangesOf_117 G9_writeChangesOf_146
        simp only [wp_ib, wp_ig, wp_ite, jp_ret, jp_nz, jp_dI, jp_rI, jp_g9, jp_E, jpN1, jp_Bk, jp_Ck, jp_W, jp_R, jp_Tx, jp_Sl, jp_Sc, jp_Si, jp_Sq, jp_Xl, jp_X0, jp_Xc, jp_Xs, jp_Xi, jp_Tos, jp_NB, jp_NC, kj_1, kj_2, kj_3, kj_4, jpA1, jpS1, jp_con, ju1_s, ju1_a, ju2_s, ju2_a, juA_s, juA_a, jux_s, jux_a, jux_x, jux_t, ju1_jB, ju2_jB, juA_jB, ju1_jC, ju2_jC, juA_jC, ju1_jT, ju2_jT, juA_jT, ju1_jb, ju2_jb, juA_jb, ju1_jd, ju2_jd, juA_jd, ju1_jt, ju2_jt, juA_jt, ju1_jx, ju2_jx, juA_jx, ju1_jw, ju2_jw, juA_jw, ju1_jr, ju2_jr, juA_jr, ju1_jn, ju2_jn, juA_jn, jux_jB, jux_jC, jux_jT, jux_jb, jux_jd, jux_jw, jux_jr, jux_jn, jG2, jP2, jG3, jP3, jG4, jP4, jG5, jP5, jG8, jP8, jG9, jP9, jG10, jP10, jG11, jP11, jG1, jP1, jG6, jP6, jG7, jP7, jG12, jP12, wj2, wk2, wn2, wj3, wk3, wn3, wj4, wk4, wn4, wj5, wk5, wn5, wj6, wk6, wn6, wj7, wk7, wn7, wj8, wk8, wn8, wj9, wk9, wn9, wj10, wk10, wn10, Nat.reduceEqDiff, reduceIte, false_and, true_and, and_true, and_self, if_false, if_true, and_false]
        refine ⟨by omega, ?_⟩
        by_cases c : bm B g i = 0
        · rw [if_pos (by omega)]
          rw [if_pos c] at nn
          exact nn _ rfl
        · rw [if_neg (by omega)]
          rw [if_neg c] at nn li lp
          simp only [List.length_append, List.length_cons, sepT_le] at li lp
          have fin : ∀ k : Nat, k < 256 → k = (if acc1 = [] then 40 else 44) → (pre ++ acc1).length + 1 ≤ 16384 ∧ wp (G9_writeSign (bs B g)) (fun _ s' => ((0 ≤ i ∧ i < 100) ∧ (jx s').length + 2 ≤ 16384) ∧ ((0 ≤ (43 : Int) ∧ (43 : Int) < 256) ∧ (jx s' ++ dgs i.toNat).length + 1 ≤ 16384) ∧ ((0 ≤ bm B g i ∧ bm B g i < 100) ∧ (jx s' ++ dgs i.toNat ++ [Int.toNat 43]).length + 2 ≤ 16384) ∧ wp (G9_writeChangesOf_3 m p (bs B g) x3 (i + 1)) (fun _ s' => s' = jux J (pre ++ chI B g d (i + 1) (itM B g i (itF B g i acc)))) (jux (jux (jux s' (jx s' ++ dgs i.toNat)) (jx s' ++ dgs i.toNat ++ [Int.toNat 43])) (jx s' ++ dgs i.toNat ++ [Int.toNat 43] ++ dgs (bm B g i).toNat))) (jux J (pre ++ acc1 ++ [k])) := by
            intro k hk256 hk
            have el : (pre ++ acc1).length = pre.length + acc1.length := List.length_append
            refine ⟨by omega, ?_⟩
            rw [wp_ret (c_writeSign hC (by omega) (by omega) (by simp only [List.length_append, List.length_cons, List.length_nil]; omega))]
            simp only [jux_jux, jux_x]
            simp only [List.length_append, List.length_cons, List.length_nil]
            refine ⟨⟨by omega, by omega⟩, ⟨by omega, by omega⟩, ⟨by omega, by omega⟩, nn _ ?_⟩
            have e43 : Int.toNat 43 = 43 := rfl
            unfold sepT
            rw [← hk, e43]
            simp
          by_cases c2 : acc1 = []
          · have := fin 40 (by decide) (by rw [if_pos c2])
            refine ⟨by simp only [List.length_append]; omega, by omega, ite_p (by rw [hx, c2]; simp) ?_⟩
            exact ⟨⟨by decide, this.1⟩, this.2⟩
          · have hne : 0 < acc1.length := List.length_pos_iff.mpr c2
            have := fin 44 (by decide) (by rw [if_neg c2])
            refine ⟨by simp only [List.length_append]; omega, by omega, ite_n (by rw [hx, List.length_append]; omega) ?_⟩
            exact ⟨⟨by decide, this.1⟩, this.2⟩
      refine wp_eq ?_
      unfold G9_writeChangesOf_3 G9_writeChangesOf_3_st G9_writeChangesOf_65
      simp only [wp_ib, wp_ig, wp_ite, jp_ret, jp_nz, jp_dI, jp_rI, jp_g9, jp_E, jpN1, jp_Bk, jp_Ck, jp_W, jp_R, jp_Tx, jp_Sl, jp_Sc, jp_Si, jp_Sq, jp_Xl, jp_X0, jp_Xc, jp_Xs, jp_Xi, jp_Tos, jp_NB, jp_NC, kj_1, kj_2, kj_3, kj_4, jpA1, jpS1, jp_con, ju1_s, ju1_a, ju2_s, ju2_a, juA_s, juA_a, jux_s, jux_a, jux_x, jux_t, ju1_jB, ju2_jB, juA_jB, ju1_jC, ju2_jC, juA_jC, ju1_jT, ju2_jT, juA_jT, ju1_jb, ju2_jb, juA_jb, ju1_jd, ju2_jd, juA_jd, ju1_jt, ju2_jt, juA_jt, ju1_jx, ju2_jx, juA_jx, ju1_jw, ju2_jw, juA_jw, ju1_jr, ju2_jr, juA_jr, ju1_jn, ju2_jn, juA_jn, jux_jB, jux_jC, jux_jT, jux_jb, jux_jd, jux_jw, jux_jr, jux_jn, jG2, jP2, jG3, jP3, jG4, jP4, jG5, jP5, jG8, jP8, jG9, jP9, jG10, jP10, jG11, jP11, jG1, jP1, jG6, jP6, jG7, jP7, jG12, jP12, wj2, wk2, wn2, wj3, wk3, wn3, wj4, wk4, wn4, wj5, wk5, wn5, wj6, wk6, wn6, wj7, wk7, wn7, wj8, wk8, wn8, wj9, wk9, wn9, wj10, wk10, wn10, Nat.reduceEqDiff, reduceIte, false_and, true_and, and_true, and_self, if_false, if_true, and_false]
      rw [wp_ret (c_size (J := jux J (pre ++ acc)) hp hP hB hg), if_neg (by omega)]
      refine ⟨hp, by omega, by omega, hp, ?_⟩
      refine c_slotOf (J := jux J (pre ++ acc)) hp hP hB (by omega) (by omega) (fun g' hV' e => ?_) (fun hn => absurd rfl (hn _ hV))
      have eg := bs_inj hB hV'.1 hV.1 e
      subst eg
      rw [wp_ret (c_fate (J := jux J (pre ++ acc)) hp hP hB hV), wp_ret (c_ins (J := jux J (pre ++ acc)) hp hP hB hV)]
      refine ⟨hp, hp, by omega, ?_⟩
      by_cases c : bf B g' i = 0
      · rw [if_pos (hf.1.mpr c)]
        exact second acc (by unfold itF; rw [if_pos c])
      · rw [if_neg (fun q => c (hf.1.mp q))]
        have hf2 := hf.2 c
        have ei : itF B g' i acc = sepT acc ++ ((if bf B g' i = 1 then 45 else 61) :: (sgnT (bs B g') ++ dgs i.toNat)) := if_neg c
        have lF : pre.length + (itF B g' i acc).length ≤ 16000 := by omega
        rw [ei] at lF
        simp only [List.length_append, List.length_cons, sepT_le] at lF
        have fin : ∀ k : Nat, k < 256 → k = (if acc = [] then 40 else 44) → (pre ++ acc).length + 1 ≤ 16384 ∧ ((0 ≤ iC16 (fC (bf B g' i)) ∧ iC16 (fC (bf B g' i)) < 256) ∧ (pre ++ acc ++ [k]).length + 1 ≤ 16384) ∧ wp (G9_writeSign (bs B g')) (fun _ s' => ((0 ≤ i ∧ i < 100) ∧ (jx s').length + 2 ≤ 16384) ∧ wp (G9_writeChangesOf_90 (G9_writeChangesOf_3 m) p (bs B g') x3 i (bm B g' i)) (fun _ s' => s' = jux J (pre ++ chI B g' d (i + 1) (itM B g' i (itF B g' i acc)))) (jux s' (jx s' ++ dgs i.toNat))) (jux (jux J (pre ++ acc ++ [k])) (pre ++ acc ++ [k] ++ [(iC16 (fC (bf B g' i))).toNat])) := by
          intro k hk256 hk
          have el : (pre ++ acc).length = pre.length + acc.length := List.length_append
          refine ⟨by omega, ⟨hf2.1, by simp only [List.length_append, List.length_cons, List.length_nil]; omega⟩, ?_⟩
          rw [hf2.2, jux_jux, wp_ret (c_writeSign hC (by omega) (by omega) (by simp only [List.length_append, List.length_cons, List.length_nil]; omega))]
          simp only [jux_jux, jux_x]
          refine ⟨⟨by omega, by simp only [List.length_append, List.length_cons, List.length_nil]; omega⟩, ?_⟩
          have := second (itF B g' i acc) rfl
          rw [ei] at this
          unfold sepT at this
          rw [← hk] at this
          rw [ei]
          unfold sepT
          rw [← hk]
          simp only [List.append_assoc, List.cons_append, List.nil_append] at this ⊢
          exact this
        by_cases c2 : acc = []
        · have := fin 40 (by decide) (by rw [if_pos c2])
          refine ⟨by simp only [jux_x, List.length_append]; omega, by omega, ite_p (by rw [hx, c2]; simp [jux_x]) ?_⟩
          exact ⟨⟨by decide, this.1⟩, this.2.1, this.2.2⟩
        · have hne : 0 < acc.length := List.length_pos_iff.mpr c2
          have := fin 44 (by decide) (by rw [if_neg c2])
          refine ⟨by simp only [jux_x, List.length_append]; omega, by omega, ite_n (by rw [hx, jux_x, List.length_append]; omega) ?_⟩
          exact ⟨⟨by decide, this.1⟩, this.2.1, this.2.2⟩
theorem c_writeGroup_76 (hC : CT J) (hp : p ≤ jB J) (hP : PlR J p B) (hB : BOK B) {t : Int} (ht : t < bn B) {pre : List Nat} {x4 : Int} (hx : x4 = pre.length) :
    ∀ (d m : Nat) (g : Int) (acc : List Nat), d < m → 0 ≤ g → g + d = t + 1 → pre.length + (clo (chG B d g acc)).length ≤ 16000 → G9_writeGroup_76 m p t x4 g (jux J (pre ++ acc)) = some ((), jux J (pre ++ clo (chG B d g acc))) := by
  have h71 := hB.1
  intro d
  induction d with
  | zero =>
    intro m g acc hm hg hd hl
    cases m with
    | zero => omega
    | succ m =>
      have hl0 := clo_le acc
      unfold chG at hl ⊢
      refine wp_eq ?_
      unfold G9_writeGroup_76 G9_writeGroup_76_st G9_writeGroup_101
      simp only [wp_ib, wp_ig, wp_ite, jp_ret, jp_nz, jp_dI, jp_rI, jp_g9, jp_E, jpN1, jp_Bk, jp_Ck, jp_W, jp_R, jp_Tx, jp_Sl, jp_Sc, jp_Si, jp_Sq, jp_Xl, jp_X0, jp_Xc, jp_Xs, jp_Xi, jp_Tos, jp_NB, jp_NC, kj_1, kj_2, kj_3, kj_4, jpA1, jpS1, jp_con, ju1_s, ju1_a, ju2_s, ju2_a, juA_s, juA_a, jux_s, jux_a, jux_x, jux_t, ju1_jB, ju2_jB, juA_jB, ju1_jC, ju2_jC, juA_jC, ju1_jT, ju2_jT, juA_jT, ju1_jb, ju2_jb, juA_jb, ju1_jd, ju2_jd, juA_jd, ju1_jt, ju2_jt, juA_jt, ju1_jx, ju2_jx, juA_jx, ju1_jw, ju2_jw, juA_jw, ju1_jr, ju2_jr, juA_jr, ju1_jn, ju2_jn, juA_jn, jux_jB, jux_jC, jux_jT, jux_jb, jux_jd, jux_jw, jux_jr, jux_jn, jG2, jP2, jG3, jP3, jG4, jP4, jG5, jP5, jG8, jP8, jG9, jP9, jG10, jP10, jG11, jP11, jG1, jP1, jG6, jP6, jG7, jP7, jG12, jP12, wj2, wk2, wn2, wj3, wk3, wn3, wj4, wk4, wn4, wj5, wk5, wn5, wj6, wk6, wn6, wj7, wk7, wn7, wj8, wk8, wn8, wj9, wk9, wn9, wj10, wk10, wn10, Nat.reduceEqDiff, reduceIte, false_and, true_and, and_true, and_self, if_false, if_true, and_false]
      rw [if_pos (by omega)]
      simp only [List.length_append]
      refine ⟨by omega, by omega, by omega, by omega, ?_⟩
      by_cases c : acc = []
      · refine ite_p (by rw [hx, c]; simp) ?_
        rw [c]
        rfl
      · have hne : 0 < acc.length := List.length_pos_iff.mpr c
        have e : clo acc = acc ++ [41] := if_neg c
        rw [e] at hl ⊢
        simp only [List.length_append, List.length_cons, List.length_nil] at hl
        refine ite_n (by rw [hx]; omega) ⟨⟨by decide, by omega⟩, ?_⟩
        rw [jux_jux, List.append_assoc]
        rfl
  | succ d ih =>
    intro m g acc hm hg hd hl
    cases m with
    | zero => omega
    | succ m =>
      have hgg : 0 ≤ g ∧ g < bn B := by omega
      have hz := hB.2.1 g hgg.1 hgg.2
      have l0 := chG_le hB d (g + 1) (chI B g (bz B g).toNat 1 acc) (by omega) (by omega)
      have l1 := clo_le (chG B d (g + 1) (chI B g (bz B g).toNat 1 acc))
      unfold chG at hl ⊢
      refine wp_eq ?_
      unfold G9_writeGroup_76 G9_writeGroup_76_st G9_writeChangesOf
      simp only [wp_ib, wp_ig, wp_ite, jp_ret, jp_nz, jp_dI, jp_rI, jp_g9, jp_E, jpN1, jp_Bk, jp_Ck, jp_W, jp_R, jp_Tx, jp_Sl, jp_Sc, jp_Si, jp_Sq, jp_Xl, jp_X0, jp_Xc, jp_Xs, jp_Xi, jp_Tos, jp_NB, jp_NC, kj_1, kj_2, kj_3, kj_4, jpA1, jpS1, jp_con, ju1_s, ju1_a, ju2_s, ju2_a, juA_s, juA_a, jux_s, jux_a, jux_x, jux_t, ju1_jB, ju2_jB, juA_jB, ju1_jC, ju2_jC, juA_jC, ju1_jT, ju2_jT, juA_jT, ju1_jb, ju2_jb, juA_jb, ju1_jd, ju2_jd, juA_jd, ju1_jt, ju2_jt, juA_jt, ju1_jx, ju2_jx, juA_jx, ju1_jw, ju2_jw, juA_jw, ju1_jr, ju2_jr, juA_jr, ju1_jn, ju2_jn, juA_jn, jux_jB, jux_jC, jux_jT, jux_jb, jux_jd, jux_jw, jux_jr, jux_jn, jG2, jP2, jG3, jP3, jG4, jP4, jG5, jP5, jG8, jP8, jG9, jP9, jG10, jP10, jG11, jP11, jG1, jP1, jG6, jP6, jG7, jP7, jG12, jP12, wj2, wk2, wn2, wj3, wk3, wn3, wj4, wk4, wn4, wj5, wk5, wn5, wj6, wk6, wn6, wj7, wk7, wn7, wj8, wk8, wn8, wj9, wk9, wn9, wj10, wk10, wn10, Nat.reduceEqDiff, reduceIte, false_and, true_and, and_true, and_self, if_false, if_true, and_false]
      rw [if_neg (by omega), wp_ret (c_signOf (J := jux J (pre ++ acc)) hp hP hB (by omega)), if_pos hgg, wp_ret (c_writeChangesOf_3 hC hp hP hB hgg hx (bz B g).toNat LFU 1 acc (by unfold LFU; omega) (by omega) (by omega) (by omega)), wp_ret (ih m (g + 1) _ (by omega) (by omega) (by omega) hl)]
      exact ⟨by omega, by omega, hp, rfl⟩
theorem c_writeGroup (hC : CT J) (hp : p ≤ jB J) (hP : PlR J p B) (hB : BOK B) {f t : Int} (hf : 0 ≤ f) (hft : f ≤ t) (ht : t < bn B) (hz : bz B t = bz B f) {l : List Nat} (hl : l.length + (preT f ++ grT B f t).length ≤ 16000) : G9_writeGroup p f t (jux J l) = some ((), jux J (l ++ (preT f ++ grT B f t))) := by
  have h71 := hB.1
  have hgf : 0 ≤ f ∧ f < bn B := by omega
  have hgt : 0 ≤ t ∧ t < bn B := by omega
  have hsf := hB.2.1 f hgf.1 hgf.2
  have hst := hB.2.1 t hgt.1 hgt.2
  have s1 := sgnT_le hsf.1.2
  have s2 := sgnT_le hst.1.2
  have main : ∀ l, l.length + (grT B f t).length ≤ 16000 → wp (G9_writeGroup_14 p f t) (fun _ s => s = jux J (l ++ grT B f t)) (jux J l) := by
    intro l hl
    -- the leaves' number, the changes
    have tail : ∀ m k, k = m ++ (dgs (bz B f).toNat ++ chT B f t) → k.length ≤ 16000 → wp (G9_writeGroup_47 p f t) (fun _ s => s = jux J k) (jux J m) := by
      intro m k hk hm
      subst hk
      unfold chT at hm ⊢
      simp only [List.length_append] at hm
      unfold G9_writeGroup_47
      simp only [wp_ib, wp_ig, wp_ite, jp_ret, jp_nz, jp_dI, jp_rI, jp_g9, jp_E, jpN1, jp_Bk, jp_Ck, jp_W, jp_R, jp_Tx, jp_Sl, jp_Sc, jp_Si, jp_Sq, jp_Xl, jp_X0, jp_Xc, jp_Xs, jp_Xi, jp_Tos, jp_NB, jp_NC, kj_1, kj_2, kj_3, kj_4, jpA1, jpS1, jp_con, ju1_s, ju1_a, ju2_s, ju2_a, juA_s, juA_a, jux_s, jux_a, jux_x, jux_t, ju1_jB, ju2_jB, juA_jB, ju1_jC, ju2_jC, juA_jC, ju1_jT, ju2_jT, juA_jT, ju1_jb, ju2_jb, juA_jb, ju1_jd, ju2_jd, juA_jd, ju1_jt, ju2_jt, juA_jt, ju1_jx, ju2_jx, juA_jx, ju1_jw, ju2_jw, juA_jw, ju1_jr, ju2_jr, juA_jr, ju1_jn, ju2_jn, juA_jn, jux_jB, jux_jC, jux_jT, jux_jb, jux_jd, jux_jw, jux_jr, jux_jn, jG2, jP2, jG3, jP3, jG4, jP4, jG5, jP5, jG8, jP8, jG9, jP9, jG10, jP10, jG11, jP11, jG1, jP1, jG6, jP6, jG7, jP7, jG12, jP12, wj2, wk2, wn2, wj3, wk3, wn3, wj4, wk4, wn4, wj5, wk5, wn5, wj6, wk6, wn6, wj7, wk7, wn7, wj8, wk8, wn8, wj9, wk9, wn9, wj10, wk10, wn10, Nat.reduceEqDiff, reduceIte, false_and, true_and, and_true, and_self, if_false, if_true, and_false]
      rw [wp_ret (c_signOf (J := jux J m) hp hP hB (by omega)), if_pos hgt, wp_ret (c_size (J := jux J m) hp hP hB hgt), hz]
      simp only [wp_ib, wp_ig, wp_ite, jp_ret, jp_nz, jp_dI, jp_rI, jp_g9, jp_E, jpN1, jp_Bk, jp_Ck, jp_W, jp_R, jp_Tx, jp_Sl, jp_Sc, jp_Si, jp_Sq, jp_Xl, jp_X0, jp_Xc, jp_Xs, jp_Xi, jp_Tos, jp_NB, jp_NC, kj_1, kj_2, kj_3, kj_4, jpA1, jpS1, jp_con, ju1_s, ju1_a, ju2_s, ju2_a, juA_s, juA_a, jux_s, jux_a, jux_x, jux_t, ju1_jB, ju2_jB, juA_jB, ju1_jC, ju2_jC, juA_jC, ju1_jT, ju2_jT, juA_jT, ju1_jb, ju2_jb, juA_jb, ju1_jd, ju2_jd, juA_jd, ju1_jt, ju2_jt, juA_jt, ju1_jx, ju2_jx, juA_jx, ju1_jw, ju2_jw, juA_jw, ju1_jr, ju2_jr, juA_jr, ju1_jn, ju2_jn, juA_jn, jux_jB, jux_jC, jux_jT, jux_jb, jux_jd, jux_jw, jux_jr, jux_jn, jG2, jP2, jG3, jP3, jG4, jP4, jG5, jP5, jG8, jP8, jG9, jP9, jG10, jP10, jG11, jP11, jG1, jP1, jG6, jP6, jG7, jP7, jG12, jP12, wj2, wk2, wn2, wj3, wk3, wn3, wj4, wk4, wn4, wj5, wk5, wn5, wj6, wk6, wn6, wj7, wk7, wn7, wj8, wk8, wn8, wj9, wk9, wn9, wj10, wk10, wn10, Nat.reduceEqDiff, reduceIte, false_and, true_and, and_true, and_self, if_false, if_true, and_false, jux_jux]
      have := c_writeGroup_76 hC hp hP hB ht (pre := m ++ dgs (bz B f).toNat) rfl (t + 1 - f).toNat LFU f [] (by unfold LFU; omega) hf (by omega) (by simp only [List.length_append]; omega)
      rw [List.append_nil] at this
      rw [wp_ret this]
      refine ⟨hp, hp, ⟨by omega, by omega⟩, ?_⟩
      rw [List.append_assoc]
    unfold grT at hl ⊢
    simp only [List.length_append] at hl
    unfold G9_writeGroup_14
    simp only [wp_ib, wp_ig, wp_ite, jp_ret, jp_nz, jp_dI, jp_rI, jp_g9, jp_E, jpN1, jp_Bk, jp_Ck, jp_W, jp_R, jp_Tx, jp_Sl, jp_Sc, jp_Si, jp_Sq, jp_Xl, jp_X0, jp_Xc, jp_Xs, jp_Xi, jp_Tos, jp_NB, jp_NC, kj_1, kj_2, kj_3, kj_4, jpA1, jpS1, jp_con, ju1_s, ju1_a, ju2_s, ju2_a, juA_s, juA_a, jux_s, jux_a, jux_x, jux_t, ju1_jB, ju2_jB, juA_jB, ju1_jC, ju2_jC, juA_jC, ju1_jT, ju2_jT, juA_jT, ju1_jb, ju2_jb, juA_jb, ju1_jd, ju2_jd, juA_jd, ju1_jt, ju2_jt, juA_jt, ju1_jx, ju2_jx, juA_jx, ju1_jw, ju2_jw, juA_jw, ju1_jr, ju2_jr, juA_jr, ju1_jn, ju2_jn, juA_jn, jux_jB, jux_jC, jux_jT, jux_jb, jux_jd, jux_jw, jux_jr, jux_jn, jG2, jP2, jG3, jP3, jG4, jP4, jG5, jP5, jG8, jP8, jG9, jP9, jG10, jP10, jG11, jP11, jG1, jP1, jG6, jP6, jG7, jP7, jG12, jP12, wj2, wk2, wn2, wj3, wk3, wn3, wj4, wk4, wn4, wj5, wk5, wn5, wj6, wk6, wn6, wj7, wk7, wn7, wj8, wk8, wn8, wj9, wk9, wn9, wj10, wk10, wn10, Nat.reduceEqDiff, reduceIte, false_and, true_and, and_true, and_self, if_false, if_true, and_false]
    rw [wp_ret (c_signOf (J := jux J l) hp hP hB (by omega)), if_pos hgf, wp_ret (c_writeSign hC (by omega) (by omega) (by omega))]
    refine ⟨hp, by omega, by omega, ?_⟩
    by_cases c : t ≤ f
    · rw [if_pos c]
      rw [if_pos c] at hl ⊢
      refine tail _ _ (by simp) ?_
      simp only [List.length_append, List.length_nil] at hl ⊢
      omega
    · rw [if_neg c]
      rw [if_neg c] at hl ⊢
      simp only [List.length_cons] at hl
      simp only [jux_jux, jux_x]
      have hsg : ∀ m, G6_signOf p t (jux J m) = some (bs B t, jux J m) := fun m => by rw [c_signOf (J := jux J m) hp hP hB (by omega), if_pos hgt]
      rw [wp_ret (hsg _), wp_ret (c_writeSign hC (by omega) (by omega) (by simp only [List.length_append, List.length_cons, List.length_nil]; omega))]
      refine ⟨⟨by decide, by simp only [List.length_append]; omega⟩, hp, tail _ _ ?_ ?_⟩
      · have e45 : Int.toNat 45 = 45 := rfl
        rw [e45]
        simp
      · simp only [List.length_append, List.length_cons, List.length_nil]
        omega
  refine wp_eq ?_
  unfold G9_writeGroup
  simp only [wp_ib, wp_ig, wp_ite, jp_ret, jp_nz, jp_dI, jp_rI, jp_g9, jp_E, jpN1, jp_Bk, jp_Ck, jp_W, jp_R, jp_Tx, jp_Sl, jp_Sc, jp_Si, jp_Sq, jp_Xl, jp_X0, jp_Xc, jp_Xs, jp_Xi, jp_Tos, jp_NB, jp_NC, kj_1, kj_2, kj_3, kj_4, jpA1, jpS1, jp_con, ju1_s, ju1_a, ju2_s, ju2_a, juA_s, juA_a, jux_s, jux_a, jux_x, jux_t, ju1_jB, ju2_jB, juA_jB, ju1_jC, ju2_jC, juA_jC, ju1_jT, ju2_jT, juA_jT, ju1_jb, ju2_jb, juA_jb, ju1_jd, ju2_jd, juA_jd, ju1_jt, ju2_jt, juA_jt, ju1_jx, ju2_jx, juA_jx, ju1_jw, ju2_jw, juA_jw, ju1_jr, ju2_jr, juA_jr, ju1_jn, ju2_jn, juA_jn, jux_jB, jux_jC, jux_jT, jux_jb, jux_jd, jux_jw, jux_jr, jux_jn, jG2, jP2, jG3, jP3, jG4, jP4, jG5, jP5, jG8, jP8, jG9, jP9, jG10, jP10, jG11, jP11, jG1, jP1, jG6, jP6, jG7, jP7, jG12, jP12, wj2, wk2, wn2, wj3, wk3, wn3, wj4, wk4, wn4, wj5, wk5, wn5, wj6, wk6, wn6, wj7, wk7, wn7, wj8, wk8, wn8, wj9, wk9, wn9, wj10, wk10, wn10, Nat.reduceEqDiff, reduceIte, false_and, true_and, and_true, and_self, if_false, if_true, and_false]
  refine ⟨by omega, ?_⟩
  by_cases c : f ≤ 0
  · have e : preT f = [] := if_pos c
    rw [e] at hl ⊢
    rw [if_pos c]
    exact main l hl
  · have e : preT f = [32] := if_neg c
    rw [e] at hl ⊢
    simp only [List.length_append, List.length_cons, List.length_nil] at hl
    rw [if_neg c]
    refine ⟨⟨by decide, by omega⟩, ?_⟩
    have := main (l ++ [32]) (by simp only [List.length_append, List.length_cons, List.length_nil]; omega)
    rw [jux_jux]
    rw [List.append_assoc] at this
    exact this
theorem c_goesOn (hp : p ≤ jB J) (hP : PlR J p B) (hB : BOK B) {g : Int} (hg : 0 ≤ g ∧ g < bn B) : G9_goesOn p g J = some (if goes B g then 1 else 0, J) := by
  have h71 := hB.1
  have hs := hB.2.1 g hg.1 hg.2
  refine wp_eq ?_
  unfold G9_goesOn
  simp only [wp_ib, wp_ig, wp_ite, jp_ret, jp_nz, jp_dI, jp_rI, jp_g9, jp_E, jpN1, jp_Bk, jp_Ck, jp_W, jp_R, jp_Tx, jp_Sl, jp_Sc, jp_Si, jp_Sq, jp_Xl, jp_X0, jp_Xc, jp_Xs, jp_Xi, jp_Tos, jp_NB, jp_NC, kj_1, kj_2, kj_3, kj_4, jpA1, jpS1, jp_con, ju1_s, ju1_a, ju2_s, ju2_a, juA_s, juA_a, jux_s, jux_a, jux_x, jux_t, ju1_jB, ju2_jB, juA_jB, ju1_jC, ju2_jC, juA_jC, ju1_jT, ju2_jT, juA_jT, ju1_jb, ju2_jb, juA_jb, ju1_jd, ju2_jd, juA_jd, ju1_jt, ju2_jt, juA_jt, ju1_jx, ju2_jx, juA_jx, ju1_jw, ju2_jw, juA_jw, ju1_jr, ju2_jr, juA_jr, ju1_jn, ju2_jn, juA_jn, jux_jB, jux_jC, jux_jT, jux_jb, jux_jd, jux_jw, jux_jr, jux_jn, jG2, jP2, jG3, jP3, jG4, jP4, jG5, jP5, jG8, jP8, jG9, jP9, jG10, jP10, jG11, jP11, jG1, jP1, jG6, jP6, jG7, jP7, jG12, jP12, wj2, wk2, wn2, wj3, wk3, wn3, wj4, wk4, wn4, wj5, wk5, wn5, wj6, wk6, wn6, wj7, wk7, wn7, wj8, wk8, wn8, wj9, wk9, wn9, wj10, wk10, wn10, Nat.reduceEqDiff, reduceIte, false_and, true_and, and_true, and_self, if_false, if_true, and_false]
  rw [wp_ret (c_signOf hp hP hB (by omega)), if_pos hg, wp_ret (c_signOf hp hP hB (by omega))]
  by_cases c : 0 ≤ g + 1 ∧ g + 1 < bn B
  · have hs1 := hB.2.1 (g + 1) c.1 c.2
    rw [if_pos c]
    refine ⟨hp, hp, by omega, ?_⟩
    by_cases c1 : bs B g ≤ 0
    · rw [if_pos c1, if_neg (fun q => by have := q.2; omega)]; (first | done | exact ⟨rfl, rfl⟩ | exact ⟨trivial, rfl⟩ | exact ⟨rfl, trivial⟩ | rfl | trivial)
    · rw [if_neg c1]
      refine ⟨by omega, ?_⟩
      by_cases c2 : 70 ≤ bs B (g + 1)
      · rw [if_pos c2, if_neg (fun q => by have := q.2; omega)]; (first | done | exact ⟨rfl, rfl⟩ | exact ⟨trivial, rfl⟩ | exact ⟨rfl, trivial⟩ | rfl | trivial)
      · rw [if_neg c2]
        refine ⟨by omega, ?_⟩
        by_cases c3 : bs B (g + 1) = bs B g + 1
        · rw [if_pos c3, wp_ret (c_size hp hP hB hg), wp_ret (c_size hp hP hB c)]
          refine ⟨hp, hp, by omega, by omega, ?_⟩
          by_cases c4 : bz B g = bz B (g + 1)
          · have g9 : goes B g := ⟨by omega, by omega, by omega, c3, c4⟩
            rw [if_pos c4, if_pos g9]; (first | done | exact ⟨rfl, rfl⟩ | exact ⟨trivial, rfl⟩ | exact ⟨rfl, trivial⟩ | rfl | trivial)
          · rw [if_neg c4, if_neg (fun q => c4 q.2.2.2.2)]; (first | done | exact ⟨rfl, rfl⟩ | exact ⟨trivial, rfl⟩ | exact ⟨rfl, trivial⟩ | rfl | trivial)
        · rw [if_neg c3, if_neg (fun q => c3 q.2.2.2.1)]; (first | done | exact ⟨rfl, rfl⟩ | exact ⟨trivial, rfl⟩ | exact ⟨rfl, trivial⟩ | rfl | trivial)
  · rw [if_neg c]
    have g9 : ¬ goes B g := fun q => by have := q.1; omega
    rw [if_neg g9]
    refine ⟨hp, hp, by omega, ?_⟩
    by_cases c1 : bs B g ≤ 0
    · rw [if_pos c1]; (first | done | exact ⟨rfl, rfl⟩ | exact ⟨trivial, rfl⟩ | exact ⟨rfl, trivial⟩ | rfl | trivial)
    · rw [if_neg c1, if_neg (by decide)]
      refine ⟨by decide, by omega, ?_⟩
      rw [if_neg (by omega)]; (first | done | exact ⟨rfl, rfl⟩ | exact ⟨trivial, rfl⟩ | exact ⟨rfl, trivial⟩ | rfl | trivial)
theorem c_formulaText_12 (hC : CT J) (hp : p ≤ jB J) (hP : PlR J p B) (hB : BOK B) : ∀ (d m : Nat) (f g : Int) (l : List Nat), d < m → 0 ≤ f → f ≤ g → g + d = bn B → (g < bn B → bz B g = bz B f) → (g = bn B → f = g) → l.length + (fT B d f g).length ≤ 16000 → G9_formulaText_12 m p f g (jux J l) = some (jT J, juT (jux J (l ++ fT B d f g))) := by
  have h71 := hB.1
  intro d
  induction d with
  | zero =>
    intro m f g l hm hf hfg hd hz hz2 hl
    cases m with
    | zero => omega
    | succ m =>
      have e : fT B 0 f g = [] := rfl
      rw [e] at hl ⊢
      simp only [List.length_nil] at hl
      refine wp_eq ?_
      unfold G9_formulaText_12 G9_formulaText_12_st
      simp only [wp_ib, wp_ig, wp_ite, jp_ret, jp_nz, jp_dI, jp_rI, jp_g9, jp_E, jpN1, jp_Bk, jp_Ck, jp_W, jp_R, jp_Tx, jp_Sl, jp_Sc, jp_Si, jp_Sq, jp_Xl, jp_X0, jp_Xc, jp_Xs, jp_Xi, jp_Tos, jp_NB, jp_NC, kj_1, kj_2, kj_3, kj_4, jpA1, jpS1, jp_con, ju1_s, ju1_a, ju2_s, ju2_a, juA_s, juA_a, jux_s, jux_a, jux_x, jux_t, ju1_jB, ju2_jB, juA_jB, ju1_jC, ju2_jC, juA_jC, ju1_jT, ju2_jT, juA_jT, ju1_jb, ju2_jb, juA_jb, ju1_jd, ju2_jd, juA_jd, ju1_jt, ju2_jt, juA_jt, ju1_jx, ju2_jx, juA_jx, ju1_jw, ju2_jw, juA_jw, ju1_jr, ju2_jr, juA_jr, ju1_jn, ju2_jn, juA_jn, jux_jB, jux_jC, jux_jT, jux_jb, jux_jd, jux_jw, jux_jr, jux_jn, jG2, jP2, jG3, jP3, jG4, jP4, jG5, jP5, jG8, jP8, jG9, jP9, jG10, jP10, jG11, jP11, jG1, jP1, jG6, jP6, jG7, jP7, jG12, jP12, wj2, wk2, wn2, wj3, wk3, wn3, wj4, wk4, wn4, wj5, wk5, wn5, wj6, wk6, wn6, wj7, wk7, wn7, wj8, wk8, wn8, wj9, wk9, wn9, wj10, wk10, wn10, Nat.reduceEqDiff, reduceIte, false_and, true_and, and_true, and_self, if_false, if_true, and_false]
      rw [hP.1, if_pos (by omega), List.append_nil]
      exact ⟨hp, by omega, by omega, by omega, by (first | done | exact ⟨rfl, rfl⟩ | exact ⟨trivial, rfl⟩ | exact ⟨rfl, trivial⟩ | rfl | trivial)⟩
  | succ d ih =>
    intro m f g l hm hf hfg hd hz hz2 hl
    cases m with
    | zero => omega
    | succ m =>
      have hgg : 0 ≤ g ∧ g < bn B := by omega
      refine wp_eq ?_
      unfold G9_formulaText_12 G9_formulaText_12_st
      simp only [wp_ib, wp_ig, wp_ite, jp_ret, jp_nz, jp_dI, jp_rI, jp_g9, jp_E, jpN1, jp_Bk, jp_Ck, jp_W, jp_R, jp_Tx, jp_Sl, jp_Sc, jp_Si, jp_Sq, jp_Xl, jp_X0, jp_Xc, jp_Xs, jp_Xi, jp_Tos, jp_NB, jp_NC, kj_1, kj_2, kj_3, kj_4, jpA1, jpS1, jp_con, ju1_s, ju1_a, ju2_s, ju2_a, juA_s, juA_a, jux_s, jux_a, jux_x, jux_t, ju1_jB, ju2_jB, juA_jB, ju1_jC, ju2_jC, juA_jC, ju1_jT, ju2_jT, juA_jT, ju1_jb, ju2_jb, juA_jb, ju1_jd, ju2_jd, juA_jd, ju1_jt, ju2_jt, juA_jt, ju1_jx, ju2_jx, juA_jx, ju1_jw, ju2_jw, juA_jw, ju1_jr, ju2_jr, juA_jr, ju1_jn, ju2_jn, juA_jn, jux_jB, jux_jC, jux_jT, jux_jb, jux_jd, jux_jw, jux_jr, jux_jn, jG2, jP2, jG3, jP3, jG4, jP4, jG5, jP5, jG8, jP8, jG9, jP9, jG10, jP10, jG11, jP11, jG1, jP1, jG6, jP6, jG7, jP7, jG12, jP12, wj2, wk2, wn2, wj3, wk3, wn3, wj4, wk4, wn4, wj5, wk5, wn5, wj6, wk6, wn6, wj7, wk7, wn7, wj8, wk8, wn8, wj9, wk9, wn9, wj10, wk10, wn10, Nat.reduceEqDiff, reduceIte, false_and, true_and, and_true, and_self, if_false, if_true, and_false]
      rw [hP.1, if_neg (by omega), wp_ret (c_goesOn (J := jux J l) hp hP hB hgg)]
      refine ⟨hp, by omega, by omega, ifR, ?_⟩
      by_cases c : goes B g
      · have e : fT B (d + 1) f g = fT B d f (g + 1) := if_pos c
        rw [e] at hl ⊢
        rw [if_pos c, if_neg (by decide), wp_ret (ih m f (g + 1) l (by omega) hf (by omega) (by omega) (fun _ => by rw [← hz hgg.2]; exact c.2.2.2.2.symm) (fun q => by have := c.1; omega) hl)]
        exact ⟨rfl, rfl⟩
      · have e : fT B (d + 1) f g = preT f ++ (grT B f g ++ fT B d (g + 1) (g + 1)) := if_neg c
        rw [e] at hl ⊢
        simp only [List.length_append] at hl
        rw [if_neg c, if_pos rfl, wp_ret (c_writeGroup hC hp hP hB hf hfg hgg.2 (hz hgg.2) (by simp only [List.length_append]; omega)), wp_ret (ih m (g + 1) (g + 1) _ (by omega) (by omega) (by omega) (by omega) (fun _ => rfl) (fun _ => rfl) (by simp only [List.length_append]; omega))]
        refine ⟨rfl, ?_⟩
        simp only [List.append_assoc]
theorem c_formulaText (hC : CT J) (hp : p ≤ jB J) (hP : PlR J p B) (hB : BOK B) : G9_formulaText p J = some (jT J, juT (jux J (bkT B))) := by
  have h71 := hB.1
  have hl := bkT_le hB
  refine wp_eq ?_
  unfold G9_formulaText
  simp only [wp_ib, wp_ig, wp_ite, jp_ret, jp_nz, jp_dI, jp_rI, jp_g9, jp_E, jpN1, jp_Bk, jp_Ck, jp_W, jp_R, jp_Tx, jp_Sl, jp_Sc, jp_Si, jp_Sq, jp_Xl, jp_X0, jp_Xc, jp_Xs, jp_Xi, jp_Tos, jp_NB, jp_NC, kj_1, kj_2, kj_3, kj_4, jpA1, jpS1, jp_con, ju1_s, ju1_a, ju2_s, ju2_a, juA_s, juA_a, jux_s, jux_a, jux_x, jux_t, ju1_jB, ju2_jB, juA_jB, ju1_jC, ju2_jC, juA_jC, ju1_jT, ju2_jT, juA_jT, ju1_jb, ju2_jb, juA_jb, ju1_jd, ju2_jd, juA_jd, ju1_jt, ju2_jt, juA_jt, ju1_jx, ju2_jx, juA_jx, ju1_jw, ju2_jw, juA_jw, ju1_jr, ju2_jr, juA_jr, ju1_jn, ju2_jn, juA_jn, jux_jB, jux_jC, jux_jT, jux_jb, jux_jd, jux_jw, jux_jr, jux_jn, jG2, jP2, jG3, jP3, jG4, jP4, jG5, jP5, jG8, jP8, jG9, jP9, jG10, jP10, jG11, jP11, jG1, jP1, jG6, jP6, jG7, jP7, jG12, jP12, wj2, wk2, wn2, wj3, wk3, wn3, wj4, wk4, wn4, wj5, wk5, wn5, wj6, wk6, wn6, wj7, wk7, wn7, wj8, wk8, wn8, wj9, wk9, wn9, wj10, wk10, wn10, Nat.reduceEqDiff, reduceIte, false_and, true_and, and_true, and_self, if_false, if_true, and_false]
  rw [wp_ret (c_formulaText_12 hC hp hP hB (bn B).toNat LFU 0 0 [] (by unfold LFU; omega) (by omega) (by omega) (by omega) (fun _ => rfl) (fun q => rfl) (by unfold bkT at hl; simp only [List.length_nil]; omega))]
  exact ⟨rfl, rfl⟩
end CFO
