/-! ===== the class's fault of changes ===== -/
def Q4 (R : Nat → Int → Int) (S : Int → Int) (e e' : Int) : Prop := ∃ c, e ≤ c ∧ c < e' ∧ ¬ (1 ≤ R 34 c ∧ R 34 c ≤ S (R 33 c))
def PX (R : Nat → Int → Int) (F I : Int → Int) (c : Int) : Prop := (R 32 c = 43 ∧ I (slo R c) ≠ 0) ∨ (R 32 c ≠ 43 ∧ F (slo R c) ≠ 0)
def P6x (R : Nat → Int → Int) (F I : Int → Int) (e e' : Int) : Prop := P6 R e e' ∨ ∃ c, e ≤ c ∧ c < e' ∧ PX R F I c
def FC (R : Nat → Int → Int) (S F I : Int → Int) (e e' v : Int) : Prop := (v = 4 ∧ Q4 R S e e') ∨ (¬ Q4 R S e e' ∧ ((v = 5 ∧ P5 R e e') ∨ (¬ P5 R e e' ∧ ((v = 6 ∧ P6x R F I e e') ∨ (v = 0 ∧ ¬ P6x R F I e e')))))
section FLT6
variable {J : JS} {R : Nat → Int → Int} {nn hi n e e' : Int} {P S F I : Int → Int}
theorem rFt_R (hB : chB R n) (he : 0 ≤ e) (hR : ∀ l, R32 (F l)) : ∀ (d : Nat) (l : Int), e + d ≤ n → R32 (rFt F R e d l)
  | 0, l, _ => hR l
  | d + 1, l, h => by
    have hb := (hB (e + d) (by omega) (by omega)).1
    have ih := rFt_R hB he hR d l (by omega)
    unfold rFt
    split
    · omega
    · exact ih
theorem rIt_R (hB : chB R n) (he : 0 ≤ e) (hR : ∀ l, R32 (I l)) : ∀ (d : Nat) (l : Int), e + d ≤ n → R32 (rIt I R e d l)
  | 0, l, _ => hR l
  | d + 1, l, h => by
    have hb := (hB (e + d) (by omega) (by omega)).2.2.2
    have ih := rIt_R hB he hR d l (by omega)
    unfold rIt
    split
    · omega
    · exact ih
theorem slo_tw {c d : Int} (h1 : 1 ≤ R 34 c ∧ R 34 c ≤ 12) (h2 : 1 ≤ R 34 d ∧ R 34 d ≤ 12) (h : slo R c = slo R d) : R 33 c = R 33 d ∧ R 34 c = R 34 d := by
  unfold slo at h
  omega
theorem c_ofCh100 (hn : 0 ≤ n ∧ n ≤ 60) (hB : chB R n) (he : 0 ≤ e ∧ e ≤ e' ∧ e' ≤ n) (hS : ∀ s, 0 ≤ s → s ≤ 70 → 0 ≤ S s ∧ S s ≤ 12) (hF : ∀ l, R32 (F l)) (hI : ∀ l, R32 (I l)) (n4 : ¬ Q4 R S e e') (n5 : ¬ P5 R e e') {Q : Int → JS → Prop}
    (h0 : ¬ P6x R F I e e' → ∀ J', FrP J J' → DrR J' nn hi P S (rFt F R e (e' - e).toNat) (rIt I R e (e' - e).toNat) → Q 0 J')
    (h6 : P6x R F I e e' → ∀ J', FrP J J' → Q 6 J') :
    ∀ (d m a : Nat) (x : Int) (J1 : JS), d < m → x = e + a → x + d = e' → FrP J J1 → ChC J1 R n → DrR J1 nn hi P S (rFt F R e a) (rIt I R e a) → (∀ c d, e ≤ d → d < c → c < x → ¬ tw R c d) → (∀ c, e ≤ c → c < x → ¬ PX R F I c) → wp (G3_ofChanges_100 m e' 0 x) Q J1 := by
  intro d
  induction d with
  | zero =>
    intro m a x J1 hm hx q2 hFr hC hD hp hb
    cases m with
    | zero => omega
    | succ m =>
      unfold G3_ofChanges_100 G3_ofChanges_100_st
      simp only [wp_ib, wp_ig, wp_ite, jp_ret, jp_nz, jp_dI, jp_rI, jp_g9, jp_E, jpN1, jp_Bk, jp_Ck, jp_W, jp_R, jp_Tx, jp_Sl, jp_Sc, jp_Si, jp_Sq, jp_Xl, jp_X0, jp_Xc, jp_Xs, jp_Xi, jp_Tos, jp_NB, jp_NC, kj_1, kj_2, kj_3, kj_4, jpA1, jpS1, jp_con, ju1_s, ju1_a, ju2_s, ju2_a, juA_s, juA_a, jux_s, jux_a, jux_x, jux_t, ju1_jB, ju2_jB, juA_jB, ju1_jC, ju2_jC, juA_jC, ju1_jT, ju2_jT, juA_jT, ju1_jb, ju2_jb, juA_jb, ju1_jd, ju2_jd, juA_jd, ju1_jt, ju2_jt, juA_jt, ju1_jx, ju2_jx, juA_jx, ju1_jw, ju2_jw, juA_jw, ju1_jr, ju2_jr, juA_jr, ju1_jn, ju2_jn, juA_jn, jux_jB, jux_jC, jux_jT, jux_jb, jux_jd, jux_jw, jux_jr, jux_jn, jG2, jP2, jG3, jP3, jG4, jP4, jG5, jP5, jG8, jP8, jG9, jP9, jG10, jP10, jG11, jP11, jG1, jP1, jG6, jP6, jG7, jP7, jG12, jP12, wj2, wk2, wn2, wj3, wk3, wn3, wj4, wk4, wn4, wj5, wk5, wn5, wj6, wk6, wn6, wj7, wk7, wn7, wj8, wk8, wn8, wj9, wk9, wn9, wj10, wk10, wn10, Nat.reduceEqDiff, reduceIte, false_and, true_and, and_true, and_self, if_false, if_true, and_false]
      rw [if_pos (by omega)]
      have ea : a = (e' - e).toNat := by omega
      rw [ea] at hD
      refine ⟨by omega, by omega, h0 (fun q => ?_) J1 hFr hD⟩
      rcases q with ⟨c, d, r1, r2, r3, r4⟩ | ⟨c, r1, r2, r3⟩
      · exact hp c d r1 r2 (by omega) r4
      · exact hb c r1 (by omega) r3
  | succ d ih =>
    intro m a x J1 hm hx q2 hFr hC hD hp hb
    cases m with
    | zero => omega
    | succ m =>
      have hz := Nat.zero_le (jB J1)
      have g := hC.g hn (i := x) ⟨by omega, by omega⟩
      obtain ⟨b2, b3, b4, b5⟩ := hB x (by omega) (by omega)
      have n4' : ∀ c, e ≤ c → c < e' → 1 ≤ R 34 c ∧ R 34 c ≤ S (R 33 c) := fun c c0 c1 => by
        by_cases q : 1 ≤ R 34 c ∧ R 34 c ≤ S (R 33 c)
        · exact q
        · exact absurd ⟨c, c0, c1, q⟩ n4
      have hi12 : ∀ c, e ≤ c → c < e' → 1 ≤ R 34 c ∧ R 34 c ≤ 12 := fun c c0 c1 => by
        have := n4' c c0 c1
        have := hB c (by omega) (by omega)
        have := hS (R 33 c) (by omega) (by omega)
        omega
      have n5' : ∀ c, e ≤ c → c < e' → R 32 c = 43 → 1 ≤ R 35 c ∧ R 35 c ≤ 4 := fun c c0 c1 c2 => by
        by_cases q : 1 ≤ R 35 c ∧ R 35 c ≤ 4
        · exact q
        · exact absurd ⟨c, c0, c1, c2, q⟩ n5
      have hsl := hi12 x (by omega) (by omega)
      have rest : ∀ J2, FrP J1 J2 → DrR J2 nn hi P S (rFt F R e (a + 1)) (rIt I R e (a + 1)) → (∀ c, e ≤ c → c < x → ¬ tw R x c) → ¬ PX R F I x → wp (G3_ofChanges_100 m e' 0 (x + 1)) Q J2 := by
        intro J2 hF2 hD2 ht hx2
        refine ih m (a + 1) (x + 1) J2 (by omega) (by omega) (by omega) (hFr.trans hF2) (hC.fr hF2) hD2 (fun c d r1 r2 r3 => ?_) (fun c r1 r2 => ?_)
        · by_cases ec : c = x
          · rw [ec]; exact ht d r1 (by omega)
          · exact hp c d r1 r2 (by omega)
        · by_cases ec : c = x
          · rw [ec]; exact hx2
          · exact hb c r1 (by omega)
      have tws : ∀ c, tw R x c → slo R x = slo R c := fun c t => by
        unfold slo
        rw [t.1, t.2.1]
      unfold G3_ofChanges_100 G3_ofChanges_100_st
      simp only [wp_ib, wp_ig, wp_ite, jp_ret, jp_nz, jp_dI, jp_rI, jp_g9, jp_E, jpN1, jp_Bk, jp_Ck, jp_W, jp_R, jp_Tx, jp_Sl, jp_Sc, jp_Si, jp_Sq, jp_Xl, jp_X0, jp_Xc, jp_Xs, jp_Xi, jp_Tos, jp_NB, jp_NC, kj_1, kj_2, kj_3, kj_4, jpA1, jpS1, jp_con, ju1_s, ju1_a, ju2_s, ju2_a, juA_s, juA_a, jux_s, jux_a, jux_x, jux_t, ju1_jB, ju2_jB, juA_jB, ju1_jC, ju2_jC, juA_jC, ju1_jT, ju2_jT, juA_jT, ju1_jb, ju2_jb, juA_jb, ju1_jd, ju2_jd, juA_jd, ju1_jt, ju2_jt, juA_jt, ju1_jx, ju2_jx, juA_jx, ju1_jw, ju2_jw, juA_jw, ju1_jr, ju2_jr, juA_jr, ju1_jn, ju2_jn, juA_jn, jux_jB, jux_jC, jux_jT, jux_jb, jux_jd, jux_jw, jux_jr, jux_jn, jG2, jP2, jG3, jP3, jG4, jP4, jG5, jP5, jG8, jP8, jG9, jP9, jG10, jP10, jG11, jP11, jG1, jP1, jG6, jP6, jG7, jP7, jG12, jP12, wj2, wk2, wn2, wj3, wk3, wn3, wj4, wk4, wn4, wj5, wk5, wn5, wj6, wk6, wn6, wj7, wk7, wn7, wj8, wk8, wn8, wj9, wk9, wn9, wj10, wk10, wn10, Nat.reduceEqDiff, reduceIte, false_and, true_and, and_true, and_self, if_false, if_true, and_false]
      rw [if_neg (show ¬ e' ≤ x by omega), wp_ret g.2.1, wp_ret g.2.2.1]
      refine ⟨by omega, by omega, hz, ?_⟩
      refine c_slotD hD b3 (by omega) (hS _ b3.1 b3.2) (fun _ => ?_) (fun q => absurd (n4' x (by omega) (by omega)) q)
      rw [wp_ret g.1, wp_ret g.2.2.2]
      refine ⟨hz, ?_⟩
      have f0 := rFt_0 (F := F) (l := slo R x) hB he.1 a (by omega)
      have i0 := rIt_0 (I := I) (n := e') (l := slo R x) he.1 (fun c c0 c1 c2 => (n5' c c0 c1 c2).1) a (by omega)
      refine c_takesChange (l := slo R x) hD ⟨by unfold slo; omega, by unfold slo; omega⟩ b2 (fun c => by rw [if_pos c]; exact n5' x (by omega) (by omega) c) ⟨rFt_R hB he.1 hF a _ (by omega), rIt_R hB he.1 hI a _ (by omega)⟩ (fun cm cz J2 hF2 hD2 => ?_) (fun cm cz J2 hF2 hD2 => ?_) (fun cz => ?_)
      · rw [if_neg (by decide)]
        refine ⟨by decide, rest J2 hF2 (hD2.cg rfl rfl (fun _ _ _ => rfl) (fun _ _ _ => rfl) (fun l _ _ => ⟨?_, ?_⟩)) (fun c c0 c1 t => ?_) (fun q => ?_)⟩
        · show _ = if R 32 (e + a) ≠ 43 ∧ l = slo R (e + a) then _ else _
          rw [← hx, if_neg (fun q => q.1 cm)]
        · show (if l = slo R x then _ else _) = if R 32 (e + a) = 43 ∧ l = slo R (e + a) then _ else _
          rw [← hx, if_pos cm]
          by_cases el : l = slo R x
          · rw [if_pos el, if_pos ⟨cm, el⟩]
          · rw [if_neg el, if_neg (fun q => el q.2)]
        · exact (i0.mp cz).2 c c0 (by omega) ⟨t.2.2.mp cm, tws c t⟩
        · rcases q with q | q
          · exact q.2 (i0.mp cz).1
          · exact q.1 cm
      · rw [if_neg (by decide)]
        refine ⟨by decide, rest J2 hF2 (hD2.cg rfl rfl (fun _ _ _ => rfl) (fun _ _ _ => rfl) (fun l _ _ => ⟨?_, ?_⟩)) (fun c c0 c1 t => ?_) (fun q => ?_)⟩
        · show (if l = slo R x then _ else _) = if R 32 (e + a) ≠ 43 ∧ l = slo R (e + a) then _ else _
          rw [← hx]
          by_cases el : l = slo R x
          · rw [if_pos el, if_pos ⟨cm, el⟩]
          · rw [if_neg el, if_neg (fun q => el q.2)]
        · show _ = if R 32 (e + a) = 43 ∧ l = slo R (e + a) then _ else _
          rw [← hx, if_neg (fun q => cm q.1)]
        · exact (f0.mp cz).2 c c0 (by omega) ⟨fun q => cm (t.2.2.mpr q), tws c t⟩
        · rcases q with q | q
          · exact cm q.1
          · exact q.2 (f0.mp cz).1
      · rw [if_pos rfl]
        refine ⟨by decide, h6 ?_ J1 hFr⟩
        rcases cz with ⟨cm, cz⟩ | ⟨cm, cz⟩
        · by_cases ci : I (slo R x) = 0
          · by_cases ct : ∃ c, e ≤ c ∧ c < x ∧ (R 32 c = 43 ∧ slo R x = slo R c)
            · obtain ⟨c, c0, c1, c2, c3⟩ := ct
              have := slo_tw hsl (hi12 c c0 (by omega)) c3
              exact Or.inl ⟨x, c, c0, c1, by omega, this.1, this.2, ⟨fun _ => c2, fun _ => cm⟩⟩
            · exact absurd (i0.mpr ⟨ci, fun c c0 c1 c2 => ct ⟨c, c0, by omega, c2⟩⟩) cz
          · exact Or.inr ⟨x, by omega, by omega, Or.inl ⟨cm, ci⟩⟩
        · by_cases ci : F (slo R x) = 0
          · by_cases ct : ∃ c, e ≤ c ∧ c < x ∧ (R 32 c ≠ 43 ∧ slo R x = slo R c)
            · obtain ⟨c, c0, c1, c2, c3⟩ := ct
              have := slo_tw hsl (hi12 c c0 (by omega)) c3
              exact Or.inl ⟨x, c, c0, c1, by omega, this.1, this.2, ⟨fun q => absurd q cm, fun q => absurd q c2⟩⟩
            · exact absurd (f0.mpr ⟨ci, fun c c0 c1 c2 => ct ⟨c, c0, by omega, c2⟩⟩) cz
          · exact Or.inr ⟨x, by omega, by omega, Or.inr ⟨cm, ci⟩⟩
end FLT6
