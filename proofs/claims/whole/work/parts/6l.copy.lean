/-! ===== copy ===== -/
section CPY
variable {W W4 : IS} {J J2 J4 : JS} {u : Int}
/-- the class's state behind a row that was read -/
theorem rwJ (fR : FrR (ju1 J 10 0 0) J2) (fZ : FrZ (ju1 J2 10 0 u) J4) : JKp J (ju1 J4 2 0 0) ∧ (ju1 J4 2 0 0).2.2 = J.2.2 ∧ (js (ju1 J4 2 0 0) 8 0 = js J 8 0 ∧ js (ju1 J4 2 0 0) 9 0 = js J 9 0) ∧ js (ju1 J4 2 0 0) 11 0 = js J 11 0 ∧ js (ju1 J4 2 0 0) 5 0 = js J2 5 0 ∧ js (ju1 J4 2 0 0) 10 0 = u ∧ js (ju1 J4 2 0 0) 2 0 = 0 := by
  have q : ∀ t, t = 8 ∨ t = 9 ∨ t = 11 → js (ju1 J4 2 0 0) t 0 = js J t 0 := fun t ht => by
    rw [ju1_s, if_neg (by omega), fZ.1 t 0 (by omega), ju1_s, if_neg (by omega), fR.1 t 0 (by omega), ju1_s, if_neg (by omega)]
  refine ⟨((((JKp.u (by omega)).trans fR.kp).trans (JKp.u (by omega))).trans fZ.kp).trans (JKp.u (by omega)), fZ.2.2.trans fR.2.2, ⟨q 8 (by omega), q 9 (by omega)⟩, q 11 (by omega), ?_, ?_, ?_⟩
  · rw [ju1_s, if_neg (by omega), fZ.1 5 0 (by omega), ju1_s, if_neg (by omega)]
  · rw [ju1_s, if_neg (by omega), fZ.1 10 0 (by omega), ju1_s, if_pos ⟨rfl, rfl⟩]
  · rw [ju1_s, if_pos ⟨rfl, rfl⟩]
theorem Inv.rw (hI : Inv W J) (fR : FrR (ju1 J 10 0 0) J2) (fZ : FrZ (ju1 J2 10 0 u) J4) (hw : ∀ k, k ≤ 18 → W4.2 k = W.2 k) (h1 : W4.1 1 = 0) (h4 : W4.1 4 = u) (hk : ∀ k, k = 2 ∨ k = 5 ∨ k = 15 → W4.1 k = W.1 k) (h3 : W4.1 3 = js J2 5 0) : Inv W4 (ju1 J4 2 0 0) := by
  obtain ⟨a1, a2, a3, a4, a5, a6, a7⟩ := rwJ fR fZ
  refine hI.rd a1 a2 a3 (WKp.same fun k hk => hw k (by omega)) h1 ?_ (hk 5 (by omega)) (hk 15 (by omega)) ?_ ?_ a7
  · rw [a4, hk 2 (by omega), hI.2.2.2.2.1.2.2]
  · rw [a5, h3]
  · rw [a6, h4]
theorem p_copy (hI : Inv W J) {a : Int} (ha : R32 a) : SQ (I12_copy a) (G11_copy a) W J := by
  unfold I12_copy G11_copy
  refine b_at hI ha (s_no1 hI) fun b e hb h8 hB => ?_
  subst e
  have i4 := hI.2.2.2.1
  obtain ⟨W1, J1, e1, e2, hby, q1, q2, q3, hM, r1, r2, r3, r4⟩ := b_begins hI
  have em : mB W1 (b : Int) = mB W b := by
    unfold mB
    rw [q1]
  have hI1 : BkI W1 (b : Int) := ((WKp.same (fun k _ => by rw [q1]) : WKp W W1 (jB J) (jC J)).1 b hb).bk hB.2.1
  have z8 : js J1 1 8 = 0 := r4 8 (by omega) (by omega)
  have z9 : js J1 1 9 = 0 := r4 9 (by omega) (by omega)
  have z10 : js J1 1 10 = 0 := r4 10 (by omega) (by omega)
  have z11 : js J1 1 11 = 0 := r4 11 (by omega) (by omega)
  obtain ⟨W2, J2, v, r, x, run, er, fW, fD, hv⟩ := b_row (W0 := W1) (J0 := J1) hby h8 hI1 rfl 121 W1 J1 0 LFU LFU [] 0 (by decide) (by decide) (by decide) FrRw.refl FrD.refl hM r2 ⟨⟨z8, z9, z10, z11⟩, fun M1 q M2 e => by have := congrArg List.length e; simp [nmL] at this⟩ (fun L1 q L2 e => by have := congrArg List.length e; simp at this) (Nat.le_refl _) (Or.inl ⟨rfl, fun q hq => by cases hq⟩)
  rw [show ((([] : List (Int × Option Int)).length : Nat) : Int) = 0 from rfl] at run er
  have ej : G7_readsRow (ju1 J 10 0 0) = some (v, J2) := by
    refine wp_eq ?_
    unfold G7_readsRow
    rw [wp_ib, wp_ret e2, wp_ret er]
    exact ⟨rfl, rfl⟩
  have fR : FrR (ju1 J 10 0 0) J2 := r1.trans fD.q.r
  have fr : ∀ W' : IS, W'.2 = W2.2 → (∀ k, k ≠ 1 → k ≠ 3 → k ≠ 23 → W'.1 k = W2.1 k) → (∀ k, k ≤ 18 → W'.2 k = W.2 k) ∧ W'.1 4 = 0 ∧ (∀ k, k = 2 ∨ k = 5 ∨ k = 15 → W'.1 k = W.1 k) := by
    intro W' h1 h2
    refine ⟨fun k hk => by rw [h1, fW.1 k (by omega) (by omega), q1], ?_, fun k hk => ?_⟩
    · rw [h2 4 (by omega) (by omega) (by omega), fW.2 4 (by omega), q3]
    · rw [h2 k (by omega) (by omega) (by omega), fW.2 k (by omega), q2 k (by omega) (by omega)]
  refine s_c ?_
  rw [jP10]
  refine s_run (x' := I12_copy_147 b r x) (W' := W2) (fun Q q => by rw [wp_ib, wp_ret e1]; exact run Q q) (s_cr ej ?_)
  rcases hv with ⟨rfl, j', L, hrr, hM', hk, hN, hR, hlen, hx⟩ | ⟨rfl, j', hM', h5⟩
  · obtain ⟨r', W3, e3, f1, f2, f3, f4⟩ := m_end2 hby (Or.inr rfl) hM'
    have hr' : r' = 1 ∧ W3.1 3 = -9 := by
      rcases f4 with ⟨p1, p2, p3, p4⟩ | ⟨p1, p2, p3⟩
      · exact ⟨p1, p4⟩
      · rcases p2 with p2 | p2
        · omega
        · exact absurd hk p2
    obtain ⟨rfl, h33⟩ := hr'
    obtain ⟨g1, g2, g3⟩ := fr W3 f1 f2
    have h59 : js J2 5 0 = -9 := (pz_row LFU 0 J1 1 J2 er (by omega)).trans r3
    rw [em] at hN
    have hJ2 : BoR J2 W b := hB.2.2.1.fr (jB_r fR.2.2) (by rw [fR.1 6 (b + 1) (by omega), ju1_s, if_neg (by omega)]) (fun t t0 t1 => by rw [fR.2.1 t (b + 1) (by omega)]; rfl) (by rw [fR.2.1 7 b (by omega)]; rfl) fun i i0 i1 => ⟨by rw [fR.1 1 i (by omega), ju1_s, if_neg (by omega)], by rw [fR.2.1 1 i (by omega)]; rfl⟩
    have hLl := nmL_le L
    obtain ⟨u, eu, hu⟩ := c_ofRow2 hJ2 hB.2.1 hN (by omega) L [] LFU rfl (Nat.lt_of_le_of_lt (show (nmL L).length ≤ 60 by omega) (by decide))
    rw [show (((nmL ([] : List (Int × Option Int))).length : Nat) : Int) = 0 from rfl] at eu
    have eo : G3_ofRow b J2 = some (u, J2) := eu
    refine s_cg (by decide) (s_c0 (by decide) ?_)
    rcases hx with ⟨rfl, hok⟩ | ⟨rfl, hok⟩
    · -- a good row
      have hu0 : u = 0 := by
        rcases hu with ⟨h, -⟩ | ⟨-, h⟩
        · exact h
        · exact absurd hok h
      subst hu0
      obtain ⟨J3, hJ3⟩ : ∃ J3, J3 = ju1 J2 10 0 0 := ⟨_, rfl⟩
      have s3 : ∀ t i, t ≠ 10 → js J3 t i = js J2 t i := fun t i ht => by rw [hJ3, ju1_s, if_neg (fun q => ht q.1)]
      have a3 : ja J3 = ja J2 := by rw [hJ3]; rfl
      have e93 : js J3 9 0 = jC J := by rw [s3 9 0 (by omega), fR.1 9 0 (by omega), ju1_s, if_neg (by omega), i4.1, i4.2.1]
      have hN3 : NaR J3 (mB W b) (nmL L) := hN.fr fun i _ _ => ⟨s3 1 i (by omega), by rw [a3]⟩
      have hB3 : BoR J3 W b := hJ2.fr (by rw [hJ3]; rfl) (s3 6 _ (by omega)) (fun t _ _ => by rw [a3]) (by rw [a3]) fun i _ _ => ⟨s3 1 i (by omega), by rw [a3]⟩
      obtain ⟨w, J4, e4, fI, hw⟩ := c_listsEntries hB3 hB.2.1 hN3 (by omega) hok
      have fZ : FrZ (ju1 J2 10 0 0) J4 := by rw [← hJ3]; exact fI.zz
      have edr : G11_draftRow b J2 = some (if w = 0 then 9 else 0, J4) := by
        refine wp_eq ?_
        unfold G11_draftRow
        rw [wp_ib, wp_ret eo, wp_ib, jP10, wp_ib, jG10, ju1_s, if_pos ⟨rfl, rfl⟩, wp_ig, wp_ite, if_pos rfl, ← hJ3, wp_ib, jp_E, kj_3, wp_ib, wp_ret e4, wp_ig, wp_ite]
        refine ⟨by decide, hB3.2.1, by rcases hw with ⟨h, -⟩ | ⟨h, -⟩ <;> rw [h] <;> decide, ?_⟩
        by_cases k2 : w = 0
        · rw [if_pos k2, if_pos k2, jp_ret]
          exact ⟨rfl, rfl⟩
        · rw [if_neg k2, if_neg k2, jp_ret]
          exact ⟨rfl, rfl⟩
      obtain ⟨W4, hW4⟩ : ∃ W4, W4 = iu1 W3 4 0 := ⟨_, rfl⟩
      have w4k : ∀ k, k ≤ 18 → W4.2 k = W.2 k := fun k hk => by rw [hW4]; exact g1 k hk
      have w4n : ∀ k, k = 2 ∨ k = 5 ∨ k = 15 → W4.1 k = W.1 k := fun k hk => by rw [hW4, iu1_1, if_neg (by omega)]; exact g3 k hk
      have w41 : W4.1 1 = 0 := by rw [hW4, iu1_1, if_neg (by omega)]; exact f3
      have w43 : W4.1 3 = js J2 5 0 := by rw [hW4, iu1_1, if_neg (by omega), h33, h59]
      have w44 : W4.1 4 = 0 := by rw [hW4, iu1_1, if_pos rfl]
      have hR4 : MoR W4 L := by
        unfold MoR
        rw [hW4, iu1_2, f1]
        exact hR
      have e154 : W4.1 15 = jC J := by rw [w4n 15 (by omega)]; exact i4.2.1
      have hbq : ∀ q ∈ L, (-1 ≤ q.1 ∧ q.1 < LC (mB W b)) ∧ (-1 ≤ itL q ∧ itL q < LC (mB W b)) := fun q hq => hN.bd hq
      have hLC := hB.2.1.2.2.1
      have hub := tot_ub (L := L) fun q hq => by have := hbq q hq; omega
      have htn := tot_nn hok
      -- the model up to the count
      have mod : ∀ Q : Int → IS → Prop, wp (I12_copy_224 b r (totL L)) Q W4 → wp (I12_copy_147 b r 0) Q W2 := fun Q h => by
        unfold I12_copy_147
        rw [wp_ib, wp_ret e3, wp_ig, wp_ite, if_neg (by decide), wp_ig, wp_ite, if_pos rfl]
        unfold I12_copy_171
        rw [wp_ib, wp_ipI, wp_ig, wp_ite, if_pos rfl, ← hW4]
        exact ⟨by decide, by decide, by decide, m_cp190 hR4 (by omega) hrr h L [] LFU 0 0 rfl rfl (Nat.lt_of_le_of_lt (show L.length ≤ 60 by omega) (by decide)) rfl⟩
      have no9 : ∀ J5 : JS, FrZ (ju1 J2 10 0 0) J5 → SQ I12_copy_241 (G11_copy_48 b b 9) W4 J5 := fun J5 f5 => by
        unfold I12_copy_241 G11_copy_48
        refine s_cr c_cutTo (s_cg (by decide) (s_c0 (by decide) ?_))
        exact s_no (hI.rw fR f5 w4k w41 w44 w4n w43)
      refine s_cr edr ?_
      by_cases k16 : 16 ≤ (jC J : Int)
      · refine s_run (x' := I12_copy_241) (W' := W4) (fun Q q => mod Q ?_) ?_
        · unfold I12_copy_224
          rw [wp_ib, wp_igI, e154, wp_ig, wp_ite, if_pos (by omega)]
          exact ⟨⟨by omega, by omega⟩, q⟩
        · by_cases k2 : w = 0
          · rw [if_pos k2]
            exact no9 J4 fZ
          · rw [if_neg k2]
            unfold I12_copy_241 G11_copy_48
            refine s_cr c_cutTo (s_cg (by decide) (s_c1 rfl ?_))
            exact s_mr m_no (s_cr (c_keepFull (by rw [(rwJ fR fZ).2.2.1.2, i4.1, i4.2.1]; omega)) (s_ret rfl (hI.rw fR fZ w4k w41 w44 w4n w43).st))
      rcases hw with ⟨rfl, ht, hj12, hen⟩ | ⟨rfl, ht⟩
      · -- it fits
        rw [if_neg (by decide)]
        have hC : jC J < 16 := by omega
        have hmod : wp (I12_copy_147 b r 0) (fun v W' => v = (jC J : Int) ∧ NwC W4 W' (jC J) b (totL L) ∧ enF (fun i => W'.2 18 ((jC J : Int) * 400 + i)) L) W2 := by
          refine mod _ ?_
          unfold I12_copy_224
          rw [wp_ib, wp_igI, e154, wp_ig, wp_ite, if_neg (by omega), wp_ig, wp_ite, if_pos ht, wp_ib, wp_igI, e154]
          refine ⟨⟨by omega, by omega⟩, ⟨by omega, by omega⟩, m_cp260 (W0 := W4) (C := jC J) hC hR4 (by omega) hok (fun q hq => by have := hbq q hq; omega) ht hrr (fun W5 f5 h5 => ?_) L [] LFU 0 0 W4 rfl rfl (Nat.lt_of_le_of_lt (show L.length ≤ 60 by omega) (by decide)) rfl FrE.refl enF_0⟩
          unfold I12_copy_318
          rw [wp_ib, wS17, wp_ib, wS16, wp_ib, wp_igI, wp_ib, wp_ipI, wp_ib, wp_ret m_fine, wp_ir]
          refine ⟨⟨by omega, by omega⟩, ⟨by omega, by omega⟩, rfl, NwC.cl f5, fun La q Lb e i i0 i1 => ?_⟩
          show (iu2 (iu2 W5 17 ((jC J : Nat) : Int) (totL L)) 16 ((jC J : Nat) : Int) b).2 18 ((jC J : Int) * 400 + (totL La + i)) = q.1 + i
          rw [iu2_2, if_neg (by omega), iu2_2, if_neg (by omega)]
          exact h5 La q Lb e i i0 i1
        obtain ⟨v, W6, ex, rfl, hNw, hE6⟩ := wp_ex hmod
        have hwk : WKp W W6 (jB J) (jC J) := hNw.kp w4k
        obtain ⟨n1, n2, n3, n4, n5, n6, n7, n8⟩ := hNw
        obtain ⟨b1, b2, b3, b4, b5, b6, b7⟩ := rwJ fR fZ
        have eLC : LC (mB W6 b) = LC (mB W b) := ((hwk.1 b hb).cj hB.2.1).1
        have eE : ∀ i, 0 ≤ i → i < totL L → ja J4 1 12 i = eC W6 (jC J) i ∧ 0 ≤ eC W6 (jC J) i ∧ eC W6 (jC J) i < LC (mB W b) := fun i i0 i1 => by
          obtain ⟨x1, q, hq, x2, x3⟩ := enF_eq hok hen hE6 i0 i1
          have ee : eC W6 (jC J) i = W6.2 18 ((jC J : Int) * 400 + i) := by
            unfold eC
            rw [if_pos ⟨i0, by omega⟩]
          have hqb := hbq q hq
          have hqg := itG_le (hok q hq)
          rw [ee, ← x1]
          exact ⟨rfl, by omega, by omega⟩
        unfold G11_copy_48
        refine s_cr c_cutTo (s_cg (by decide) (s_c1 rfl ?_))
        refine s_keep (W' := W6) (m := totL L) (b := b) hI b1 b2 b3 hb hC hwk n7 n8 ⟨htn, ht⟩ ⟨?_, fun i i0 i1 => ?_⟩ (fun i i0 i1 => ?_) ?_ ?_ ?_ ?_ ?_ n1 ex rfl
        · rw [ju1_s, if_neg (by omega)]
          exact hj12
        · exact (eE i i0 i1).1
        · rw [eLC]
          exact (eE i i0 i1).2
        · rw [n3 1 (by omega) (by omega), w41]
          exact TpR.z b7
        · rw [n3 5 (by omega) (by omega), w4n 5 (by omega)]
        · rw [n2, w4n 15 (by omega)]
        · rw [n3 3 (by omega) (by omega), w43, b5]
        · rw [n3 4 (by omega) (by omega), w44, b6]
      · rw [if_pos rfl]
        refine s_run (x' := I12_copy_241) (W' := W4) (fun Q q => mod Q ?_) (no9 J4 fZ)
        unfold I12_copy_224
        rw [wp_ib, wp_igI, e154, wp_ig, wp_ite, if_neg (by omega), wp_ig, wp_ite, if_neg (by omega)]
        exact ⟨⟨by omega, by omega⟩, ⟨by omega, by omega⟩, q⟩
    · -- a row with a fault
      have hu7 : u = 7 := by
        rcases hu with ⟨-, h⟩ | ⟨h, -⟩
        · exact absurd h hok
        · exact h
      subst hu7
      have edr : G11_draftRow b J2 = some (4, ju1 J2 10 0 7) := by
        refine wp_eq ?_
        unfold G11_draftRow
        rw [wp_ib, wp_ret eo, wp_ib, jP10, wp_ib, jG10, ju1_s, if_pos ⟨rfl, rfl⟩, wp_ig, wp_ite, if_neg (by decide), jp_ret]
        exact ⟨by decide, rfl, rfl⟩
      unfold I12_copy_147
      refine s_mr e3 (s_mg (by decide) (s_m0 (by decide) (s_mg (by decide) (s_m0 (by decide) ?_))))
      unfold I12_copy_171
      refine s_m ?_
      rw [wp_ipI]
      refine s_mg (by decide) (s_m0 (by decide) (s_cr edr ?_))
      unfold G11_copy_48
      refine s_cr c_cutTo (s_cg (by decide) (s_c0 (by decide) ?_))
      refine s_no (hI.rw fR (FrZ.refl (J := ju1 J2 10 0 7)) (fun k hk => by rw [iu1_2]; exact g1 k hk) ?_ ?_ (fun k hk => ?_) ?_)
      · rw [iu1_1, if_neg (by omega)]
        exact f3
      · rw [iu1_1, if_pos rfl]
      · rw [iu1_1, if_neg (by omega)]
        exact g3 k hk
      · rw [iu1_1, if_neg (by omega), h33, h59]
  · -- a wrong text
    obtain ⟨r', W3, e3, f1, f2, f3, f4⟩ := m_end2 hby (Or.inl rfl) hM'
    have hr' : r' = 0 ∧ W3.1 3 = tkP (W.2 0) (W.1 1) j' := by
      rcases f4 with ⟨p1, p2, p3, p4⟩ | ⟨p1, p2, p3⟩
      · omega
      · exact ⟨p1, p3⟩
    obtain ⟨rfl, h33⟩ := hr'
    obtain ⟨g1, g2, g3⟩ := fr W3 f1 f2
    unfold I12_copy_147
    refine s_mr e3 (s_mg (by decide) (s_m1 rfl (s_cg (by decide) (s_c1 rfl ?_))))
    unfold G11_copy_48
    refine s_cr c_cutTo (s_cg (by decide) (s_c0 (by decide) ?_))
    exact s_no (hI.rd2 fR g1 f3 g2 g3 (by rw [h33, h5]))
end CPY
