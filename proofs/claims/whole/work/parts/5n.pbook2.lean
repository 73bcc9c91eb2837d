section PB2
variable {W : IS} {J : JS}
theorem GrR.cc {g c : Int} (h : GrR W J g c) : GrC J W.2 g := ⟨⟨h.1.2.2.1, h.1.2.2.2.1, h.1.2.2.2.2.1, h.1.2.2.2.2.2.1, h.1.2.2.2.2.2.2⟩, fun i i0 i1 => (h.2.1 i i0 i1).1⟩
/-- a right formula, from the model's end of reading on -/
theorem b_book1 (hI : Inv W J) {W1 : IS} {J1 : JS} {j' : Nat} {g' c' : Int} (w1 : ∀ k, k < 19 ∨ 25 < k → k ≠ 4 → W1.1 k = W.1 k) (w4 : W1.1 4 = 0) (w2 : ∀ k, k < 26 ∨ 35 < k → W1.2 k = W.2 k) (fR : FrR (ju1 J 10 0 0) J1) (h5 : js J1 5 0 = -9) (hM : Mst W1 (W.2 0) (W.1 1) 1 j') (hk : kdP (W.2 0) (W.1 1) (tkP (W.2 0) (W.1 1) j') = 0) (hG : GrR W1 J1 g' c') (hC : ChR W1 J1 c') (hg' : 1 ≤ g' ∧ g' ≤ 60) (hc' : c' ≤ 60) : wp I12_book_46 (fun r W' => wp (ib G11_draftFormula fun v3 => ib (G11_closeBook v3) fun v => jret v) (fun r' J' => r' = r ∧ Inv W' J') J1) W1 := by
  obtain ⟨i1, i2, i3, i4, i5, i6, i7⟩ := id hI
  obtain ⟨g, rfl⟩ : ∃ g : Nat, g' = (g : Int) := ⟨g'.toNat, by omega⟩
  have hn : 0 ≤ c' ∧ c' ≤ 60 := ⟨hC.1.1, hc'⟩
  have r1 : J1.2.2 = J.2.2 := fR.2.2
  have k1 : JKp J J1 := (JKp.u (by omega)).trans fR.kp
  have eb := jB_r r1
  have s1 : js J1 8 0 = js J 8 0 ∧ js J1 9 0 = js J 9 0 := by
    rw [fR.1 8 0 (by omega), fR.1 9 0 (by omega), ju1_s, if_neg (by omega), ju1_s, if_neg (by omega)]
    exact ⟨rfl, rfl⟩
  unfold I12_book_46
  rw [wp_ib]
  refine m_ends i2.2.1 (Or.inr rfl) hM (fun _ _ W2 e2 f2 f21 f23 => ?_) (fun q => absurd hk (by omega))
  rw [wp_ig, wp_ite, if_neg (by decide), wp_ib]
  refine ⟨by decide, ?_⟩
  have hCb : chB W2.2 c' := by rw [e2]; exact hC.b
  have hGb : grB W2.2 g c' := by rw [e2]; exact hG.b
  have h24 : W2.1 24 = g := by rw [f2 24 (by omega) (by omega) (by omega)]; exact hG.1.2.1
  have h25 : W2.1 25 = c' := by rw [f2 25 (by omega) (by omega) (by omega)]; exact hC.1.2.1
  have x5 : W2.1 5 = W.1 5 := by rw [f2 5 (by omega) (by omega) (by omega), w1 5 (by omega) (by omega)]
  refine m_faultOfAll (g := g) (n := c') hg'.2 hn.2 hCb hGb h24 fun v hFA hv => ?_
  rw [wp_ib, wp_ipI, wp_ib, wp_igI, wp_ig, wp_ite, iu1_1, if_pos rfl]
  refine ⟨⟨by omega, by omega⟩, ?_⟩
  -- the class, up to the draft's refusal
  have hRc : ∀ t, 26 ≤ t → (iu2 (iu1 W2 4 v) 6 (W.1 5) 0).2 t = W2.2 t := fun t t0 => by
    funext l
    rw [iu2_2, if_neg (by omega), iu1_2]
  have hR1 : ∀ t, 26 ≤ t → (iu2 (iu1 W2 4 v) 6 (W.1 5) 0).2 t = W1.2 t := fun t t0 => by rw [hRc t t0, e2]
  have hFA' : FA (iu2 (iu1 W2 4 v) 6 (W.1 5) 0).2 g v := FA_cg hRc hFA
  have hCb' : chB (iu2 (iu1 W2 4 v) 6 (W.1 5) 0).2 c' := by
    unfold chB
    rw [hRc 32 (by omega), hRc 33 (by omega), hRc 34 (by omega), hRc 35 (by omega)]
    exact hCb
  have hGb' : grB (iu2 (iu1 W2 4 v) 6 (W.1 5) 0).2 g c' := by
    unfold grB
    rw [hRc 26 (by omega), hRc 27 (by omega), hRc 28 (by omega), hRc 29 (by omega), hRc 30 (by omega), hRc 31 (by omega)]
    exact hGb
  have hGr : GrC J1 (iu2 (iu1 W2 4 v) 6 (W.1 5) 0).2 g := by
    have := hG.cc
    unfold GrC at this ⊢
    rw [hR1 26 (by omega), hR1 27 (by omega), hR1 28 (by omega), hR1 29 (by omega), hR1 30 (by omega), hR1 31 (by omega)]
    exact this
  have hChc : ChC J1 (iu2 (iu1 W2 4 v) 6 (W.1 5) 0).2 c' := by
    have := hC.c
    unfold ChC at this ⊢
    rw [hR1 32 (by omega), hR1 33 (by omega), hR1 34 (by omega), hR1 35 (by omega)]
    exact this
  have hwk : WKp W W2 (jB J) (jC J) := WKp.same fun k hk => by rw [e2, w2 k (by omega)]
  have x15 : W2.1 15 = W.1 15 := by rw [f2 15 (by omega) (by omega) (by omega), w1 15 (by omega) (by omega)]
  have cl : ∀ (Q : Int → JS → Prop), (v = 0 → ∀ J2 J3, J3 = ju1 J2 10 0 0 → FrP J1 J2 → DrR J2 (gN (iu2 (iu1 W2 4 v) 6 (W.1 5) 0).2 g) (gH (iu2 (iu1 W2 4 v) 6 (W.1 5) 0).2 g) (gP (iu2 (iu1 W2 4 v) 6 (W.1 5) 0).2 g) (gS (iu2 (iu1 W2 4 v) 6 (W.1 5) 0).2 g) (gFt (iu2 (iu1 W2 4 v) 6 (W.1 5) 0).2 g) (gIt (iu2 (iu1 W2 4 v) 6 (W.1 5) 0).2 g) → wp (ib G11_refusalOfDraft fun v2 => jret v2) (fun v3 J' => wp (ib (G11_closeBook v3) fun v => jret v) Q J') J3) → (v ≠ 0 → ∀ J2 J3, J3 = ju1 J2 10 0 v → FrP J1 J2 → wp (ib G11_refusalOfDraft fun v2 => jret v2) (fun v3 J' => wp (ib (G11_closeBook v3) fun v => jret v) Q J') J3) → wp (ib G11_draftFormula fun v3 => ib (G11_closeBook v3) fun v => jret v) Q J1 := fun Q q0 q1 => by
    rw [wp_ib]
    unfold G11_draftFormula
    rw [wp_ib]
    refine c_ofFormula hGr hChc hg'.2 hn hCb' hGb' (fun a _ J2 f d => ?_) (fun v' J2 a hv' f => ?_)
    · have ev := FA_u hFA' a
      rw [wp_ib, jP10]
      with_reducible refine jp_st fun J3 e3 => ?_
      exact q0 ev J2 J3 e3 f d
    · have ev := FA_u hFA' a
      subst ev
      rw [wp_ib, jP10]
      with_reducible refine jp_st fun J3 e3 => ?_
      exact q1 hv' J2 J3 e3 f
  have no : ∀ (J2 : JS) (rr : Int), FrP J1 J2 → 1 ≤ rr → rr ≤ 9 → wp (ib (G11_closeBook rr) fun v => jret v) (fun r' J' => r' = -9 ∧ Inv (iu1 (iu1 W2 4 v) 2 rr) J') (ju1 J2 10 0 v) := fun J2 rr f a b => by
    rw [wp_ib, wp_ret (c_closeNo ⟨a, b⟩), jp_ret]
    refine ⟨rfl, hI.no (W2 := iu1 W2 4 v) (J1 := ju1 J2 10 0 v) ((k1.trans f.kp).trans (JKp.u (by omega))) (f.2.2.trans r1) ⟨?_, ?_⟩ (WKp.same fun k hk => by rw [iu1_2, e2, w2 k (by omega)]) ?_ ?_ ?_ ?_ ?_⟩
    · rw [ju1_s, if_neg (by omega), f.1 8 0 (by omega), s1.1]
    · rw [ju1_s, if_neg (by omega), f.1 9 0 (by omega), s1.2]
    · rw [iu1_1, if_neg (by omega)]; exact f21
    · rw [iu1_1, if_neg (by omega)]; exact x5
    · rw [iu1_1, if_neg (by omega)]; exact x15
    · rw [ju1_s, if_neg (by omega), f.1 5 0 (by omega), h5, iu1_1, if_neg (by omega), f23]
    · rw [ju1_s, if_pos ⟨rfl, rfl⟩, iu1_1, if_pos rfl]
  by_cases cv : v ≤ 0
  · have v0 : v = 0 := by omega
    subst v0
    rw [if_pos cv, wp_ib, wp_igI, wp_ig, wp_ite, iu1_1, if_neg (by omega), x5]
    refine ⟨⟨by omega, by omega⟩, ?_⟩
    by_cases c8 : W.1 5 = 8
    · rw [if_pos c8, wp_ib, wp_ret m_no, wp_ir]
      refine cl _ (fun _ J2 J3 e3 f d => ?_) (fun q => absurd rfl q)
      rw [wp_ib]
      have e8 : js J3 8 0 = 8 := by rw [e3, ju1_s, if_neg (by omega), f.1 8 0 (by omega), s1.1, i3.1, c8]
      obtain ⟨t, et, ht⟩ := d.lia (u := 0) hn hCb' hGb' hFA'
      have n9 := no J2 9 f (by omega) (by omega)
      rw [← e3] at et n9
      refine c_refusal (v := 0) (t := t) (by rw [e3, ju1_s, if_pos ⟨rfl, rfl⟩]) (by decide) (fun q => absurd rfl q) (fun _ => ⟨et, ht, fun _ => ?_, fun _ => ?_⟩)
      · rw [jp_ret, wp_ib, wp_ret (c_closeFull e8)]
        rw [wp_ib, wp_ret (c_closeNo ⟨by omega, by omega⟩)] at n9
        exact n9
      · rw [jp_ret]
        exact n9
    · rw [if_neg c8, wp_ib, wp_igI, wp_ib, wS6, iu1_1, if_neg (by omega), x5]
      refine ⟨⟨by omega, by omega⟩, ?_⟩
      have ex : W.1 5 = (jB J : Int) := i3.2.1
      refine m_build (g := g) (n := c') hg'.2 (x := W.1 5) ⟨by omega, by omega⟩ hn hCb' hGb' (by rw [iu2_1, iu1_1, if_neg (by omega)]; exact h24) (by rw [iu2_1, iu1_1, if_neg (by omega)]; exact h25) hFA' (by rw [iu2_2, if_pos ⟨rfl, rfl⟩]) fun W3 f3 b3 => ?_
      have hPZ := gPZ hn hCb' hGb' hFA'
      have hOK : BOK (mB W3 (W.1 5)) := by
        refine b3.ok hPZ fun l => ?_
        have hch := GG_ch hn hCb' hGb' hFA' g (Nat.le_refl _)
        rw [hGb'.2.2] at hch
        rw [(gFt_eq hGb' g l (Int.le_refl _)).2, hGb'.2.2]
        exact rIt_4 (fun _ => ⟨Int.le_refl _, by decide⟩) (fun c c0 c1 c2 => (hch c c0 c1).2 c2) _ l (by omega)
      have ht := tot_bd hOK
      have x3 : ∀ k, k ≠ 4 → W3.1 k = W2.1 k := fun k hk => by rw [f3.1, iu2_1, iu1_1, if_neg hk]
      have x34 : W3.1 4 = 0 := by rw [f3.1, iu2_1, iu1_1, if_pos rfl]
      unfold I12_book_203
      rw [wp_ib]
      refine m_isMade ⟨by omega, by omega⟩ hOK (fun t4 W4 f4 b4 => ?_) (fun t4 => ?_)
      · rw [wp_ir]
        refine cl _ (fun _ J2 J3 e3 f d => ?_) (fun q => absurd rfl q)
        have hP : PlR J2 0 (mB W3 (W.1 5)) := c_draft hn hCb' hGb' hFA' d b3
        have hP' : PlR J3 0 (mB W3 (W.1 5)) := hP.eq (by rw [e3, ju1_s, if_neg (by omega)]) fun _ _ _ => by rw [e3]; rfl
        have e8 : js J3 8 0 = jB J := by rw [e3, ju1_s, if_neg (by omega), f.1 8 0 (by omega), s1.1, i3.1, ex]
        have rJ : J3.2.2 = J.2.2 := by rw [e3]; exact f.2.2.trans r1
        have kk : JKp J J3 := by rw [e3]; exact (k1.trans f.kp).trans (JKp.u (by omega))
        have ebJ := jB_r rJ
        have hLC := LC_tot hOK
        rw [wp_ib]
        refine c_refusal (v := 0) (t := tot (mB W3 (W.1 5))) (by rw [e3, ju1_s, if_pos ⟨rfl, rfl⟩]) (by decide) (fun q => absurd rfl q) (fun _ => ⟨by rw [c_leavesInAll (Nat.zero_le _), c_tot hP' hOK], ⟨by omega, by omega⟩, fun _ => ?_, fun q => absurd t4 q⟩)
        rw [jp_ret, wp_ib]
        refine c_closeBook (B := mB W3 (W.1 5)) (i1.r rJ) (by rw [e8, ebJ]) (by omega) hP' hOK (by omega) fun J4 n3 p3 l3 a3 => ?_
        rw [jp_ret, ebJ]
        rw [ebJ] at p3 l3 a3
        refine ⟨ex.symm, hI.book (J2 := J3) (B := mB W3 (W.1 5)) kk rJ ⟨?_, ?_⟩ (by omega) n3 (WKp.book (W1 := W1) (W2 := iu1 W2 4 0) (fun k hk => w2 k (by omega)) (by rw [iu1_2]; exact e2) f3 f4 ex) ?_ p3 l3 a3 ?_ ?_ ?_ ?_ ?_ ?_ ?_⟩
        · rw [e3, ju1_s, if_neg (by omega), f.1 8 0 (by omega), s1.1]
        · rw [e3, ju1_s, if_neg (by omega), f.1 9 0 (by omega), s1.2]
        · rw [← ex]
          exact b4
        · rw [← ex]
          show mB W4 (W.1 5) = _
          exact f4.bk _
        · rw [iu1_1, if_neg (by omega), iu1_1, if_neg (by omega), f4.1, x3 1 (by omega), f21]
        · rw [iu1_1, if_neg (by omega), iu1_1, if_pos rfl, f4.1, x3 5 (by omega), x5]
        · rw [iu1_1, if_neg (by omega), iu1_1, if_neg (by omega), f4.1, x3 15 (by omega), x15]
        · rw [e3, ju1_s, if_neg (by omega), f.1 5 0 (by omega), h5, iu1_1, if_neg (by omega), iu1_1, if_neg (by omega), f4.1, x3 3 (by omega), f23]
        · rw [e3, ju1_s, if_pos ⟨rfl, rfl⟩, iu1_1, if_neg (by omega), iu1_1, if_neg (by omega), f4.1, x34]
        · rw [iu1_1, if_pos rfl]
      · rw [wp_ir]
        refine cl _ (fun _ J2 J3 e3 f d => ?_) (fun q => absurd rfl q)
        have hP : PlR J2 0 (mB W3 (W.1 5)) := c_draft hn hCb' hGb' hFA' d b3
        have hP' : PlR J3 0 (mB W3 (W.1 5)) := hP.eq (by rw [e3, ju1_s, if_neg (by omega)]) fun _ _ _ => by rw [e3]; rfl
        have e8 : js J3 8 0 = jB J := by rw [e3, ju1_s, if_neg (by omega), f.1 8 0 (by omega), s1.1, i3.1, ex]
        have rJ : J3.2.2 = J.2.2 := by rw [e3]; exact f.2.2.trans r1
        have kk : JKp J J3 := by rw [e3]; exact (k1.trans f.kp).trans (JKp.u (by omega))
        rw [wp_ib]
        refine c_refusal (v := 0) (t := tot (mB W3 (W.1 5))) (by rw [e3, ju1_s, if_pos ⟨rfl, rfl⟩]) (by decide) (fun q => absurd rfl q) (fun _ => ⟨by rw [c_leavesInAll (Nat.zero_le _), c_tot hP' hOK], ⟨by omega, by omega⟩, fun q => absurd q t4, fun _ => ?_⟩)
        rw [jp_ret, wp_ib, wp_ret (c_closeNo ⟨by omega, by omega⟩), jp_ret]
        refine ⟨rfl, hI.no (W2 := W3) (J1 := J3) kk rJ ⟨?_, ?_⟩ ?_ ?_ ?_ ?_ ?_ ?_⟩
        · rw [e3, ju1_s, if_neg (by omega), f.1 8 0 (by omega), s1.1]
        · rw [e3, ju1_s, if_neg (by omega), f.1 9 0 (by omega), s1.2]
        · have := WKp.book (W := W) (W1 := W1) (W2 := iu1 W2 4 0) (W3 := W3) (W4 := W3) (n5 := 0) (n2 := 0) (nc := jC J) (fun k hk => w2 k (by omega)) (by rw [iu1_2]; exact e2) f3 FrL.refl ex
          exact this
        · rw [x3 1 (by omega), f21]
        · rw [x3 5 (by omega), x5]
        · rw [x3 15 (by omega), x15]
        · rw [e3, ju1_s, if_neg (by omega), f.1 5 0 (by omega), h5, x3 3 (by omega), f23]
        · rw [e3, ju1_s, if_pos ⟨rfl, rfl⟩, x34]
  · rw [if_neg cv, wp_ib, wp_ret m_no, wp_ir]
    refine cl _ (fun q => by omega) (fun _ J2 J3 e3 f => ?_)
    rw [wp_ib]
    refine c_refusal (v := v) (t := 0) (by rw [e3, ju1_s, if_pos ⟨rfl, rfl⟩]) ⟨by omega, by omega⟩ (fun _ => ?_) (fun q => by omega)
    rw [jp_ret, e3]
    exact no J2 4 f (by omega) (by omega)
theorem p_book (hI : Inv W J) : Sm2 I12_book G11_book W J := by
  obtain ⟨i1, i2, i3, i4, i5, i6, i7⟩ := id hI
  have hT0 : TpR (ju1 J 10 0 0) (W.2 0) (W.1 1) := i2.eq (by rw [ju1_s, if_neg (by omega)]) rfl
  obtain ⟨W1, v, J1, hm, hc, ⟨w1, w4, w2⟩, fR, hv⟩ := b_formula (J := ju1 J 10 0 0) (i1.r rfl) hT0
  have s1 : js J1 8 0 = js J 8 0 ∧ js J1 9 0 = js J 9 0 ∧ js J1 10 0 = 0 := by
    rw [fR.1 8 0 (by omega), fR.1 9 0 (by omega), fR.1 10 0 (by omega), ju1_s, if_neg (by omega), ju1_s, if_neg (by omega), ju1_s, if_pos ⟨rfl, rfl⟩]
    exact ⟨rfl, rfl, rfl⟩
  unfold Sm2
  refine hm _ ?_
  unfold G11_book
  rcases hv with ⟨rfl, h5, j', g', c', hM, hk, hG, hC, hg', hc'⟩ | ⟨rfl, j', gd, hgd, hM, h5⟩
  · refine wp_mono (b_book1 hI w1 w4 w2 fR h5 hM hk hG hC hg' hc') fun r W' q => ?_
    rw [wp_ib, jP10, wp_ib, wp_ret hc, wp_ig, wp_ite, if_neg (by decide)]
    exact ⟨by decide, q⟩
  · unfold I12_book_46
    rw [wp_ib]
    refine m_ends i2.2.1 (by omega) hM (fun a b => by omega) (fun _ W2 e2 f2 f21 f23 => ?_)
    rw [wp_ig, wp_ite, if_pos rfl, wp_ib, wp_ret m_no, wp_ir]
    refine ⟨by decide, ?_⟩
    rw [wp_ib, jP10, wp_ib, wp_ret hc, wp_ig, wp_ite, if_pos rfl, wp_ib, wp_ret (c_closeNo ⟨by omega, by omega⟩), jp_ret]
    refine ⟨by decide, rfl, hI.no (W2 := W2) (J1 := J1) ((JKp.u (by omega)).trans fR.kp) fR.2.2 ⟨s1.1, s1.2.1⟩ (WKp.same fun k hk => by rw [e2, w2 k (by omega)]) f21 ?_ ?_ ?_ ?_⟩
    · rw [f2 5 (by omega) (by omega) (by omega), w1 5 (by omega) (by omega)]
    · rw [f2 15 (by omega) (by omega) (by omega), w1 15 (by omega) (by omega)]
    · rw [h5, f23]
    · rw [s1.2.2, f2 4 (by omega) (by omega) (by omega), w4]
end PB2
