/-! ===== change ===== -/
section CH3
variable {W : IS} {J : JS} {α β : Type}
theorem s_as {x : IM Int} {A : JM α} {f : α → JM β} {g : β → JM Int} (h : SQ x (ib A fun a => ib (f a) g) W J) : SQ x (ib (ib A f) g) W J := by
  refine ⟨trivial, ?_⟩
  have := h.2
  unfold Sm2 at this ⊢
  refine wp_mono this fun r W' q => ?_
  rw [wp_ib] at q
  rw [wp_ib, wp_ib]
  exact wp_mono q fun v J' q2 => by rw [wp_ib] at q2; exact q2
theorem s_cs {x : IM Int} {y y' : JM α} {g : α → JM Int} {a : α} {J1 : JS} (e' : y' J = some (a, J1)) (e : y J = some (a, J1)) (h : SQ x (ib y' g) W J) : SQ x (ib y g) W J := by
  refine ⟨trivial, ?_⟩
  have := h.2
  unfold Sm2 at this ⊢
  refine wp_mono this fun r W' q => ?_
  rw [wp_ib, wp_ret e'] at q
  rw [wp_ib, wp_ret e]
  exact q
theorem s_clNo (hI : Inv W (ju1 J 2 0 0)) {r : Int} (hr : 1 ≤ r ∧ r ≤ 9) : SQ (ib (I12_no r) fun v => ir v) (ib (G11_closeBook r) fun v => jret v) W J := s_mr m_no (s_cr (c_closeNo hr) (s_ret rfl hI.st))
/-- a book is made of a draft without a fault, if there is room -/
theorem b_made {W3 : IS} {J2 : JS} {x : Int} (hI : Inv W J) (hx : jB J < 8) (ex : x = (jB J : Int)) (k2 : JKp J J2) (r2 : J2.2.2 = J.2.2) (s2 : js J2 8 0 = js J 8 0 ∧ js J2 9 0 = js J 9 0) (e10 : js J2 10 0 = 0) (hP : PlR J2 0 (mB W3 x)) (hOK : BOK (mB W3 x)) (hw : ∀ W4 n5 n2, FrL x W3 W4 → WKp W (iu1 (iu1 W4 5 n5) 2 n2) (jB J) (jC J)) (h1 : W3.1 1 = 0) (h5 : W3.1 5 = W.1 5) (h15 : W3.1 15 = W.1 15) (h3 : js J2 5 0 = W3.1 3) (h4 : W3.1 4 = 0) : SQ (ib (I12_isMade x) fun v1 => ir v1) (ib G11_refusalOfDraft fun v2 => ib (G11_closeBook v2) fun v => jret v) W3 J2 := by
  obtain ⟨i1, i2, i3, i4, i5, i6, i7⟩ := id hI
  have ht := tot_bd hOK
  have hLC := LC_tot hOK
  have eb := jB_r r2
  have e8 : js J2 8 0 = jB J := by rw [s2.1, i3.1, i3.2.1]
  have hLv : G6_leavesInAll 0 J2 = some (tot (mB W3 x), J2) := by rw [c_leavesInAll (Nat.zero_le _), c_tot hP hOK]
  refine ⟨trivial, ?_⟩
  unfold Sm2
  rw [wp_ib]
  refine m_isMade ⟨by omega, by omega⟩ hOK (fun t4 W4 f4 b4 => ?_) (fun t4 => ?_)
  · rw [wp_ir, wp_ib]
    refine c_refusal (v := 0) (t := tot (mB W3 x)) e10 (by decide) (fun q => absurd rfl q) (fun _ => ⟨hLv, ⟨by omega, by omega⟩, fun _ => ?_, fun q => absurd t4 q⟩)
    rw [wp_ib]
    refine c_closeBook (B := mB W3 x) (i1.r r2) (by rw [e8, eb]) (by omega) hP hOK (by omega) fun J3 n3 p3 l3 a3 => ?_
    rw [jp_ret, eb]
    rw [eb] at p3 l3 a3
    refine ⟨ex.symm, hI.book (J2 := J2) (B := mB W3 x) k2 r2 s2 hx n3 (hw W4 _ _ f4) ?_ p3 l3 a3 ?_ ?_ ?_ ?_ ?_ ?_ ?_⟩
    · rw [← ex]
      exact b4
    · rw [← ex]
      show mB W4 x = _
      exact f4.bk _
    · rw [iu1_1, if_neg (by omega), iu1_1, if_neg (by omega), f4.1, h1]
    · rw [iu1_1, if_neg (by omega), iu1_1, if_pos rfl, f4.1, h5]
    · rw [iu1_1, if_neg (by omega), iu1_1, if_neg (by omega), f4.1, h15]
    · rw [iu1_1, if_neg (by omega), iu1_1, if_neg (by omega), f4.1, h3]
    · rw [iu1_1, if_neg (by omega), iu1_1, if_neg (by omega), f4.1, e10, h4]
    · rw [iu1_1, if_pos rfl]
  · rw [wp_ir, wp_ib]
    refine c_refusal (v := 0) (t := tot (mB W3 x)) e10 (by decide) (fun q => absurd rfl q) (fun _ => ⟨hLv, ⟨by omega, by omega⟩, fun q => absurd q t4, fun _ => ?_⟩)
    rw [wp_ib, wp_ret (c_closeNo ⟨by omega, by omega⟩), jp_ret]
    exact ⟨rfl, hI.no (W2 := W3) (J1 := J2) k2 r2 s2 (hw W3 0 0 FrL.refl) h1 h5 h15 h3 (by rw [e10, h4])⟩
theorem c_amount {n : Int} (h : js J 1 9 = n) : G5_amount J = some (n, J) := by
  refine wp_eq ?_
  unfold G5_amount
  rw [wp_ib, jG1, kj_1, jp_ret]
  exact ⟨Or.inl (by omega), h, rfl⟩
/-- a plan's rows, cut to their length -/
def cutL (f : Int → Int) : Int → Int := fun l => if 0 ≤ l ∧ l < 852 then f l else 0
theorem p_change (hI : Inv W J) {a : Int} (ha : R32 a) : SQ (I12_change a) (G11_change a) W J := by
  unfold I12_change G11_change
  refine b_at hI ha ?_ fun b e hb h8 hB => ?_
  · refine s_m ?_
    rw [wp_ipI]
    exact s_clNo hI.cut0 (by omega)
  have hT0 : TpR (ju1 J 10 0 0) (W.2 0) (W.1 1) := hI.2.1.eq (by rw [ju1_s, if_neg (by omega)]) rfl
  obtain ⟨W1, r, J1, run, er, ⟨w1, w14, w11, w2⟩, fR, h35, -, hr⟩ := b_chText (J := ju1 J 10 0 0) (hI.1.r rfl) hT0
  have hI1 : Inv W1 (ju1 J1 2 0 0) := hI.rd2 fR (fun k hk => w2 k (by omega)) w11 w14 (fun k hk => w1 k (by omega) (by omega) (by omega) (by omega)) h35
  have s1 : ∀ t, t ≠ 3 → t ≠ 4 → t ≠ 5 → t ≠ 1 → t ≠ 10 → js J1 t 0 = js J t 0 := fun t t1 t2 t3 t4 t5 => by rw [fR.1 t 0 (by omega), ju1_s, if_neg (by omega)]
  refine s_c ?_
  rw [jP10]
  refine s_run (fun Q h => run _ Q h) (s_cr er ?_)
  rcases hr with ⟨rfl, c, hCh, hc⟩ | rfl
  · refine s_mg (by decide) (s_m0 (by decide) (s_cg (by decide) (s_c0 (by decide) ?_)))
    have r1 : J1.2.2 = J.2.2 := fR.2.2
    have k1 : JKp J J1 := (JKp.u (by omega)).trans fR.kp
    have eb := jB_r r1
    have hb1 : b < jB (ju1 J1 2 0 0) := by rw [jB_r (J := J) (J' := ju1 J1 2 0 0) r1]; exact hb
    have hB1 := hI1.2.2.2.2.2.1 b hb1
    have hBO := hB1.2.1.1
    have hP1 : PlR J1 (b + 1) (mB W1 b) := hB1.2.2.1.1.eq (J' := J1) (by rw [ju1_s, if_neg (by omega)]) fun t t0 t1 => rfl
    have i3 := hI.2.2.1
    have hn : 0 ≤ c ∧ c ≤ 60 := ⟨by omega, hc.2⟩
    have hCb : chB W1.2 c := hCh.b
    have h25 : W1.1 25 = c := hCh.1.2.1
    have w5 : W1.1 5 = W.1 5 := w1 5 (by omega) (by omega) (by omega) (by omega)
    have w15 : W1.1 15 = W.1 15 := w1 15 (by omega) (by omega) (by omega) (by omega)
    unfold G11_draftChanges
    refine s_as (s_c ?_)
    rw [jp_E, kj_3]
    refine ⟨by omega, s_as (s_c (c_copyPl (by omega) (Nat.zero_le _) (by omega) hP1 hBO fun J2 hCp hP2 => ?_))⟩
    have e9 : js J2 1 9 = c := by rw [hCp.2.2.2.1 1 9 (by omega)]; exact hCh.1.2.2.2.1
    refine s_as (s_cr (c_amount e9) (s_as (s_c ?_)))
    -- the draft's rows
    have hD : DrR J2 (js J2 6 0) (js J2 7 0) (ja J2 3 0) (ja J2 4 0) (cutL (ja J2 5 0)) (cutL (ja J2 6 0)) := ⟨rfl, rfl, fun _ _ _ => rfl, fun _ _ _ => rfl, fun l l0 l1 => by unfold cutL; rw [if_pos ⟨l0, l1⟩, if_pos ⟨l0, l1⟩]; exact ⟨rfl, rfl⟩⟩
    have hC2 : ChC J2 W1.2 c := by
      have := hCh.c
      unfold ChC at this ⊢
      rw [hCp.2.2.2.1 1 8 (by omega), hCp.2.2.2.1 1 9 (by omega), hCp.2.2.2.1 1 10 (by omega), hCp.2.2.2.1 1 11 (by omega), hCp.2.2.2.2.1 1 8 (by omega), hCp.2.2.2.2.1 1 9 (by omega), hCp.2.2.2.2.1 1 10 (by omega), hCp.2.2.2.2.1 1 11 (by omega)]
      exact this
    have by2' : ∀ l, (cutL (ja J2 5 0) l = 0 ∨ cutL (ja J2 5 0) l = 45 ∨ cutL (ja J2 5 0) l = 61) ∧ (0 ≤ cutL (ja J2 6 0) l ∧ cutL (ja J2 6 0) l ≤ 4) := fun l => by
      unfold cutL
      by_cases q : 0 ≤ l ∧ l < 852
      · rw [if_pos q, if_pos q]
        exact hP2.by hBO q.1 q.2
      · rw [if_neg q, if_neg q]
        omega
    have hS : SFI (mB W1 b) (ja J2 4 0) (cutL (ja J2 5 0)) (cutL (ja J2 6 0)) := by
      refine ⟨fun g g0 g1 => (hP2.2.1 g g0 g1).2, fun s s0 s1 hno => hP2.2.2.2.1 s s0 (by omega) hno, fun g i hV => ?_⟩
      have := slt_bd hBO hV
      unfold cutL
      rw [if_pos this, if_pos this]
      exact hP2.2.2.1 g i hV
    have wr : ∀ t, 26 ≤ t → (iu2 (iu1 W1 4 0) 6 (W.1 5) 0).2 t = W1.2 t := fun t t0 => by
      funext l
      rw [iu2_2, if_neg (by omega), iu1_2]
    have r2 : J2.2.2 = J.2.2 := hCp.2.2.2.2.2.trans r1
    have k2 : ∀ {J3 : JS} {v : Int}, FrP J2 J3 → JKp J (ju1 J3 10 0 v) ∧ (ju1 J3 10 0 v).2.2 = J.2.2 ∧ (js (ju1 J3 10 0 v) 8 0 = js J 8 0 ∧ js (ju1 J3 10 0 v) 9 0 = js J 9 0) ∧ js (ju1 J3 10 0 v) 5 0 = W1.1 3 ∧ js (ju1 J3 10 0 v) 10 0 = v := fun {J3} {v} f => by
      have kc : JKp J1 J2 := JKp.same hCp.2.2.2.2.2 (fun t i q => hCp.2.2.2.1 t i (by omega)) fun t i q => hCp.2.2.2.2.1 t i (by omega)
      refine ⟨((k1.trans kc).trans f.kp).trans (JKp.u (by omega)), f.2.2.trans r2, ⟨?_, ?_⟩, ?_, ?_⟩
      · rw [ju1_s, if_neg (by omega), f.1 8 0 (by omega), hCp.2.2.2.1 8 0 (by omega), s1 8 (by omega) (by omega) (by omega) (by omega) (by omega)]
      · rw [ju1_s, if_neg (by omega), f.1 9 0 (by omega), hCp.2.2.2.1 9 0 (by omega), s1 9 (by omega) (by omega) (by omega) (by omega) (by omega)]
      · rw [ju1_s, if_neg (by omega), f.1 5 0 (by omega), hCp.2.2.2.1 5 0 (by omega), h35]
      · rw [ju1_s, if_pos ⟨rfl, rfl⟩]
    have hwk : ∀ v : Int, WKp W (iu1 W1 4 v) (jB J) (jC J) := fun v => WKp.same fun k hk => by rw [iu1_2, w2 k (by omega)]
    -- a refusal
    have no : ∀ {J3 : JS} {v rr : Int}, FrP J2 J3 → 1 ≤ rr → rr ≤ 9 → SQ (ib (I12_no rr) fun v => ir v) (ib (G11_closeBook rr) fun v => jret v) (iu1 W1 4 v) (ju1 J3 10 0 v) := fun {J3} {v} {rr} f a0 a1 => by
      obtain ⟨x1, x2, x3, x4, x5⟩ := k2 (v := v) f
      refine s_mr m_no (s_cr (c_closeNo ⟨a0, a1⟩) (s_ret rfl (hI.no x1 x2 x3 (hwk v) ?_ ?_ ?_ ?_ ?_)))
      · rw [iu1_1, if_neg (by omega)]; exact w11
      · rw [iu1_1, if_neg (by omega)]; exact w5
      · rw [iu1_1, if_neg (by omega)]; exact w15
      · rw [x4, iu1_1, if_neg (by omega)]
      · rw [x5, iu1_1, if_pos rfl]
    refine c_ofChanges (n := c) (e := 0) (e' := c) hD hC2 hn hCb ⟨Int.le_refl _, hn.1, Int.le_refl _⟩ (fun s s0 s1 => hP2.szb hBO s0 (by omega)) (fun l => ?_) (fun l => ?_) (fun hF J3 f3 d3 => ?_) (fun v J3 hF hv f3 => ?_)
    · rcases (by2' l).1 with q | q | q <;> rw [q] <;> decide
    · have := (by2' l).2
      exact ⟨by omega, by omega⟩
    · -- no fault
      obtain ⟨x1, x2, x3, x4, x5⟩ := k2 (v := 0) f3
      refine s_m (m_faultOfChanges (n := c) (S := ja J2 4 0) (F := cutL (ja J2 5 0)) (I := cutL (ja J2 6 0)) (by omega) (by omega) (by rw [e]; exact hBO) hn hCb h25 (by rw [e]; exact hS) fun v hv => ?_)
      have ev := FC_u hv hF
      subst ev
      refine s_m ?_
      rw [wp_ipI]
      refine s_m ?_
      rw [wp_igI, iu1_1, if_pos rfl]
      refine s_mg (by decide) (s_m1 (by decide) (s_as (s_c ?_)))
      rw [jP10]
      refine s_m ?_
      rw [wp_igI, iu1_1, if_neg (by omega), w5]
      refine s_mg ⟨by omega, by omega⟩ ?_
      have e8 : js (ju1 J3 10 0 0) 8 0 = W.1 5 := by rw [x3.1, i3.1]
      have n4 : ¬ Q4 W1.2 (ja J2 4 0) 0 c ∧ ¬ P5 W1.2 0 c := by
        rcases hF with ⟨q, -⟩ | ⟨q1, ⟨q, -⟩ | ⟨q2, -⟩⟩
        · omega
        · omega
        · exact ⟨q1, q2⟩
      have hk4 : ∀ y, 0 ≤ y → y < c → (1 ≤ W1.2 34 y ∧ W1.2 34 y ≤ ja J2 4 0 (W1.2 33 y)) ∧ (W1.2 32 y = 43 → 1 ≤ W1.2 35 y ∧ W1.2 35 y ≤ 4) := fun y y0 y1 => by
        refine ⟨?_, fun cm => ?_⟩
        · by_cases k : 1 ≤ W1.2 34 y ∧ W1.2 34 y ≤ ja J2 4 0 (W1.2 33 y)
          · exact k
          · exact absurd ⟨y, y0, y1, k⟩ n4.1
        · by_cases k : 1 ≤ W1.2 35 y ∧ W1.2 35 y ≤ 4
          · exact k
          · exact absurd ⟨y, y0, y1, cm, k⟩ n4.2
      have hI4 : ∀ l, 0 ≤ rIt (cutL (ja J2 6 0)) W1.2 0 c.toNat l ∧ rIt (cutL (ja J2 6 0)) W1.2 0 c.toNat l ≤ 4 := fun l => rIt_4 (fun l => (by2' l).2) (N := c) (fun y y0 y1 => (hk4 y y0 y1).2) c.toNat l (by omega)
      by_cases c8 : W.1 5 = 8
      · refine s_m1 c8 (s_as (s_c ?_))
        with_reducible refine jp_st fun J4 e4 => ?_
        have e88 : js (ju1 J3 10 0 0) 8 0 = 8 := by rw [e8, c8]
        have d0 := d3
        rw [Int.sub_zero] at d0
        obtain ⟨t, et, ht⟩ := c_lia (J := ju1 J3 10 0 0) (fun s s0 s1 => by
          show 0 ≤ ja J3 4 0 s ∧ ja J3 4 0 s ≤ 12
          rw [d0.2.2.2.1 s s0 (by omega)]
          exact hP2.szb hBO s0 (by omega)) fun l l0 l1 => by
          show 0 ≤ ja J3 6 0 l ∧ ja J3 6 0 l ≤ 4
          rw [(d0.2.2.2.2 l l0 l1).2]
          exact hI4 l
        rw [← e4] at et e88 x5
        refine c_refusal (v := 0) (t := t) x5 (by decide) (fun q => absurd rfl q) (fun _ => ⟨et, ht, fun _ => ?_, fun _ => ?_⟩)
        · refine s_cr rfl (s_cs (c_closeNo ⟨by omega, by omega⟩) (c_closeFull e88) ?_)
          rw [e4]
          exact no f3 (by omega) (by omega)
        · refine s_cr rfl ?_
          rw [e4]
          exact no f3 (by omega) (by omega)
      · refine s_m0 c8 (s_m ?_)
        rw [wp_igI, iu1_1, if_neg (by omega), w5]
        refine s_m ?_
        rw [wS6]
        refine ⟨⟨by omega, by omega⟩, ?_⟩
        have hx8 : jB J < 8 := by omega
        obtain ⟨x, ex⟩ : ∃ x : Int, x = W.1 5 := ⟨_, rfl⟩
        rw [← ex] at wr ⊢
        have exb : x = (jB J : Int) := by omega
        have hm6 : mB (iu2 (iu1 W1 4 0) 6 x 0) a = mB W1 b := by
          rw [e]
          unfold mB
          have q6 : (iu2 (iu1 W1 4 0) 6 x 0).2 6 (b : Int) = W1.2 6 b := by rw [iu2_2, if_neg (by omega), iu1_2]
          have qk : ∀ k, k ≠ 6 → (iu2 (iu1 W1 4 0) 6 x 0).2 k = W1.2 k := fun k hk => by
            funext l
            rw [iu2_2, if_neg (fun q => hk q.1), iu1_2]
          rw [q6, qk 7 (by omega), qk 8 (by omega), qk 9 (by omega), qk 10 (by omega)]
        have hCb' : chB (iu2 (iu1 W1 4 0) 6 x 0).2 c := by
          unfold chB
          rw [wr 32 (by omega), wr 33 (by omega), wr 34 (by omega), wr 35 (by omega)]
          exact hCb
        have hF' : FC (iu2 (iu1 W1 4 0) 6 x 0).2 (ja J2 4 0) (cutL (ja J2 5 0)) (cutL (ja J2 6 0)) 0 c 0 := by
          unfold FC Q4 P5 P6x P6 PX tw slo at hF ⊢
          rw [wr 32 (by omega), wr 33 (by omega), wr 34 (by omega), wr 35 (by omega)]
          exact hF
        refine ⟨trivial, ?_⟩
        unfold Sm2
        refine m_chgB (P := ja J2 4 0) (F := cutL (ja J2 5 0)) (I := cutL (ja J2 6 0)) (N := c) ⟨by omega, by omega⟩ ⟨by omega, by omega⟩ (by omega) (by rw [hm6]; exact hBO) (by rw [iu2_2, if_pos ⟨rfl, rfl⟩]) hn hCb' (by rw [iu2_1, iu1_1, if_neg (by omega)]; exact h25) (by rw [hm6]; exact hS) (fun l => (by2' l).2) hF' fun W3 f3' b3 => ?_
        rw [hm6] at b3
        have eR : ∀ t, 11 ≤ t → (iu2 (iu1 W1 4 0) 6 x 0).2 t = W1.2 t := fun t t0 => by
          funext l
          rw [iu2_2, if_neg (by omega), iu1_2]
        have e1 : rFt (cutL (ja J2 5 0)) (iu2 (iu1 W1 4 0) 6 x 0).2 0 c.toNat = rFt (cutL (ja J2 5 0)) W1.2 0 c.toNat := funext fun l => (rFt_cg (I := cutL (ja J2 6 0)) eR c.toNat).1
        have e2 : rIt (cutL (ja J2 6 0)) (iu2 (iu1 W1 4 0) 6 x 0).2 0 c.toNat = rIt (cutL (ja J2 6 0)) W1.2 0 c.toNat := funext fun l => (rFt_cg (F := cutL (ja J2 5 0)) eR c.toNat).2
        rw [e1, e2] at b3
        have d3' : DrR J3 (js J2 6 0) (js J2 7 0) (ja J2 3 0) (ja J2 4 0) (rFt (cutL (ja J2 5 0)) W1.2 0 c.toNat) (rIt (cutL (ja J2 6 0)) W1.2 0 c.toNat) := by
          rw [Int.sub_zero] at d3
          exact d3
        have hPZ : PZok (bn (mB W1 b)) (bs (mB W1 b)) (bz (mB W1 b)) := ⟨hBO.1, hBO.2.1, hBO.2.2.2⟩
        have hOK : BOK (mB W3 x) := b3.ok hPZ hI4
        have hPl : PlR J3 0 (mB W3 x) := by
          have d6 : js J2 6 0 = bn (mB W1 b) := hP2.1
          rw [d6] at d3'
          have d3b : DrR J3 (bn (mB W1 b)) (js J2 7 0) (bs (mB W1 b)) (ja J2 4 0) (rFt (cutL (ja J2 5 0)) W1.2 0 c.toNat) (rIt (cutL (ja J2 6 0)) W1.2 0 c.toNat) := d3'.cg rfl rfl (fun p p0 p1 => (hP2.2.1 p p0 p1).1) (fun _ _ _ => rfl) fun _ _ _ => ⟨rfl, rfl⟩
          refine d3b.pl b3 hPZ hS.1 (fun s s0 s1 hno => hS.2.1 s s0 s1 hno) (fun l => rFt_v hCb (fun l => (by2' l).1) c.toNat l (by omega)) fun l l0 l1 hno => ?_
          have z := hP2.2.2.2.2 l l0 l1 fun g i hV => hno g i hV.1.1 hV.1.2 hV.2.1 hV.2.2
          have nsl : ∀ y, 0 ≤ y → y < c → ¬ l = slo W1.2 y := fun y y0 y1 ey => by
            have hc4 := (hk4 y y0 y1).1
            have hcb := hCb y y0 y1
            by_cases k : ∃ p, (0 ≤ p ∧ p < bn (mB W1 b)) ∧ bs (mB W1 b) p = W1.2 33 y
            · obtain ⟨p, hp, ep⟩ := k
              have hz := hS.1 p hp.1 hp.2
              rw [ep] at hz
              refine hno p (W1.2 34 y) hp.1 hp.2 hc4.1 (by omega) ?_
              rw [ep, ey]
              rfl
            · have := hS.2.1 (W1.2 33 y) (by omega) (by omega) fun g g0 g1 e => k ⟨g, ⟨g0, g1⟩, e⟩
              omega
          have zc : cutL (ja J2 5 0) l = 0 ∧ cutL (ja J2 6 0) l = 0 := by
            unfold cutL
            rw [if_pos ⟨l0, l1⟩, if_pos ⟨l0, l1⟩]
            exact z
          constructor
          · exact (rFt_0 hCb (Int.le_refl _) c.toNat (by omega)).mpr ⟨zc.1, fun y y0 y1 q => nsl y y0 (by omega) q.2⟩
          · exact (rIt_0 (n := c) (Int.le_refl _) (fun y y0 y1 y2 => ((hk4 y y0 y1).2 y2).1) c.toNat (by omega)).mpr ⟨zc.2, fun y y0 y1 q => nsl y y0 (by omega) q.2⟩
        have key : SQ (I12_change_226 x) (ib (ib G11_refusalOfDraft fun v3 => jret v3) fun v5 => ib (G11_closeBook v5) fun v => jret v) W3 (ju1 J3 10 0 0) := by
          refine s_as ?_
          unfold I12_change_226
          have y3 : ∀ k, k ≠ 4 → W3.1 k = W1.1 k := fun k hk => by rw [f3'.1, iu2_1, iu1_1, if_neg hk]
          exact b_made hI hx8 exb x1 x2 x3 x5 (hPl.eq (by rw [ju1_s, if_neg (by omega)]) fun t t0 t1 => rfl) hOK (fun W4 n5 n2 f4 => WKp.book (W1 := W1) (W2 := iu1 W1 4 0) (fun k hk => w2 k (by omega)) rfl f3' f4 exb) (by rw [y3 1 (by omega)]; exact w11) (by rw [y3 5 (by omega)]; exact w5) (by rw [y3 15 (by omega)]; exact w15) (by rw [x4, y3 3 (by omega)]) (by rw [f3'.1, iu2_1, iu1_1, if_pos rfl])
        exact key.2
    · -- a fault
      obtain ⟨x1, x2, x3, x4, x5⟩ := k2 (v := v) f3
      refine s_m (m_faultOfChanges (n := c) (S := ja J2 4 0) (F := cutL (ja J2 5 0)) (I := cutL (ja J2 6 0)) (by omega) (by omega) (by rw [e]; exact hBO) hn hCb h25 (by rw [e]; exact hS) fun v' hv' => ?_)
      have ev := FC_u hv' hF
      subst ev
      refine s_m ?_
      rw [wp_ipI]
      refine s_m ?_
      rw [wp_igI, iu1_1, if_pos rfl]
      refine s_mg ⟨by omega, by omega⟩ (s_m0 (by omega) (s_as (s_c ?_)))
      rw [jP10]
      refine s_as (s_c ?_)
      refine c_refusal (v := v') (t := 0) x5 ⟨by omega, by omega⟩ (fun _ => ?_) (fun q => by omega)
      exact s_cr rfl (no f3 (by omega) (by omega))
  · refine s_mg (by decide) (s_m1 rfl (s_cg (by decide) (s_c1 rfl ?_)))
    exact s_clNo hI1 (by omega)
end CH3
