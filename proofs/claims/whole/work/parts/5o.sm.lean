/-! ===== both sides, step by step ===== -/
section SMS
variable {W W' : IS} {J J' : JS} {α : Type}
/-- the same; a name that is not taken apart -/
def SQ (x : IM Int) (y : JM Int) (W : IS) (J : JS) : Prop := True ∧ Sm2 x y W J
theorem s_m {x : IM α} {f : α → IM Int} {y : JM Int} (h : wp x (fun v W' => SQ (f v) y W' J) W) : SQ (ib x f) y W J := by
  refine ⟨trivial, ?_⟩
  unfold Sm2
  rw [wp_ib]
  exact wp_mono h fun v W' q => q.2
theorem s_c {x : IM Int} {y : JM α} {g : α → JM Int} (h : wp y (fun v J' => SQ x (g v) W J') J) : SQ x (ib y g) W J := by
  refine ⟨trivial, ?_⟩
  unfold Sm2
  refine wp_mono (wp_comm (F := fun r W' v J' => wp (g v) (fun r' J'' => r' = r ∧ Inv W' J'') J') (wp_mono h fun v J' q => q.2)) fun r W' q => ?_
  rw [wp_ib]
  exact q
theorem s_mr {x : IM α} {f : α → IM Int} {y : JM Int} {a : α} (e : x W = some (a, W')) (h : SQ (f a) y W' J) : SQ (ib x f) y W J := s_m (by rw [wp_ret e]; exact h)
theorem s_cr {x : IM Int} {y : JM α} {g : α → JM Int} {a : α} (e : y J = some (a, J')) (h : SQ x (g a) W J') : SQ x (ib y g) W J := s_c (by rw [wp_ret e]; exact h)
theorem s_mg {c : Prop} {d : Decidable c} {x : IM Int} {y : JM Int} (hc : c) (h : SQ x y W J) : SQ (ig c x) y W J := by
  refine ⟨trivial, ?_⟩
  unfold Sm2
  rw [wp_ig]
  exact ⟨hc, h.2⟩
theorem s_cg {c : Prop} {d : Decidable c} {x : IM Int} {y : JM Int} (hc : c) (h : SQ x y W J) : SQ x (ig c y) W J := by
  refine ⟨trivial, ?_⟩
  unfold Sm2
  refine wp_mono h.2 fun r W' q => ?_
  rw [wp_ig]
  exact ⟨hc, q⟩
theorem s_mi {c : Prop} {d : Decidable c} {A B : IM Int} {y : JM Int} (h1 : c → SQ A y W J) (h0 : ¬ c → SQ B y W J) : SQ (if c then A else B) y W J := by
  by_cases h : c
  · rw [if_pos h]; exact h1 h
  · rw [if_neg h]; exact h0 h
theorem s_ci {c : Prop} {d : Decidable c} {A B : JM Int} {x : IM Int} (h1 : c → SQ x A W J) (h0 : ¬ c → SQ x B W J) : SQ x (if c then A else B) W J := by
  by_cases h : c
  · rw [if_pos h]; exact h1 h
  · rw [if_neg h]; exact h0 h
theorem s_m1 {c : Prop} {d : Decidable c} {A B : IM Int} {y : JM Int} (h : c) (h1 : SQ A y W J) : SQ (if c then A else B) y W J := by rw [if_pos h]; exact h1
theorem s_m0 {c : Prop} {d : Decidable c} {A B : IM Int} {y : JM Int} (h : ¬ c) (h1 : SQ B y W J) : SQ (if c then A else B) y W J := by rw [if_neg h]; exact h1
theorem s_c1 {c : Prop} {d : Decidable c} {A B : JM Int} {x : IM Int} (h : c) (h1 : SQ x A W J) : SQ x (if c then A else B) W J := by rw [if_pos h]; exact h1
theorem s_c0 {c : Prop} {d : Decidable c} {A B : JM Int} {x : IM Int} (h : ¬ c) (h1 : SQ x B W J) : SQ x (if c then A else B) W J := by rw [if_neg h]; exact h1
theorem s_ret {v v' : Int} (e : v' = v) (hI : Inv W J) : SQ (ir v) (jret v') W J := by
  refine ⟨trivial, ?_⟩
  unfold Sm2
  rw [wp_ir, jp_ret]
  exact ⟨e, hI⟩
theorem c_refuse {r : Int} : G11_refuse r J = some (-9, ju1 J 11 0 r) := by
  refine wp_eq ?_
  unfold G11_refuse
  rw [wp_ib, jP11, jp_ret]
  exact ⟨rfl, rfl⟩
theorem c_answer {v : Int} : G11_answer v J = some (v, ju1 J 11 0 0) := by
  refine wp_eq ?_
  unfold G11_answer
  rw [wp_ib, jP11, jp_ret]
  exact ⟨rfl, rfl⟩
theorem Inv.st (hI : Inv W J) {r : Int} : Inv (iu1 W 2 r) (ju1 J 11 0 r) := by
  obtain ⟨i1, i2, i3, i4, i5, i6, i7⟩ := id hI
  refine hI.same (i2.eq (by rw [ju1_s, if_neg (by omega)]) rfl) (by rw [iu1_1, if_neg (by omega)]) (by rw [iu1_1, if_neg (by omega)]) ⟨by rw [ju1_s, if_neg (by omega)], by rw [ju1_s, if_neg (by omega)]⟩ ⟨?_, ?_, ?_⟩ ⟨rfl, rfl⟩ (JKp.u (by omega)) (WKp.same fun _ _ => rfl)
  · rw [ju1_s, if_neg (by omega), iu1_1, if_neg (by omega), i5.1]
  · rw [ju1_s, if_neg (by omega), iu1_1, if_neg (by omega), i5.2.1]
  · rw [ju1_s, if_pos ⟨rfl, rfl⟩, iu1_1, if_pos rfl]
theorem s_no (hI : Inv W J) {r : Int} : SQ (ib (I12_no r) fun v => ir v) (ib (G11_refuse r) fun v => jret v) W J := s_mr m_no (s_cr c_refuse (s_ret rfl hI.st))
theorem s_fine (hI : Inv W J) {v v' : Int} (e : v' = v) : SQ (ib (I12_fine v) fun v => ir v) (ib (G11_answer v') fun v => jret v) W J := s_mr m_fine (s_cr c_answer (s_ret e hI.st))
/-- the model's rows that matter are the same, nothing is made -/
theorem Inv.w (hI : Inv W J) (h1 : ∀ k, k = 1 ∨ k = 2 ∨ k = 3 ∨ k = 4 ∨ k = 5 ∨ k = 15 → W'.1 k = W.1 k) (h2 : ∀ k, k ≤ 18 → W'.2 k = W.2 k) : Inv W' J := by
  obtain ⟨i1, i2, i3, i4, i5, i6, i7⟩ := id hI
  refine hI.same ?_ (h1 5 (by omega)) (h1 15 (by omega)) ⟨rfl, rfl⟩ ?_ ⟨rfl, rfl⟩ JKp.refl (WKp.same fun k hk => h2 k (by omega))
  · rw [h2 0 (by omega), h1 1 (by omega)]
    exact i2
  · rw [h1 3 (by omega), h1 4 (by omega), h1 2 (by omega)]
    exact i5
/-- the class's numbers, rows that matter are the same; a text more is no matter -/
theorem Inv.j (hI : Inv W J) (k : JKp J J') (hB : jB J' = jB J ∧ jC J' = jC J) (h : ∀ t, t = 2 ∨ t = 5 ∨ t = 8 ∨ t = 9 ∨ t = 10 ∨ t = 11 → js J' t 0 = js J t 0) (h2 : ja J' 2 0 = ja J 2 0) : Inv W J' := by
  obtain ⟨i1, i2, i3, i4, i5, i6, i7⟩ := id hI
  refine hI.same (i2.eq (h 2 (by omega)) h2) rfl rfl ⟨h 8 (by omega), h 9 (by omega)⟩ ?_ hB k (WKp.same fun _ _ => rfl)
  rw [h 5 (by omega), h 10 (by omega), h 11 (by omega)]
  exact i5
/-! ===== a book, a leaf, a copy is asked for ===== -/
theorem c_bookAt (hI : Inv W J) {a : Int} (ha : R32 a) : G11_bookAt a J = some (if 0 ≤ a ∧ a < jB J then some a.toNat else none, J) := by
  obtain ⟨i1, i2, i3, i4, i5, i6, i7⟩ := hI
  refine wp_eq ?_
  unfold G11_bookAt
  rw [wp_ig, wp_ite]
  refine ⟨ha, ?_⟩
  by_cases c : a < 0
  · rw [if_pos c, jp_ret]
    exact ⟨(if_neg (by omega)).symm, rfl⟩
  · rw [if_neg c, wp_ib, jG8, i3.1, i3.2.1, wp_ig, wp_ite]
    refine ⟨⟨by omega, by omega⟩, ?_⟩
    by_cases c2 : (jB J : Int) ≤ a
    · rw [if_pos c2, jp_ret]
      exact ⟨(if_neg (by omega)).symm, rfl⟩
    · rw [if_neg c2, wp_ite]
      refine ite_p (by omega) ?_
      rw [wp_ib, jp_Bk]
      refine ⟨⟨by omega, by omega⟩, ?_⟩
      rw [jp_ret]
      exact ⟨(i6 a.toNat (by omega)).1.trans (if_pos (by omega)).symm, rfl⟩
theorem b_at (hI : Inv W J) {a : Int} (ha : R32 a) {A B : IM Int} {A' : JM Int} {B' : Nat → JM Int} (h0 : SQ A A' W J) (h1 : ∀ b : Nat, a = b → b < jB J → b < 8 → BkJ W J b → SQ B (B' b) W J) : SQ (ib (I12_isBook a) fun v1 => ig (R32 v1) <| if v1 = 0 then A else B) (ib (G11_bookAt a) fun v1 => jcon v1 A' B') W J := by
  have i3 := hI.2.2.1
  refine s_mr (m_isBook ha (by omega) (by omega)) (s_cr (c_bookAt hI ha) (s_mg ifR ?_))
  by_cases c : 0 ≤ a ∧ a < jB J
  · refine s_m0 (by rw [if0]; exact fun q => q (by omega)) ?_
    rw [if_pos c]
    exact h1 a.toNat (by omega) (by omega) (by omega) (hI.2.2.2.2.2.1 _ (by omega))
  · refine s_m1 (by rw [if0]; omega) ?_
    rw [if_neg c]
    exact h0
theorem c_leafCount {b : Nat} (hb : b < jB J) : G0_leafCount b J = some (js J 1 (100 + 4 * b), J) := by
  refine wp_eq ?_
  unfold G0_leafCount
  rw [wp_ib, jp_E, kj_3]
  refine ⟨hb, ?_⟩
  rw [wp_ib, jG1, kj_1, jp_ret]
  exact ⟨Or.inr (Or.inl ⟨by omega, by omega⟩), rfl, rfl⟩
theorem BkJ.lc {b : Nat} (h : BkJ W J b) : js J 1 (100 + 4 * b) = LC (mB W b) ∧ W.2 11 b = LC (mB W b) ∧ 0 ≤ LC (mB W b) ∧ LC (mB W b) ≤ 400 := ⟨h.2.2.1.2.2.2.1.1, h.2.1.2.1, (LC_tot h.2.1.1).1, h.2.1.2.2.1⟩
theorem c_bookWithLeaf (hI : Inv W J) {a p : Int} (ha : R32 a) (hp : R32 p) : G11_bookWithLeaf a p J = some (if (0 ≤ a ∧ a < jB J) ∧ 0 ≤ p ∧ p < W.2 11 a then some a.toNat else none, J) := by
  refine wp_eq ?_
  unfold G11_bookWithLeaf
  rw [wp_ib, wp_ret (c_bookAt hI ha)]
  by_cases c : 0 ≤ a ∧ a < jB J
  · have hb := hI.2.2.2.2.2.1 a.toNat (by omega)
    have l := hb.lc
    have e : ((a.toNat : Nat) : Int) = a := by omega
    rw [e] at l
    rw [if_pos c]
    show wp (ig (R32 p) <| if p < 0 then (jret none) else (ib (jE (3, a.toNat)) fun _ => ib (G0_leafCount a.toNat) fun v3 => ig (R32 v3) <| if p < v3 then (jret (some a.toNat)) else (jret none))) _ J
    rw [wp_ig, wp_ite]
    refine ⟨hp, ?_⟩
    by_cases c0 : p < 0
    · rw [if_pos c0, jp_ret]
      exact ⟨(if_neg (by omega)).symm, rfl⟩
    · rw [if_neg c0, wp_ib, jp_E, kj_3]
      refine ⟨by omega, ?_⟩
      rw [wp_ib, wp_ret (c_leafCount (by omega)), l.1, wp_ig, wp_ite]
      refine ⟨⟨by omega, by omega⟩, ?_⟩
      by_cases c1 : p < LC (mB W a)
      · rw [if_pos c1, jp_ret]
        exact ⟨(if_pos (by omega)).symm, rfl⟩
      · rw [if_neg c1, jp_ret]
        exact ⟨(if_neg (by omega)).symm, rfl⟩
  · rw [if_neg c]
    show wp (jret none) _ J
    rw [jp_ret]
    exact ⟨(if_neg (fun q => c q.1)).symm, rfl⟩
theorem l_at (hI : Inv W J) {a p : Int} (ha : R32 a) (hp : R32 p) {A B : IM Int} {A' : JM Int} {B' : Nat → JM Int} (h0 : SQ A A' W J) (h1 : ∀ b : Nat, a = b → b < jB J → b < 8 → BkJ W J b → 0 ≤ p → p < LC (mB W b) → p < 400 → SQ B (B' b) W J) : SQ (ib (I12_isLeaf a p) fun v1 => ig (R32 v1) <| if v1 = 0 then A else B) (ib (G11_bookWithLeaf a p) fun v1 => jcon v1 A' B') W J := by
  have i3 := hI.2.2.1
  have i6 := hI.2.2.2.2.2.1
  refine s_mr (m_isLeaf ha hp (by omega) (by omega) fun a0 a1 => ?_) (s_cr (c_bookWithLeaf hI ha hp) (s_mg ifR ?_))
  · have l := (i6 a.toNat (by omega)).lc
    have e : ((a.toNat : Nat) : Int) = a := by omega
    rw [e] at l
    rw [l.2.1]
    exact l.2.2
  · by_cases c : (0 ≤ a ∧ a < jB J) ∧ 0 ≤ p ∧ p < W.2 11 a
    · have l := (i6 a.toNat (by omega)).lc
      have e : ((a.toNat : Nat) : Int) = a := by omega
      refine s_m0 (by rw [if0]; exact fun q => q (by omega)) ?_
      rw [if_pos c]
      refine h1 a.toNat (by omega) (by omega) (by omega) (i6 _ (by omega)) c.2.1 ?_ ?_
      · rw [← l.2.1, e]; exact c.2.2
      · rw [e] at l; have := c.2.2; omega
    · refine s_m1 (by rw [if0]; omega) ?_
      rw [if_neg c]
      exact h0
theorem c_copyAt (hI : Inv W J) {a : Int} (ha : R32 a) : G11_copyAt a J = some (if 0 ≤ a ∧ a < jC J then some a.toNat else none, J) := by
  obtain ⟨i1, i2, i3, i4, i5, i6, i7⟩ := hI
  refine wp_eq ?_
  unfold G11_copyAt
  rw [wp_ig, wp_ite]
  refine ⟨ha, ?_⟩
  by_cases c : a < 0
  · rw [if_pos c, jp_ret]
    exact ⟨(if_neg (by omega)).symm, rfl⟩
  · rw [if_neg c, wp_ib, jG9, i4.1, i4.2.1, wp_ig, wp_ite]
    refine ⟨⟨by omega, by omega⟩, ?_⟩
    by_cases c2 : (jC J : Int) ≤ a
    · rw [if_pos c2, jp_ret]
      exact ⟨(if_neg (by omega)).symm, rfl⟩
    · rw [if_neg c2, wp_ite]
      refine ite_p (by omega) ?_
      rw [wp_ib, jp_Ck]
      refine ⟨⟨by omega, by omega⟩, ?_⟩
      rw [jp_ret]
      obtain ⟨b, -, -, q⟩ := i7 a.toNat (by omega)
      exact ⟨q.1.trans (if_pos (by omega)).symm, rfl⟩
theorem k_at (hI : Inv W J) {a : Int} (ha : R32 a) {A B : IM Int} {A' : JM Int} {B' : Nat → JM Int} (h0 : SQ A A' W J) (h1 : ∀ c : Nat, a = c → c < jC J → c < 16 → CpJ W J c → SQ B (B' c) W J) : SQ (ib (I12_isCopy a) fun v1 => ig (R32 v1) <| if v1 = 0 then A else B) (ib (G11_copyAt a) fun v1 => jcon v1 A' B') W J := by
  have i4 := hI.2.2.2.1
  refine s_mr (m_isCopy ha (by omega) (by omega)) (s_cr (c_copyAt hI ha) (s_mg ifR ?_))
  by_cases c : 0 ≤ a ∧ a < jC J
  · refine s_m0 (by rw [if0]; exact fun q => q (by omega)) ?_
    rw [if_pos c]
    exact h1 a.toNat (by omega) (by omega) (by omega) (hI.2.2.2.2.2.2 _ (by omega))
  · refine s_m1 (by rw [if0]; omega) ?_
    rw [if_neg c]
    exact h0
/-! ===== the least methods ===== -/
theorem p_place (hI : Inv W J) : SQ I12_place G11_place W J := by
  unfold I12_place G11_place
  refine s_m ?_
  rw [wp_igI]
  refine s_c ?_
  rw [jG5]
  exact s_ret hI.2.2.2.2.1.1 hI
theorem p_fault (hI : Inv W J) : SQ I12_fault G11_fault W J := by
  unfold I12_fault G11_fault
  refine s_m ?_
  rw [wp_igI]
  refine s_c ?_
  rw [jG10]
  exact s_ret hI.2.2.2.2.1.2.1 hI
theorem p_status (hI : Inv W J) : SQ I12_status G11_status W J := by
  unfold I12_status G11_status
  refine s_m ?_
  rw [wp_igI]
  refine s_c ?_
  rw [jG11]
  exact s_ret hI.2.2.2.2.1.2.2 hI
theorem p_count (hI : Inv W J) {a : Int} (ha : R32 a) : SQ (I12_count a) (G11_count a) W J := by
  unfold I12_count G11_count
  refine s_mg ha (s_cg ha ?_)
  by_cases c0 : a = 0
  · refine s_m1 c0 (s_c1 c0 (s_m ?_))
    rw [wp_igI]
    refine s_c ?_
    rw [jG8]
    exact s_fine hI hI.2.2.1.1
  · refine s_m0 c0 (s_c0 c0 ?_)
    by_cases c1 : a = 1
    · refine s_m1 c1 (s_c1 c1 (s_m ?_))
      rw [wp_igI]
      refine s_c ?_
      rw [jG9]
      exact s_fine hI hI.2.2.2.1.1
    · refine s_m0 c1 (s_c0 c1 ?_)
      by_cases c2 : a = 2
      · refine s_m1 c2 (s_c1 c2 (s_m ?_))
        rw [wp_igI]
        refine s_c ?_
        rw [jG2]
        exact s_fine hI hI.2.1.1
      · exact s_m0 c2 (s_c0 c2 (s_no hI))
theorem TpR.cut {T : Int → Int} {n a : Int} (h : TpR J T n) (h0 : 0 ≤ a) (h1 : a ≤ n) : TpR (ju1 J 2 0 a) T a := by
  obtain ⟨t1, t2, t3⟩ := h
  have t21 := t2.1
  exact ⟨by rw [ju1_s, if_pos ⟨rfl, rfl⟩], ⟨by omega, fun i i0 i1 => t2.2 i i0 (by omega)⟩, fun i i0 i1 => t3 i i0 (by omega)⟩
theorem p_end (hI : Inv W J) {a : Int} (ha : R32 a) : SQ (I12_end a) (G11_end a) W J := by
  obtain ⟨i1, i2, i3, i4, i5, i6, i7⟩ := id hI
  have hn := i2.2.1.1
  unfold I12_end G11_end
  refine s_m ?_
  rw [wp_igI]
  refine s_mr (m_isIn ha (by decide) ⟨by omega, by omega⟩) (s_mg ifR (s_cg ha ?_))
  by_cases c0 : a < 0
  · refine s_m1 (by rw [if0]; omega) (s_c1 c0 ?_)
    exact s_no hI
  · refine s_c0 c0 (s_c ?_)
    rw [jG2, i2.1]
    refine s_cg ⟨by omega, by omega⟩ ?_
    by_cases c1 : a ≤ W.1 1
    · refine s_m0 (by rw [if0]; exact fun q => q (by omega)) (s_c1 c1 (s_m ?_))
      rw [wp_ipI]
      have e : G10_cutTo a J = some ((), ju1 J 2 0 a) := by
        refine wp_eq ?_
        unfold G10_cutTo
        rw [wp_ib, jP2, jp_ret]
        exact ⟨rfl, rfl⟩
      refine s_cr e (s_fine ?_ rfl)
      refine hI.same ?_ (by rw [iu1_1, if_neg (by omega)]) (by rw [iu1_1, if_neg (by omega)]) ⟨by rw [ju1_s, if_neg (by omega)], by rw [ju1_s, if_neg (by omega)]⟩ ⟨?_, ?_, ?_⟩ ⟨rfl, rfl⟩ (JKp.u (by omega)) (WKp.same fun _ _ => rfl)
      · rw [iu1_1, if_pos rfl]
        exact i2.cut (by omega) c1
      · rw [ju1_s, if_neg (by omega), iu1_1, if_neg (by omega), i5.1]
      · rw [ju1_s, if_neg (by omega), iu1_1, if_neg (by omega), i5.2.1]
      · rw [ju1_s, if_neg (by omega), iu1_1, if_neg (by omega), i5.2.2]
    · refine s_m1 (by rw [if0]; omega) (s_c0 c1 ?_)
      exact s_no hI
theorem p_gatherings (hI : Inv W J) {a : Int} (ha : R32 a) : SQ (I12_gatherings a) (G11_gatherings a) W J := by
  unfold I12_gatherings G11_gatherings
  refine b_at hI ha (s_no hI) fun b e hb h8 hB => ?_
  refine s_m ?_
  rw [wA6]
  refine ⟨⟨by omega, by omega⟩, s_c ?_⟩
  rw [jp_E, kj_3]
  refine ⟨hb, s_c ?_⟩
  rw [jG6, kj_2]
  refine ⟨by omega, s_fine hI ?_⟩
  rw [e]
  exact hB.2.2.1.1.1
theorem p_leaves (hI : Inv W J) {a : Int} (ha : R32 a) : SQ (I12_leaves a) (G11_leaves a) W J := by
  unfold I12_leaves G11_leaves
  refine b_at hI ha (s_no hI) fun b e hb h8 hB => ?_
  refine s_m ?_
  rw [wA11]
  refine ⟨⟨by omega, by omega⟩, s_c ?_⟩
  rw [jp_E, kj_3]
  refine ⟨hb, s_cr (c_leafCount hb) (s_fine hI ?_)⟩
  have l := hB.lc
  rw [e, l.1, l.2.1]
end SMS
