/-! ===== feed: twenty bytes more ===== -/
theorem q_b255 (x : Int32) : x.toInt8.toInt32 &&& 255 = x &&& 255 := by
  apply Int32.toBitVec_inj.mp
  rw [Int32.toBitVec_and, Int32.toBitVec_and, Int8.toBitVec_toInt32, Int32.toBitVec_toInt8]
  apply BitVec.eq_of_getLsbD_eq
  intro i hi
  rw [BitVec.getLsbD_and, BitVec.getLsbD_and]
  have hm : ∀ i < 32, 8 ≤ i → (255 : Int32).toBitVec.getLsbD i = false := by decide
  by_cases h : i < 8
  · rw [BitVec.getLsbD_signExtend, BitVec.getLsbD_signExtend, if_pos h, if_pos hi]
    simp only [h, hi, decide_true, Bool.true_and]
  · rw [hm i hi (by omega)]; simp
theorem q_m255 (y : Int32) : 0 ≤ (y &&& 255).toInt ∧ (y &&& 255).toInt ≤ 255 := by
  have h1 : (y &&& 255).toBitVec.toNat ≤ 255 := by
    rw [Int32.toBitVec_and, BitVec.toNat_and]
    exact Nat.le_trans Nat.and_le_right (by decide)
  have h2 : (y &&& 255).toInt = (y &&& 255).toBitVec.toNat := by
    show (y &&& 255).toBitVec.toInt = _
    rw [BitVec.toInt_eq_toNat_cond, if_pos (by omega)]
  omega
theorem q_b8 (x : Int) : iAnd (iB8 x) 255 = iAnd x 255 := by
  show (iI (iB8 x) &&& iI 255).toInt = (iI x &&& iI 255).toInt
  rw [show iI (iB8 x) = (iI x).toInt8.toInt32 from (eT _).symm]
  show ((iI x).toInt8.toInt32 &&& 255).toInt = (iI x &&& 255).toInt
  rw [q_b255]
theorem q_by (x : Int) : 0 ≤ iAnd x 255 ∧ iAnd x 255 ≤ 255 := q_m255 (iI x)
theorem q_mod4 {q r : Int} (hq : 0 ≤ q) (h0 : 0 ≤ r) (h1 : r < 4) : (4 * q + r) - (4 * q + r).tdiv 4 * 4 = r := by
  rw [Int.tdiv_eq_ediv_of_nonneg (by omega)]
  omega
section FED
variable {W : IS} {J : JS}
/-- only the tape is written -/
def FrTm (W W' : IS) : Prop := (∀ k, k ≠ 1 → W'.1 k = W.1 k) ∧ ∀ k, k ≠ 0 → W'.2 k = W.2 k
def FrTc (J J' : JS) : Prop := (∀ t i, t ≠ 2 → js J' t i = js J t i) ∧ (∀ t i, t ≠ 2 → ja J' t i = ja J t i) ∧ J'.2.2 = J.2.2
/-- one byte more -/
theorem TpR.by1 {n z : Int} (h : TpR J (W.2 0) (W.1 1)) (hn : W.1 1 = n) (h1 : n < 120) : TpR (ju2 (ju1 J 2 0 (n + 1)) 2 0 n (iB8 (iB8 z))) ((iu1 (iu2 W 0 n (iAnd z 255)) 1 (n + 1)).2 0) ((iu1 (iu2 W 0 n (iAnd z 255)) 1 (n + 1)).1 1) := by
  obtain ⟨t1, ⟨t2, t3⟩, t4⟩ := h
  have hb := q_by z
  refine ⟨?_, ⟨?_, fun i i0 i1 => ?_⟩, fun i i0 i1 => ?_⟩
  · rw [ju2_s, ju1_s, if_pos ⟨rfl, rfl⟩, iu1_1, if_pos rfl]
  · rw [iu1_1, if_pos rfl]; omega
  · rw [iu1_1, if_pos rfl] at i1
    rw [iu1_2, iu2_2]
    by_cases c : i = n
    · rw [if_pos ⟨rfl, c⟩]; exact hb
    · rw [if_neg (fun q => c q.2)]; exact t3 i i0 (by omega)
  · rw [iu1_1, if_pos rfl] at i1
    rw [iu1_2, iu2_2, ju2_a]
    by_cases c : i = n
    · rw [if_pos ⟨rfl, rfl, c⟩, if_pos ⟨rfl, c⟩, q_b8, q_b8]
    · rw [if_neg (fun q => c q.2.2), if_neg (fun q => c q.2)]
      exact t4 i i0 (by omega)
def wd5 (a b c d e q : Int) : Int := if 4 ≤ q then e else if 3 ≤ q then d else if 2 ≤ q then c else if 1 ≤ q then b else a
theorem m_fd1 {m : Nat} {a b c d e v n r q x x' : Int} (hx : x = 4 * q + r) (hx' : x' = x + 1) (hq : 0 ≤ q ∧ q < 5) (h0 : 0 ≤ r ∧ r < 4) (hn : W.1 1 = n) (h1 : 0 ≤ n ∧ n < 120) (hv : v = wd5 a b c d e q) {Q : Int → IS → Prop} (hk : wp (I12_feed_22 m a b c d e x') Q (iu1 (iu2 W 0 n (iAnd (iShr v (24 - 8 * r)) 255)) 1 (n + 1))) : wp (I12_feed_22 (m + 1) a b c d e x) Q W := by
  have e4 : x - x.tdiv 4 * 4 = r := by rw [hx]; exact q_mod4 hq.1 h0.1 h0.2
  have key : wp (I12_feed_75 (I12_feed_22 m) a b c d e x v) Q W := by
    unfold I12_feed_75
    rw [wp_ib, wp_igI, wp_ib, wp_irI, e4]
    refine ⟨⟨by decide, by omega, by omega, by decide⟩, ?_⟩
    rw [wp_ib, wS0, hn]
    refine ⟨h1, ?_⟩
    rw [wp_ib, wp_igI, wp_ib, wp_ipI, iu2_1, hn, ← hx']
    exact hk
  show wp (I12_feed_22_st (I12_feed_22 m) a b c d e x) Q W
  unfold I12_feed_22_st
  rw [wp_ig, if_neg (show ¬ 20 ≤ x by omega)]
  refine ⟨⟨by omega, by omega⟩, ?_⟩
  unfold wd5 at hv
  by_cases c4 : 4 ≤ x
  · rw [if_pos c4]
    by_cases c8 : 8 ≤ x
    · rw [if_pos c8]
      by_cases c12 : 12 ≤ x
      · rw [if_pos c12]
        by_cases c16 : 16 ≤ x
        · rw [if_pos (show 4 ≤ q by omega)] at hv
          rw [if_pos c16]
          exact hv ▸ key
        · rw [if_neg (show ¬ 4 ≤ q by omega), if_pos (show 3 ≤ q by omega)] at hv
          rw [if_neg c16]
          exact hv ▸ key
      · rw [if_neg (show ¬ 4 ≤ q by omega), if_neg (show ¬ 3 ≤ q by omega), if_pos (show 2 ≤ q by omega)] at hv
        rw [if_neg c12]
        exact hv ▸ key
    · rw [if_neg (show ¬ 4 ≤ q by omega), if_neg (show ¬ 3 ≤ q by omega), if_neg (show ¬ 2 ≤ q by omega), if_pos (show 1 ≤ q by omega)] at hv
      rw [if_neg c8]
      exact hv ▸ key
  · rw [if_neg (show ¬ 4 ≤ q by omega), if_neg (show ¬ 3 ≤ q by omega), if_neg (show ¬ 2 ≤ q by omega), if_neg (show ¬ 1 ≤ q by omega)] at hv
    rw [if_neg c4]
    exact hv ▸ key
theorem c_fd1 {m : Nat} {v s s' n : Int} (hs : 0 ≤ s ∧ s ≤ 24) (hs' : s' = s - 8) (hn : js J 2 0 = n) (h1 : 0 ≤ n ∧ n < 120) {Q : Unit → JS → Prop} (h : wp (G10_addWord_3 m v s') Q (ju2 (ju1 J 2 0 (n + 1)) 2 0 n (iB8 (iB8 (iShr v s))))) : wp (G10_addWord_3 (m + 1) v s) Q J := by
  have e : s + (-8) = s' := by omega
  show wp (G10_addWord_3_st (G10_addWord_3 m) v s) Q J
  unfold G10_addWord_3_st G10_addWord_39
  rw [wp_ig, wp_ite, if_neg (show ¬ s < 0 by omega), wp_ib, jG2, hn, wp_ib, wn2, wp_ig, wp_ig, wp_ite, if_neg (show ¬ 120 ≤ n by omega), wp_ib, jG2, hn, wp_ib, jP2, wp_ib, wk2, e]
  exact ⟨⟨by omega, by omega⟩, by decide, ⟨by omega, by omega⟩, h1, h⟩
theorem f_1 {v r : Int} (h0 : 0 ≤ r ∧ r < 4) (hT : TpR J (W.2 0) (W.1 1)) (hn : W.1 1 < 120) : ∃ W' J', FrTm W W' ∧ FrTc J J' ∧ TpR J' (W'.2 0) (W'.1 1) ∧ W'.1 1 = W.1 1 + 1 ∧ (∀ m a b c d e q x x' Q, x = 4 * q + r → x' = x + 1 → 0 ≤ q ∧ q < 5 → v = wd5 a b c d e q → wp (I12_feed_22 m a b c d e x') Q W' → wp (I12_feed_22 (m + 1) a b c d e x) Q W) ∧ (∀ m s s' R, s = 24 - 8 * r → s' = s - 8 → wp (G10_addWord_3 m v s') R J' → wp (G10_addWord_3 (m + 1) v s) R J) := by
  have t2 := hT.2.1.1
  refine ⟨iu1 (iu2 W 0 (W.1 1) (iAnd (iShr v (24 - 8 * r)) 255)) 1 (W.1 1 + 1), ju2 (ju1 J 2 0 (W.1 1 + 1)) 2 0 (W.1 1) (iB8 (iB8 (iShr v (24 - 8 * r)))), ⟨fun k hk => ?_, fun k hk => ?_⟩, ⟨fun t i ht => ?_, fun t i ht => ?_, rfl⟩, hT.by1 rfl hn, ?_, fun m a b c d e q x x' Q hx hx' hq hv h => m_fd1 hx hx' hq h0 rfl ⟨t2.1, hn⟩ hv h, fun m s s' R hs hs' h => ?_⟩
  · rw [iu1_1, if_neg hk]
    rfl
  · funext l
    rw [iu1_2, iu2_2, if_neg (fun q => hk q.1)]
  · rw [ju2_s, ju1_s, if_neg (fun q => ht q.1)]
  · funext l
    rw [ju2_a, if_neg (fun q => ht q.1)]
    rfl
  · rw [iu1_1, if_pos rfl]
  · subst hs
    exact c_fd1 ⟨by omega, by omega⟩ hs' hT.1 ⟨t2.1, hn⟩ h
theorem FrTm.trans {W1 W2 W3 : IS} (h : FrTm W1 W2) (h' : FrTm W2 W3) : FrTm W1 W3 := ⟨fun k hk => (h'.1 k hk).trans (h.1 k hk), fun k hk => (h'.2 k hk).trans (h.2 k hk)⟩
theorem FrTc.trans {J1 J2 J3 : JS} (h : FrTc J1 J2) (h' : FrTc J2 J3) : FrTc J1 J3 := ⟨fun t i ht => (h'.1 t i ht).trans (h.1 t i ht), fun t i ht => (h'.2.1 t i ht).trans (h.2.1 t i ht), h'.2.2.trans h.2.2⟩
/-- four bytes more -/
theorem f_4 (v : Int) (hT : TpR J (W.2 0) (W.1 1)) (hn : W.1 1 + 4 ≤ 120) : ∃ W' J', FrTm W W' ∧ FrTc J J' ∧ TpR J' (W'.2 0) (W'.1 1) ∧ W'.1 1 = W.1 1 + 4 ∧ (∀ m a b c d e q x x' Q, x = 4 * q → x' = x + 4 → 0 ≤ q ∧ q < 5 → v = wd5 a b c d e q → wp (I12_feed_22 m a b c d e x') Q W' → wp (I12_feed_22 (m + 4) a b c d e x) Q W) ∧ (∀ R : Unit → JS → Prop, R () J' → wp (G10_addWord v) R J) := by
  obtain ⟨W1, J1, a1, a2, a3, a4, a5, a6⟩ := f_1 (v := v) (r := 0) (by omega) hT (by omega)
  obtain ⟨W2, J2, b1, b2, b3, b4, b5, b6⟩ := f_1 (v := v) (r := 1) (by omega) a3 (by omega)
  obtain ⟨W3, J3, c1, c2, c3, c4, c5, c6⟩ := f_1 (v := v) (r := 2) (by omega) b3 (by omega)
  obtain ⟨W4, J4, d1, d2, d3, d4, d5, d6⟩ := f_1 (v := v) (r := 3) (by omega) c3 (by omega)
  refine ⟨W4, J4, ((a1.trans b1).trans c1).trans d1, ((a2.trans b2).trans c2).trans d2, d3, by omega, fun m a b c d e q x x' Q hx hx' hq hv h => ?_, fun R h => ?_⟩
  · refine a5 (m + 3) a b c d e q x (x + 1) Q (by omega) rfl hq hv ?_
    refine b5 (m + 2) a b c d e q (x + 1) (x + 2) Q (by omega) (by omega) hq hv ?_
    refine c5 (m + 1) a b c d e q (x + 2) (x + 3) Q (by omega) (by omega) hq hv ?_
    exact d5 m a b c d e q (x + 3) x' Q (by omega) (by omega) hq hv h
  · have key : ∀ m : Nat, wp (G10_addWord_3 (m + 5) v 24) R J := fun m => by
      refine a6 (m + 4) 24 16 R (by omega) (by omega) ?_
      refine b6 (m + 3) 16 8 R (by omega) (by omega) ?_
      refine c6 (m + 2) 8 0 R (by omega) (by omega) ?_
      refine d6 (m + 1) 0 (-8) R (by omega) (by omega) ?_
      show wp (G10_addWord_3_st (G10_addWord_3 m) v (-8)) R J4
      unfold G10_addWord_3_st
      rw [wp_ig, wp_ite, if_pos (by decide), jp_ret]
      exact ⟨by decide, h⟩
    exact key 19995
theorem p_feed (hI : Inv W J) {a b c d e : Int} : SQ (I12_feed a b c d e) (G11_feed a b c d e) W J := by
  obtain ⟨i1, i2, i3, i4, i5, i6, i7⟩ := id hI
  have hn := i2.2.1.1
  have hr : G10_hasRoom 20 J = some (if W.1 1 + 20 ≤ 120 then 1 else 0, J) := by
    refine wp_eq ?_
    unfold G10_hasRoom
    rw [wp_ib, jG2, i2.1, wp_ib, wn2, wp_ig, wp_ig, wp_ite]
    refine ⟨by decide, ⟨by omega, by omega⟩, ?_⟩
    by_cases c : W.1 1 + 20 ≤ 120
    · rw [if_neg (show ¬ 120 < W.1 1 + 20 by omega), if_pos c, jp_ret]
      exact ⟨rfl, rfl⟩
    · rw [if_pos (show 120 < W.1 1 + 20 by omega), if_neg c, jp_ret]
      exact ⟨rfl, rfl⟩
  unfold I12_feed G11_feed
  refine s_m ?_
  rw [wp_igI]
  refine s_mg ⟨by omega, by omega⟩ (s_cr hr (s_cg ifR ?_))
  by_cases c20 : W.1 1 + 20 ≤ 120
  · refine s_m1 c20 (s_c0 (by rw [if0]; exact fun q => q c20) ?_)
    obtain ⟨W1, J1, a1, a2, a3, a4, a5, a6⟩ := f_4 a i2 (by omega)
    obtain ⟨W2, J2, b1, b2, b3, b4, b5, b6⟩ := f_4 b a3 (by omega)
    obtain ⟨W3, J3, c1, c2, c3, c4, c5, c6⟩ := f_4 c b3 (by omega)
    obtain ⟨W4, J4, d1, d2, d3, d4, d5, d6⟩ := f_4 d c3 (by omega)
    obtain ⟨W5, J5, e1, e2, e3, e4, e5, e6⟩ := f_4 e d3 (by omega)
    have fm := (((a1.trans b1).trans c1).trans d1).trans e1
    have fc := (((a2.trans b2).trans c2).trans d2).trans e2
    have hI5 : Inv W5 J5 := by
      refine hI.same e3 (fm.1 5 (by omega)) (fm.1 15 (by omega)) ⟨fc.1 8 0 (by omega), fc.1 9 0 (by omega)⟩ ⟨?_, ?_, ?_⟩ ⟨jB_r fc.2.2, jC_r fc.2.2⟩ (JKp.same fc.2.2 (fun t i h => fc.1 t i (by omega)) fun t i h => fc.2.1 t i (by omega)) (WKp.same fun k hk => fm.2 k (by omega))
      · rw [fc.1 5 0 (by omega), fm.1 3 (by omega), i5.1]
      · rw [fc.1 10 0 (by omega), fm.1 4 (by omega), i5.2.1]
      · rw [fc.1 11 0 (by omega), fm.1 2 (by omega), i5.2.2]
    have hm : ∀ (m : Nat) (Q : Int → IS → Prop), wp (I12_feed_22 (m + 1) a b c d e 20) Q W5 → wp (I12_feed_22 (m + 21) a b c d e 0) Q W := fun m Q h => by
      refine a5 (m + 17) a b c d e 0 0 4 Q (by omega) (by omega) (by omega) rfl ?_
      refine b5 (m + 13) a b c d e 1 4 8 Q (by omega) (by omega) (by omega) rfl ?_
      refine c5 (m + 9) a b c d e 2 8 12 Q (by omega) (by omega) (by omega) rfl ?_
      refine d5 (m + 5) a b c d e 3 12 16 Q (by omega) (by omega) (by omega) rfl ?_
      exact e5 (m + 1) a b c d e 4 16 20 Q (by omega) (by omega) (by omega) rfl h
    have hend : ∀ (m : Nat) (Q : Int → IS → Prop), wp I12_feed_119 Q W5 → wp (I12_feed_22 (m + 1) a b c d e 20) Q W5 := fun m Q h => by
      show wp (I12_feed_22_st (I12_feed_22 m) a b c d e 20) Q W5
      unfold I12_feed_22_st
      rw [wp_ig, if_pos (by decide)]
      exact ⟨by decide, h⟩
    refine ⟨trivial, ?_⟩
    unfold Sm2
    refine hm 19979 _ (hend _ _ ?_)
    have key : SQ I12_feed_119 (ib (jG 2 0) fun v3 => ib (G11_answer v3) fun v4 => jret v4) W5 J5 := by
      unfold I12_feed_119
      refine s_m ?_
      rw [wp_igI]
      refine s_c ?_
      rw [jG2]
      exact s_fine hI5 e3.1
    refine wp_mono key.2 fun r W' q => ?_
    rw [wp_ib]
    refine a6 _ ?_
    rw [wp_ib]
    refine b6 _ ?_
    rw [wp_ib]
    refine c6 _ ?_
    rw [wp_ib]
    refine d6 _ ?_
    rw [wp_ib]
    exact e6 _ q
  · refine s_m0 c20 (s_c1 (by rw [if0]; exact c20) ?_)
    exact s_no hI
end FED
