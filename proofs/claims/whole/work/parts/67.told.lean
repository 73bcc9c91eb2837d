/-! ===== state, entry, told ===== -/
def tlF (E cj R : Int → Int) (m mx w : Int) : Int → Int := if w = 2 then t2E E m else if w = 3 then t3E E m else if w = 4 then t4E E R mx else t5E E cj m
def tlN (n m w : Int) : Int := if w = 4 then m else n
/-- the model has looked -/
def LkQ (W : IS) (b c : Nat) (E R : Int → Int) (m mx : Int) : Prop := W.2 16 (c : Int) = b ∧ W.2 17 (c : Int) = m ∧ BkI W (b : Int) ∧ (0 ≤ m ∧ m ≤ 400) ∧ (b < 8 ∧ c < 16) ∧ (∀ p, 0 ≤ p → p < LC (mB W b) → W.2 39 p = tmE E m p) ∧ (∀ i, 0 ≤ i → i < m → W.2 41 i = if rst E R mx i.toNat then 1 else 0) ∧ ∀ i, 0 ≤ i → i < m → W.2 18 ((c : Int) * 400 + i) = E i ∧ 0 ≤ E i ∧ E i < LC (mB W b)
section TLD
variable {W : IS} {J : JS} {E R : Int → Int} {m mx w : Int} {b c : Nat}
theorem b_tl {cj : Int → Int} : b01 (tlF E cj R m mx w) := by
  unfold tlF
  split
  · exact b2
  · split
    · exact b3
    · split
      · exact b4
      · exact b5
theorem tlN_bd {n : Int} (hn : 0 ≤ n ∧ n ≤ 400) (hm : 0 ≤ m ∧ m ≤ 400) : 0 ≤ tlN n m w ∧ tlN n m w ≤ 400 := by
  unfold tlN
  split <;> omega
theorem m_isTold (h : LkQ W b c E R m mx) (hw : 2 ≤ w ∧ w ≤ 5) {k : Int} (k0 : 0 ≤ k) (k1 : k < tlN (LC (mB W b)) m w) : I12_isTold c w k W = some (tlF E (cjC W b) R m mx w k, W) := by
  obtain ⟨h16, h17, hI, hm, ⟨hb8, hc⟩, h39, h41, h18⟩ := h
  have h4 := hI.2.2.1
  have hL := (LC_tot hI.1).1
  refine wp_eq ?_
  unfold I12_isTold
  rw [wp_ib, wA16, h16, wp_ig, wp_ite]
  refine ⟨⟨by omega, by omega⟩, ⟨by omega, by omega⟩, ?_⟩
  unfold tlF
  unfold tlN at k1
  by_cases w2 : w = 2
  · rw [if_neg (by omega)] at k1
    have ht := tmE_bd (E := E) hm k
    rw [if_pos w2, if_pos w2, wp_ib, wA39, h39 k k0 k1, wp_ig, wp_ite]
    refine ⟨⟨k0, by omega⟩, ⟨by omega, by omega⟩, ?_⟩
    unfold t2E
    by_cases z : tmE E m k = 0
    · rw [if_pos z, if_pos z, wp_ir]
      exact ⟨rfl, rfl⟩
    · rw [if_neg z, if_neg z, wp_ir]
      exact ⟨rfl, rfl⟩
  · rw [if_neg w2, if_neg w2, wp_ite]
    by_cases w3 : w = 3
    · rw [if_neg (by omega)] at k1
      have ht := tmE_bd (E := E) hm k
      rw [if_pos w3, if_pos w3, wp_ib, wA39, h39 k k0 k1, wp_ig, wp_ite]
      refine ⟨⟨k0, by omega⟩, ⟨by omega, by omega⟩, ?_⟩
      unfold t3E
      by_cases z : tmE E m k ≤ 1
      · rw [if_pos z, if_pos z, wp_ir]
        exact ⟨rfl, rfl⟩
      · rw [if_neg z, if_neg z, wp_ir]
        exact ⟨rfl, rfl⟩
    · rw [if_neg w3, if_neg w3, wp_ite]
      by_cases w4 : w = 4
      · rw [if_pos w4] at k1
        rw [if_pos w4, if_pos w4, wp_ib, wZ41, h41 k k0 k1, wp_ig, wp_ite]
        refine ⟨⟨k0, by omega⟩, ifR, ?_⟩
        unfold t4E
        by_cases z : rst E R mx k.toNat
        · rw [if_pos z, if_neg (by decide), if_pos z, wp_ir]
          exact ⟨rfl, rfl⟩
        · rw [if_neg z, if_pos rfl, if_neg z, wp_ir]
          exact ⟨rfl, rfl⟩
      · rw [if_neg w4] at k1
        have ht := tmE_bd (E := E) hm k
        rw [if_neg w4, if_neg w4, wp_ib]
        refine m_conjugate (by omega) (by omega) hI k0 k1 fun q hq => ?_
        have eq' : q = cjC W b k := by
          unfold cjC
          rw [if_pos ⟨k0, k1⟩]
          exact cjg_Q hq
        have hqb : q = -1 ∨ (0 ≤ q ∧ q < LC (mB W b)) := by
          rcases hq with ⟨-, -, hA, -⟩ | ⟨hA, -⟩
          · exact Or.inr (LC_bd hI.1 hA)
          · exact Or.inl hA
        rw [wp_ib, wA39, h39 k k0 k1, wp_ig, wp_ite]
        refine ⟨⟨k0, by omega⟩, ⟨by omega, by omega⟩, ?_⟩
        unfold t5E
        rw [← eq']
        by_cases z : tmE E m k ≤ 0
        · rw [if_pos z, if_pos z, wp_ir]
          exact ⟨rfl, rfl⟩
        · rw [if_neg z, if_neg z, wp_ig, wp_ite]
          refine ⟨⟨by omega, by omega⟩, ?_⟩
          by_cases z2 : q < 0
          · rw [if_pos z2, if_pos z2, wp_ir]
            exact ⟨rfl, rfl⟩
          · have htq := tmE_bd (E := E) hm q
            rw [if_neg z2, if_neg z2, wp_ib, wA39, h39 q (by omega) (by omega), wp_ig, wp_ite]
            refine ⟨⟨by omega, by omega⟩, ⟨by omega, by omega⟩, ?_⟩
            by_cases z3 : tmE E m q = 0
            · rw [if_pos z3, if_pos z3, wp_ir]
              exact ⟨rfl, rfl⟩
            · rw [if_neg z3, if_neg z3, wp_ir]
              exact ⟨rfl, rfl⟩
theorem m_many (h : LkQ W b c E R m mx) (hw : R32 w) : I12_many c w W = some (tlN (LC (mB W b)) m w, W) := by
  obtain ⟨h16, h17, hI, hm, ⟨hb8, hc⟩, -⟩ := h
  refine wp_eq ?_
  unfold I12_many tlN
  rw [wp_ig, wp_ite]
  refine ⟨hw, ?_⟩
  by_cases k : w = 4
  · rw [if_pos k, if_pos k, wp_ib, wA17, wp_ir]
    exact ⟨⟨by omega, by omega⟩, h17, rfl⟩
  · rw [if_neg k, if_neg k, wp_ib, wA16, h16, wp_ib, wA11, wp_ir]
    exact ⟨⟨by omega, by omega⟩, ⟨by omega, by omega⟩, hI.2.1, rfl⟩
theorem m_cT5 (h : LkQ W b c E R m mx) (hw : 2 ≤ w ∧ w ≤ 5) : ∀ (d k : Nat) (a x : Int), d < k → 0 ≤ x → x + d = tlN (LC (mB W b)) m w → I12_countTold_5 k c w a x W = some (a + smz (tlF E (cjC W b) R m mx w) d x, W) := by
  have hN := tlN_bd (w := w) ⟨(LC_tot h.2.2.1.1).1, h.2.2.1.2.2.1⟩ h.2.2.2.1
  intro d
  induction d with
  | zero =>
    intro k a x hk x0 x1
    cases k with
    | zero => omega
    | succ k =>
      refine wp_eq ?_
      unfold I12_countTold_5 I12_countTold_5_st
      rw [wp_ib, wp_ret (m_many h ⟨by omega, by omega⟩), wp_ig, wp_ig, wp_ite, if_pos (show tlN (LC (mB W b)) m w ≤ x by omega), wp_ir]
      exact ⟨⟨by omega, by omega⟩, ⟨by omega, by omega⟩, by simp [smz], rfl⟩
  | succ d ih =>
    intro k a x hk x0 x1
    cases k with
    | zero => omega
    | succ k =>
      refine wp_eq ?_
      unfold I12_countTold_5 I12_countTold_5_st I12_countTold_33
      rw [wp_ib, wp_ret (m_many h ⟨by omega, by omega⟩), wp_ig, wp_ig, wp_ite, if_neg (show ¬ tlN (LC (mB W b)) m w ≤ x by omega), wp_ib, wp_ret (m_isTold h hw x0 (by omega)), wp_ig, wp_ite]
      have hb := b_tl (E := E) (R := R) (m := m) (mx := mx) (w := w) (cj := cjC W b) x
      refine ⟨⟨by omega, by omega⟩, ⟨by omega, by omega⟩, ⟨by omega, by omega⟩, ?_⟩
      have e : smz (tlF E (cjC W b) R m mx w) (d + 1) x = tlF E (cjC W b) R m mx w x + smz (tlF E (cjC W b) R m mx w) d (x + 1) := rfl
      rw [e]
      by_cases z : tlF E (cjC W b) R m mx w x = 0
      · rw [if_pos z, wp_ret (ih k _ (x + 1) (by omega) (by omega) (by omega))]
        exact ⟨by omega, rfl⟩
      · rw [if_neg z, wp_ret (ih k _ (x + 1) (by omega) (by omega) (by omega))]
        exact ⟨by omega, rfl⟩
theorem m_countTold (h : LkQ W b c E R m mx) (hw : 2 ≤ w ∧ w ≤ 5) : I12_countTold c w W = some (cnT (tlF E (cjC W b) R m mx w) (tlN (LC (mB W b)) m w), W) := by
  have hN := tlN_bd (w := w) ⟨(LC_tot h.2.2.1.1).1, h.2.2.1.2.2.1⟩ h.2.2.2.1
  unfold I12_countTold
  rw [m_cT5 h hw (tlN (LC (mB W b)) m w).toNat LFU 0 0 (Nat.lt_of_le_of_lt (show (tlN (LC (mB W b)) m w).toNat ≤ 400 by omega) (by decide)) (Int.le_refl _) (by omega), Int.zero_add]
  rfl
theorem m_tl40 (h : LkQ W b c E R m mx) (hw : 2 ≤ w ∧ w ≤ 5) {k : Int} (hk : R32 k) {Q : Int → IS → Prop} (h1 : ∀ j, 0 ≤ j → j < tlN (LC (mB W b)) m w → tlF E (cjC W b) R m mx w j = 1 → cnT (tlF E (cjC W b) R m mx w) j = k → Q j (iu1 W 2 0)) (h0 : (k < 0 ∨ cnT (tlF E (cjC W b) R m mx w) (tlN (LC (mB W b)) m w) ≤ k) → Q (-9) (iu1 W 2 1)) : ∀ (d f : Nat) (x4 x : Int), d < f → 0 ≤ x → x + d = tlN (LC (mB W b)) m w → (k < 0 ∨ cnT (tlF E (cjC W b) R m mx w) x ≤ k) → ((-2147483648 ≤ k - cnT (tlF E (cjC W b) R m mx w) x ∧ x4 = k - cnT (tlF E (cjC W b) R m mx w) x) ∨ (k - cnT (tlF E (cjC W b) R m mx w) x < -2147483648 ∧ x4 = k - cnT (tlF E (cjC W b) R m mx w) x + 4294967296)) → wp (T12_told_40 f c w x4 x) Q W := by
  have hN := tlN_bd (w := w) ⟨(LC_tot h.2.2.1.1).1, h.2.2.1.2.2.1⟩ h.2.2.2.1
  have hbt := b_tl (E := E) (R := R) (m := m) (mx := mx) (w := w) (cj := cjC W b)
  intro d
  induction d with
  | zero =>
    intro f x4 x hf x0 x1 hle hx
    cases f with
    | zero => omega
    | succ f =>
      have ex : x = tlN (LC (mB W b)) m w := by omega
      unfold T12_told_40 T12_told_40_st I12_told_86
      rw [wp_ib, wp_ret (m_many h ⟨by omega, by omega⟩), wp_ig, wp_ig, wp_ite, if_pos (show tlN (LC (mB W b)) m w ≤ x by omega), wp_ib, wp_ret m_no, wp_ir]
      rw [ex] at hle
      exact ⟨⟨by omega, by omega⟩, ⟨by omega, by omega⟩, h0 hle⟩
  | succ d ih =>
    intro f x4 x hf x0 x1 hle hx
    cases f with
    | zero => omega
    | succ f =>
      have hc0 := cnT_bd hbt x0
      unfold T12_told_40 T12_told_40_st I12_told_80
      rw [wp_ib, wp_ret (m_many h ⟨by omega, by omega⟩), wp_ig, wp_ig, wp_ite, if_neg (show ¬ tlN (LC (mB W b)) m w ≤ x by omega), wp_ib, wp_ret (m_isTold h hw x0 (by omega)), wp_ig, wp_ite]
      have ht := hbt x
      have hs := cnT_s (t := tlF E (cjC W b) R m mx w) x0
      refine ⟨⟨by omega, by omega⟩, ⟨by omega, by omega⟩, ⟨by omega, by omega⟩, ?_⟩
      by_cases z : tlF E (cjC W b) R m mx w x = 0
      · rw [if_pos z]
        exact ih f x4 (x + 1) (by omega) (by omega) (by omega) (by omega) (by omega)
      · rw [if_neg z, wp_ig, wp_ite]
        refine ⟨⟨by omega, by omega⟩, ?_⟩
        by_cases y : x4 = 0
        · unfold I12_told_70
          rw [if_pos y, wp_ib, wp_ret m_fine, wp_ir]
          exact h1 x x0 (by omega) (by omega) (by omega)
        · rw [if_neg y]
          refine ih f (w32 (x4 + (-1))) (x + 1) (by omega) (by omega) (by omega) (by omega) ?_
          by_cases y2 : x4 = -2147483648
          · have : w32 (x4 + (-1)) = 2147483647 := by rw [y2]; exact w32_mn
            omega
          · have : w32 (x4 + (-1)) = x4 + (-1) := w32_id ⟨by omega, by omega⟩
            omega
theorem c_rowOf (hc : c < jC J) (hw : R32 w) : G2_rowOf c w J = some (if 1 ≤ w ∧ w ≤ 5 then some (200 + (w.toNat - 1) + 5 * c) else none, J) := by
  refine wp_eq ?_
  unfold G2_rowOf
  rw [wp_ig, wp_ite]
  refine ⟨hw, ?_⟩
  by_cases w1 : w = 1
  · subst w1
    rw [if_pos rfl, wp_ib, jp_E, kj_4, jp_ret]
    exact ⟨hc, rfl, rfl⟩
  · rw [if_neg w1, wp_ite]
    by_cases w2 : w = 2
    · subst w2
      rw [if_pos rfl, wp_ib, jp_E, kj_4, jp_ret]
      exact ⟨hc, rfl, rfl⟩
    · rw [if_neg w2, wp_ite]
      by_cases w3 : w = 3
      · subst w3
        rw [if_pos rfl, wp_ib, jp_E, kj_4, jp_ret]
        exact ⟨hc, rfl, rfl⟩
      · rw [if_neg w3, wp_ite]
        by_cases w4 : w = 4
        · subst w4
          rw [if_pos rfl, wp_ib, jp_E, kj_4, jp_ret]
          exact ⟨hc, rfl, rfl⟩
        · rw [if_neg w4, wp_ite]
          by_cases w5 : w = 5
          · subst w5
            rw [if_pos rfl, wp_ib, jp_E, kj_4, jp_ret]
            exact ⟨hc, rfl, rfl⟩
          · rw [if_neg w5, jp_ret, if_neg (by omega)]
            exact ⟨rfl, rfl⟩
theorem t4_u {R' : Int → Int} {mx' : Int} (hm : 0 ≤ m ∧ m ≤ 400) (h : rOK E m 0 R) (h' : rOK E m 0 R') (hx : rMx m 0 R mx) (hx' : rMx m 0 R' mx') : ∀ e, 0 ≤ e → e < m → t4E E R mx e = t4E E R' mx' e := by
  have eR : ∀ i, 0 ≤ i → i < m → R i = R' i := fun i i0 i1 => rOK_u h h' m.toNat i i0 i1 (by omega)
  have ex : mx = mx' := rMx_u hx hx' eR
  subst ex
  intro e e0 e1
  have hg := gst_cg (E := E) (mx := mx) (m := m.toNat) (fun i hi => eR i (by omega) (by omega)) e.toNat (by omega)
  have he := eR ((e.toNat : Nat) : Int) (by omega) (by omega)
  unfold t4E
  have hiff : rst E R mx e.toNat ↔ rst E R' mx e.toNat := by
    unfold rst
    rw [hg, he]
  by_cases k : rst E R mx e.toNat
  · rw [if_pos k, if_pos (hiff.mp k)]
  · rw [if_neg k, if_neg (fun q => k (hiff.mpr q))]
theorem tl_u {cj R' : Int → Int} {n mx' : Int} (hm : 0 ≤ m ∧ m ≤ 400) (h : rOK E m 0 R) (h' : rOK E m 0 R') (hx : rMx m 0 R mx) (hx' : rMx m 0 R' mx') : ∀ e, 0 ≤ e → e < tlN n m w → tlF E cj R m mx w e = tlF E cj R' m mx' w e := fun e e0 e1 => by
  unfold tlF
  unfold tlN at e1
  by_cases w2 : w = 2
  · rw [if_pos w2, if_pos w2]
  · by_cases w3 : w = 3
    · rw [if_neg w2, if_neg w2, if_pos w3, if_pos w3]
    · by_cases w4 : w = 4
      · rw [if_pos w4] at e1
        rw [if_neg w2, if_neg w2, if_neg w3, if_neg w3, if_pos w4, if_pos w4]
        exact t4_u hm h h' hx hx' e e0 e1
      · rw [if_neg w2, if_neg w2, if_neg w3, if_neg w3, if_neg w4, if_neg w4]
theorem cnT_cg {t t' : Int → Int} {x : Int} (h : ∀ e, 0 ≤ e → e < x → t e = t' e) (x0 : 0 ≤ x) : cnT t x = cnT t' x := by
  unfold cnT
  exact smz_cg _ _ fun i i0 i1 => h i i0 (by omega)
/-- the model has looked: all told alike -/
theorem b_look (hI : Inv W J) (hc16 : c < 16) (hK : CpJ W J c) : ∃ b W' R mx, b < jB J ∧ b < 8 ∧ W.2 16 (c : Int) = (b : Nat) ∧ I12_look c W = some ((), W') ∧ FrLk W W' ∧ Inv W' J ∧ LkQ W' b c (eC W c) R (W.2 17 c) mx ∧ mB W' (b : Int) = mB W b ∧ cjC W' b = cjC W b ∧ rOK (eC W c) (W.2 17 c) 0 R ∧ rMx (W.2 17 c) 0 R mx ∧ CpQ J c b (LC (mB W b)) (W.2 17 c) (eC W c) (cjC W b) (nmC W b) := by
  obtain ⟨b, hb, h16, hq⟩ := hK
  have hB := hI.2.2.2.2.2.1 b hb
  have i3 := hI.2.2.1
  have hL := (LC_tot hB.2.1.1).1
  have h4 := hB.2.1.2.2.1
  have hm := hq.2.2.2.1
  have hE : ∀ j, 0 ≤ j → j < W.2 17 c → W.2 18 ((c : Int) * 400 + j) = eC W c j ∧ 0 ≤ eC W c j ∧ eC W c j < LC (mB W b) := fun j j0 j1 => by
    refine ⟨?_, (hq.2.2.2.2.2.1 j j0 j1).2⟩
    unfold eC
    rw [if_pos ⟨j0, by omega⟩]
  obtain ⟨u, W', e, R, mx, f, hR, hmx, h39, h41⟩ := wp_ex (m_look (Q := fun _ W' => ∃ R mx, FrLk W W' ∧ rOK (eC W c) (W.2 17 c) 0 R ∧ rMx (W.2 17 c) 0 R mx ∧ (∀ p, 0 ≤ p → p < LC (mB W b) → W'.2 39 p = tmE (eC W c) (W.2 17 c) p) ∧ (∀ i, 0 ≤ i → i < W.2 17 c → W'.2 41 i = if rst (eC W c) R mx i.toNat then 1 else 0)) (b := b) (by omega) hc16 h16 hB.2.1.2.1 ⟨hL, h4⟩ rfl hm hE (fun W' R mx a1 a2 a3 a4 a5 => ⟨R, mx, a1, a2, a3, a4, a5⟩))
  have em : mB W' (b : Int) = mB W b := by
    unfold mB
    rw [f.2 6 (by omega), f.2 7 (by omega), f.2 8 (by omega), f.2 9 (by omega), f.2 10 (by omega)]
  have ec : cjC W' b = cjC W b := by
    unfold cjC
    rw [em, f.2 12 (by omega), f.2 13 (by omega), f.2 14 (by omega)]
  have hI' : Inv W' J := hI.w (fun k _ => by rw [f.1]) fun k hk => f.2 k (by omega)
  refine ⟨b, W', R, mx, hb, by omega, h16, e, f, hI', ⟨by rw [f.2 16 (by omega)]; exact h16, by rw [f.2 17 (by omega)], (hI'.2.2.2.2.2.1 b hb).2.1, hm, ⟨by omega, hc16⟩, by rw [em]; exact h39, h41, fun i i0 i1 => by rw [f.2 18 (by omega), em]; exact hE i i0 i1⟩, em, ec, hR, hmx, hq⟩
/-- the class's row of what is told -/
theorem CpQ.row {n : Int} {E cj : Int → Int} {nm : Int → List Nat} (h : CpQ J c b n m E cj nm) (hw : 2 ≤ w ∧ w ≤ 5) : ∃ R mx, rOK E m 0 R ∧ rMx m 0 R mx ∧ LsR J (200 + (w.toNat - 1) + 5 * c) (tlF E cj R m mx w) (tlN n m w) := by
  obtain ⟨h1, h2, h3, h4, h5, h6, h7, h8, h9, R, mx, h10, h11, h12, -⟩ := h
  refine ⟨R, mx, h10, h11, ?_⟩
  have : w = 2 ∨ w = 3 ∨ w = 4 ∨ w = 5 := by omega
  rcases this with q | q | q | q <;> subst q
  · exact h7
  · exact h8
  · exact h12
  · exact h9
end TLD
