/-! ===== apart ===== -/
def apE (E E' : Int → Int) (m m' p : Int) : Int := if mkE E m p = mkE E' m' p then 0 else 1
def unE (E E' : Int → Int) (m m' p : Int) : Int := if mkE E m p + 2 * mkE E' m' p = 0 then 0 else 1
section APT
variable {W : IS} {J : JS} {E E' t : Int → Int} {m m' n : Int} {c c' b : Nat}
theorem b_ap : b01 (apE E E' m m') := fun p => by
  unfold apE
  split
  · exact Or.inl rfl
  · exact Or.inr rfl
theorem b_un : b01 (unE E E' m m') := fun p => by
  unfold unE
  split
  · exact Or.inl rfl
  · exact Or.inr rfl
theorem cnT_o (n0 : 0 ≤ n) {x : Int} (hx : n ≤ x) (h : ∀ p, n ≤ p → t p = 0) : cnT t x = cnT t n := by
  unfold cnT
  rw [show x.toNat = n.toNat + (x.toNat - n.toNat) by omega, smz_cat, smz_0 (x.toNat - n.toNat) (0 + (n.toNat : Int)) fun i i0 _ => h i (by omega), Int.add_zero]
theorem m_twoWhy (hI : Inv W J) {a a' : Int} (ha : R32 a) (ha' : R32 a') : ∃ v, I12_twoWhy a a' W = some (v, W) ∧ ((v = 1 ∧ ¬ (0 ≤ a ∧ a < (jC J : Int))) ∨ (v = 1 ∧ (0 ≤ a ∧ a < (jC J : Int)) ∧ ¬ (0 ≤ a' ∧ a' < (jC J : Int))) ∨ ((0 ≤ a ∧ a < (jC J : Int)) ∧ (0 ≤ a' ∧ a' < (jC J : Int)) ∧ ((v = 0 ∧ W.2 16 a = W.2 16 a') ∨ (v = 4 ∧ W.2 16 a ≠ W.2 16 a')))) := by
  obtain ⟨i1, i2, i3, i4, i5, i6, i7⟩ := id hI
  have e15 : W.1 15 = jC J := i4.2.1
  have e1 := m_isCopy (W := W) ha (by omega) (by omega)
  have e2 := m_isCopy (W := W) ha' (by omega) (by omega)
  rw [e15] at e1 e2
  have h : wp (I12_twoWhy a a') (fun v t => t = W ∧ ((v = 1 ∧ ¬ (0 ≤ a ∧ a < (jC J : Int))) ∨ (v = 1 ∧ (0 ≤ a ∧ a < (jC J : Int)) ∧ ¬ (0 ≤ a' ∧ a' < (jC J : Int))) ∨ ((0 ≤ a ∧ a < (jC J : Int)) ∧ (0 ≤ a' ∧ a' < (jC J : Int)) ∧ ((v = 0 ∧ W.2 16 a = W.2 16 a') ∨ (v = 4 ∧ W.2 16 a ≠ W.2 16 a'))))) W := by
    unfold I12_twoWhy
    rw [wp_ib, wp_ret e1, wp_ig, wp_ite]
    refine ⟨ifR, ?_⟩
    by_cases q : 0 ≤ a ∧ a < (jC J : Int)
    · rw [if_neg (show ¬ ((if 0 ≤ a ∧ a < (jC J : Int) then (1 : Int) else 0) = 0) by rw [if0]; exact fun h => h q), wp_ib, wp_ret e2, wp_ig, wp_ite]
      refine ⟨ifR, ?_⟩
      by_cases q2 : 0 ≤ a' ∧ a' < (jC J : Int)
      · obtain ⟨b, hb, g, -⟩ := i7 a.toNat (by omega)
        obtain ⟨b', hb', g', -⟩ := i7 a'.toNat (by omega)
        rw [show ((a.toNat : Nat) : Int) = a by omega] at g
        rw [show ((a'.toNat : Nat) : Int) = a' by omega] at g'
        rw [if_neg (show ¬ ((if 0 ≤ a' ∧ a' < (jC J : Int) then (1 : Int) else 0) = 0) by rw [if0]; exact fun h => h q2), wp_ib, wA16, wp_ib, wA16, wp_ig, wp_ig, wp_ite]
        refine ⟨⟨q.1, by omega⟩, ⟨q2.1, by omega⟩, ⟨by omega, by omega⟩, ⟨by omega, by omega⟩, ?_⟩
        by_cases k : W.2 16 a = W.2 16 a'
        · rw [if_pos k, wp_ir]
          exact ⟨rfl, Or.inr (Or.inr ⟨q, q2, Or.inl ⟨rfl, k⟩⟩)⟩
        · rw [if_neg k, wp_ir]
          exact ⟨rfl, Or.inr (Or.inr ⟨q, q2, Or.inr ⟨rfl, k⟩⟩)⟩
      · rw [if_pos (show (if 0 ≤ a' ∧ a' < (jC J : Int) then (1 : Int) else 0) = 0 by rw [if0]; exact q2), wp_ir]
        exact ⟨rfl, Or.inr (Or.inl ⟨rfl, q, q2⟩)⟩
    · rw [if_pos (show (if 0 ≤ a ∧ a < (jC J : Int) then (1 : Int) else 0) = 0 by rw [if0]; exact q), wp_ir]
      exact ⟨rfl, Or.inl ⟨rfl, q⟩⟩
  obtain ⟨v, W', e, rfl, q⟩ := wp_ex h
  exact ⟨v, e, q⟩
theorem two_at (hI : Inv W J) {a a' : Int} (ha : R32 a) (ha' : R32 a') {A : IM Int} {B : Nat → Nat → JM Int} (h : ∀ c c' : Nat, a = c → a' = c' → c < jC J → c' < jC J → CpJ W J c → CpJ W J c' → W.2 16 c = W.2 16 c' → SQ A (B c c') W J) : SQ (ib (I12_twoWhy a a') fun v1 => ig (R32 v1) <| if v1 ≤ 0 then A else (ib (I12_no v1) fun v2 => ir v2)) (ib (G11_copyAt a) fun v1 => ib (G11_copyAt a') fun v2 => jcon v1 (ib (G11_refuse 1) fun v => jret v) fun i => jcon v2 (ib (G11_refuse 1) fun v => jret v) fun i' => ib (jG 12 i) fun v5 => ib (jG 12 i') fun v6 => ig (R32 v5) <| ig (R32 v6) <| if v5 = v6 then B i i' else (ib (G11_refuse 4) fun v9 => jret v9)) W J := by
  obtain ⟨i1, i2, i3, i4, i5, i6, i7⟩ := id hI
  obtain ⟨v, e, hv⟩ := m_twoWhy hI ha ha'
  refine s_mr e (s_cr (c_copyAt hI ha) (s_cr (c_copyAt hI ha') ?_))
  rcases hv with ⟨rfl, q⟩ | ⟨rfl, q, q2⟩ | ⟨q, q2, hv⟩
  · rw [if_neg q]
    refine s_mg (by decide) (s_m0 (by decide) ?_)
    exact s_no hI
  · rw [if_pos q, if_neg q2]
    refine s_mg (by decide) (s_m0 (by decide) ?_)
    exact s_no hI
  · rw [if_pos q, if_pos q2]
    obtain ⟨c, ec⟩ : ∃ c, c = a.toNat := ⟨_, rfl⟩
    obtain ⟨c', ec'⟩ : ∃ c', c' = a'.toNat := ⟨_, rfl⟩
    rw [← ec, ← ec']
    have ea : a = c := by omega
    have ea' : a' = c' := by omega
    have hc : c < jC J := by omega
    have hc' : c' < jC J := by omega
    subst ea ea'
    have k := i7 c hc
    have k' := i7 c' hc'
    obtain ⟨b, hb, g, hq⟩ := id k
    obtain ⟨b', hb', g', hq'⟩ := id k'
    have e12 := hq.2.1
    have e12' := hq'.2.1
    rw [g, g'] at hv
    show SQ _ (ib (jG 12 c) fun v5 => ib (jG 12 c') fun v6 => ig (R32 v5) <| ig (R32 v6) <| if v5 = v6 then B c c' else (ib (G11_refuse 4) fun v9 => jret v9)) W J
    refine s_c ?_
    rw [jG12, kj_4]
    refine ⟨hc, s_c ?_⟩
    rw [jG12, kj_4]
    refine ⟨hc', ?_⟩
    rw [e12, e12']
    refine s_cg ⟨by omega, by omega⟩ (s_cg ⟨by omega, by omega⟩ ?_)
    rcases hv with ⟨rfl, hv⟩ | ⟨rfl, hv⟩
    · refine s_mg (by decide) (s_m1 (by decide) (s_c1 hv (h c c' rfl rfl hc hc' k k' (by rw [g, g', hv]))))
    · refine s_mg (by decide) (s_m0 (by decide) (s_c0 hv ?_))
      exact s_no hI
theorem c_ca11 (hc : c < jC J) (hr : jr J c = b) (hb : b < jB J) (hn : js J 1 (100 + 4 * b) = n) (hn4 : 0 ≤ n ∧ n ≤ 400) (hM : ∀ p, 0 ≤ p → p < 400 → ja J 8 0 p = mkE E m p + 2 * mkE E' m' p) : ∀ (d f : Nat) (x p : Int), d < f → 0 ≤ p → p + d = n → x = cnT (apE E E' m m') p → G1_countApart_11 f c x p J = some (cnT (apE E E' m m') n, J) := by
  intro d
  induction d with
  | zero =>
    intro f x p hf p0 p1 hx
    cases f with
    | zero => omega
    | succ f =>
      refine wp_eq ?_
      unfold G1_countApart_11 G1_countApart_11_st
      rw [wp_ib, jp_R, hr, wp_ib, jp_E, kj_3, wp_ib, wp_ret (c_leafCount hb), hn, wp_ig, wp_ig, wp_ite, if_pos (show n ≤ p by omega), jp_ret]
      refine ⟨hc, hb, ⟨by omega, by omega⟩, ⟨by omega, by omega⟩, ?_, rfl⟩
      rw [hx, show p = n by omega]
  | succ d ih =>
    intro f x p hf p0 p1 hx
    cases f with
    | zero => omega
    | succ f =>
      have hs := cnT_s (t := apE E E' m m') p0
      have ea : apE E E' m m' p = if mkE E m p = mkE E' m' p then 0 else 1 := rfl
      have v1 := mkE_b (E := E) (m := m) p
      have v2 := mkE_b (E := E') (m := m') p
      refine wp_eq ?_
      unfold G1_countApart_11 G1_countApart_11_st G1_countApart_43 G1_countApart_46
      rw [wp_ib, jp_R, hr, wp_ib, jp_E, kj_3, wp_ib, wp_ret (c_leafCount hb), hn, wp_ig, wp_ig, wp_ite, if_neg (show ¬ n ≤ p by omega), wp_ib, wp_ret (c_markAt ⟨by omega, by omega⟩), if_pos ⟨p0, by omega⟩, hM p p0 (by omega), wp_ig, wp_ite]
      refine ⟨hc, hb, ⟨by omega, by omega⟩, ⟨by omega, by omega⟩, ⟨by omega, by omega⟩, ?_⟩
      by_cases k1 : mkE E m p + 2 * mkE E' m' p = 1
      · rw [if_neg (by omega)] at ea
        rw [if_pos k1, wp_ret (ih f (x + 1) (p + 1) (by omega) (by omega) (by omega) (by rw [hs, ea, hx]))]
        exact ⟨rfl, rfl⟩
      · rw [if_neg k1, wp_ib, wp_ret (c_markAt ⟨by omega, by omega⟩), if_pos ⟨p0, by omega⟩, hM p p0 (by omega), wp_ig, wp_ite]
        refine ⟨⟨by omega, by omega⟩, ?_⟩
        by_cases k2 : mkE E m p + 2 * mkE E' m' p = 2
        · rw [if_neg (by omega)] at ea
          rw [if_pos k2, wp_ret (ih f (x + 1) (p + 1) (by omega) (by omega) (by omega) (by rw [hs, ea, hx]))]
          exact ⟨rfl, rfl⟩
        · rw [if_pos (by omega)] at ea
          rw [if_neg k2, wp_ret (ih f x (p + 1) (by omega) (by omega) (by omega) (by rw [hs, ea, hx, Int.add_zero]))]
          exact ⟨rfl, rfl⟩
theorem m_ap41 (h1 : ∀ p, 0 ≤ p → p < 400 → W.2 47 p = mkE E m p) (h2 : ∀ p, 0 ≤ p → p < 400 → W.2 48 p = mkE E' m' p) {Q : Int → IS → Prop} (hq : wp (I12_apart_82 (cnT (apE E E' m m') 400)) Q W) : ∀ (d f : Nat) (x p : Int), d < f → 0 ≤ p → p + d = 400 → x = cnT (apE E E' m m') p → wp (I12_apart_41 f x p) Q W := by
  intro d
  induction d with
  | zero =>
    intro f x p hf p0 p1 hx
    cases f with
    | zero => omega
    | succ f =>
      have ep : p = 400 := by omega
      rw [ep] at hx
      rw [← hx] at hq
      unfold I12_apart_41 I12_apart_41_st
      rw [wp_ig, wp_ite, if_pos (show 400 ≤ p by omega)]
      exact ⟨⟨by omega, by omega⟩, hq⟩
  | succ d ih =>
    intro f x p hf p0 p1 hx
    cases f with
    | zero => omega
    | succ f =>
      have hs := cnT_s (t := apE E E' m m') p0
      have ea : apE E E' m m' p = if mkE E m p = mkE E' m' p then 0 else 1 := rfl
      have v1 := mkE_b (E := E) (m := m) p
      have v2 := mkE_b (E := E') (m := m') p
      unfold I12_apart_41 I12_apart_41_st I12_apart_73
      rw [wp_ig, wp_ite, if_neg (show ¬ 400 ≤ p by omega), wp_ib, wZ47, h1 p p0 (by omega), wp_ib, wZ48, h2 p p0 (by omega), wp_ig, wp_ig, wp_ite]
      refine ⟨⟨by omega, by omega⟩, ⟨by omega, by omega⟩, ⟨by omega, by omega⟩, ⟨by omega, by omega⟩, ⟨by omega, by omega⟩, ?_⟩
      by_cases k1 : mkE E m p = mkE E' m' p
      · rw [if_pos k1] at ea ⊢
        exact ih f (x + 0) (p + 1) (by omega) (by omega) (by omega) (by rw [hs, ea, hx])
      · rw [if_neg k1] at ea ⊢
        exact ih f (x + 1) (p + 1) (by omega) (by omega) (by omega) (by rw [hs, ea, hx])
/-- what the class and the model hold of a copy's entries -/
theorem CpJ.e (h : CpJ W J c) (hI : Inv W J) : ∃ b : Nat, b < jB J ∧ b < 8 ∧ W.2 16 c = b ∧ js J 12 c = b ∧ jr J c = b ∧ (0 ≤ W.2 17 c ∧ W.2 17 c ≤ 400) ∧ RoR J (200 + 0 + 5 * c) (eC W c) (W.2 17 c) ∧ (∀ j, 0 ≤ j → j < W.2 17 c → W.2 18 ((c : Int) * 400 + j) = eC W c j ∧ 0 ≤ eC W c j ∧ eC W c j < LC (mB W b)) ∧ (0 ≤ LC (mB W b) ∧ LC (mB W b) ≤ 400) ∧ BkJ W J b := by
  have i3 := hI.2.2.1
  obtain ⟨b, hb, g, q1, q2, q3, q4, q5, q6, -⟩ := h
  have hB := hI.2.2.2.2.2.1 b hb
  refine ⟨b, hb, by omega, g, q2, q3, q4, ⟨q5, fun i i0 i1 => (q6 i i0 i1).1⟩, fun j j0 j1 => ⟨?_, (q6 j j0 j1).2⟩, hB.lc.2.2, hB⟩
  unfold eC
  rw [if_pos ⟨j0, by omega⟩]
theorem p_apart (hI : Inv W J) {a a' : Int} (ha : R32 a) (ha' : R32 a') : SQ (I12_apart a a') (G11_apart a a') W J := by
  unfold I12_apart G11_apart G11_apart_22
  refine two_at hI ha ha' fun c c' e e' hc hc' h h' h16 => ?_
  subst e e'
  have i4 := hI.2.2.2.1
  obtain ⟨b, hb, hb8, g, g12, gr, hm, hR, hE, hn, hB⟩ := h.e hI
  obtain ⟨b', hb', -, g', -, -, hm', hR', hE', -, -⟩ := h'.e hI
  have ebb : b' = b := by omega
  subst ebb
  obtain ⟨W1, e1, f1, k1⟩ := m_mark (W := W) (k := 47) (c := c) (E := eC W c) (by decide) (by decide) (by omega) rfl hm fun j j0 j1 => by have := hE j j0 j1; exact ⟨this.1, this.2.1, by omega⟩
  obtain ⟨W2, e2, f2, k2⟩ := m_mark (W := W1) (k := 48) (c := c') (E := eC W c') (m := W.2 17 c') (by decide) (by decide) (by omega) (by rw [f1.2 17 (by decide)]) hm' fun j j0 j1 => by have := hE' j j0 j1; rw [f1.2 18 (by decide)]; exact ⟨this.1, this.2.1, by omega⟩
  obtain ⟨J1, e3, f3, k3⟩ := c_markBoth hc hc' hR hR' hm hm' (fun i i0 i1 => by have := hE i i0 i1; omega) fun i i0 i1 => by have := hE' i i0 i1; omega
  have hI' : Inv W2 J1 := by
    have hw : Inv W2 J := hI.w (fun k _ => by rw [f2.1, f1.1]) fun k hk => by rw [f2.2 k (by omega), f1.2 k (by omega)]
    exact hw.j (JKp.same f3.2.2 (fun t i _ => by rw [f3.1]) fun t i q => f3.2.1 t i (by omega)) ⟨jB_r f3.2.2, jC_r f3.2.2⟩ (fun t _ => by rw [f3.1]) (f3.2.1 2 0 (by omega))
  refine s_mr e1 (s_mr e2 ?_)
  have eA : G1_countApart c c' J = some (cnT (apE (eC W c) (eC W c') (W.2 17 c) (W.2 17 c')) (LC (mB W b')), J1) := by
    refine wp_eq ?_
    unfold G1_countApart
    rw [wp_ib, wp_ret e3, wp_ret (c_ca11 (J := J1) (b := b') (by rw [jC_r f3.2.2]; exact hc) (by rw [jr_r f3.2.2]; exact gr) (by rw [jB_r f3.2.2]; exact hb) (by rw [f3.1]; exact hB.lc.1) hn k3 (LC (mB W b')).toNat LFU 0 0 (Nat.lt_of_le_of_lt (show (LC (mB W b')).toNat ≤ 400 by omega) (by decide)) (Int.le_refl _) (by omega) rfl)]
    exact ⟨rfl, rfl⟩
  refine s_cr eA (s_run (x' := I12_apart_82 (cnT (apE (eC W c) (eC W c') (W.2 17 c) (W.2 17 c')) 400)) (fun Q q => m_ap41 (W := W2) (E := eC W c) (E' := eC W c') (fun p p0 p1 => by rw [f2.2 47 (by decide)]; exact k1 p p0 p1) k2 q 400 LFU 0 0 (by decide) (Int.le_refl _) (by omega) rfl) ?_)
  unfold I12_apart_82
  refine s_fine hI' (cnT_o hn.1 hn.2 fun p hp => ?_).symm
  unfold apE
  rw [mkE_o (n := LC (mB W b')) (fun i i0 i1 => (hE i i0 i1).2.2) hp, mkE_o (n := LC (mB W b')) (fun i i0 i1 => (hE' i i0 i1).2.2) hp]
  rfl
end APT
