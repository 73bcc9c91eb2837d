/-! ===== the model keeps a copy; together ===== -/
/-- a copy more in the model -/
def NwC (W W' : IS) (C : Nat) (b m : Int) : Prop := W'.1 2 = 0 ∧ W'.1 15 = W.1 15 + 1 ∧ (∀ k, k ≠ 2 → k ≠ 15 → W'.1 k = W.1 k) ∧ (∀ k, k ≤ 14 → W'.2 k = W.2 k) ∧ (∀ l, l ≠ (C : Int) → W'.2 16 l = W.2 16 l ∧ W'.2 17 l = W.2 17 l) ∧ (∀ l, l < (C : Int) * 400 → W'.2 18 l = W.2 18 l) ∧ W'.2 16 C = b ∧ W'.2 17 C = m
/-- only the entries of this copy, from its first place on, may differ -/
def FrE (C : Nat) (W W' : IS) : Prop := W'.1 = W.1 ∧ (∀ k, k ≠ 18 → W'.2 k = W.2 k) ∧ ∀ l, l < (C : Int) * 400 → W'.2 18 l = W.2 18 l
section TGT
variable {W W1 W' : IS} {J : JS} {E E' t : Int → Int} {m m' n : Int} {c c' b C : Nat}
theorem FrE.refl : FrE C W W := ⟨rfl, fun _ _ => rfl, fun _ _ => rfl⟩
theorem FrE.trans {W2 : IS} (h : FrE C W W1) (h' : FrE C W1 W2) : FrE C W W2 := ⟨h'.1.trans h.1, fun k q => (h'.2.1 k q).trans (h.2.1 k q), fun l q => (h'.2.2 l q).trans (h.2.2 l q)⟩
theorem FrE.u {i x : Int} (h : (C : Int) * 400 ≤ i) : FrE C W (iu2 W 18 i x) := ⟨rfl, fun k q => by funext l; rw [iu2_2, if_neg (fun r => q r.1)], fun l q => by rw [iu2_2, if_neg (by omega)]⟩
theorem NwC.kp {b m : Int} (h : NwC W1 W' C b m) (h0 : ∀ k, k ≤ 18 → W1.2 k = W.2 k) {nb : Nat} : WKp W W' nb C := by
  obtain ⟨n1, n2, n3, n4, n5, n6, n7, n8⟩ := h
  refine ⟨fun b _ => ?_, fun c hc => ⟨?_, ?_, fun i i0 i1 => ?_⟩⟩
  · have e : ∀ k, k ≤ 14 → W'.2 k = W.2 k := fun k hk => by rw [n4 k hk, h0 k (by omega)]
    unfold BkS
    rw [e 6 (by omega), e 7 (by omega), e 8 (by omega), e 9 (by omega), e 10 (by omega), e 11 (by omega), e 12 (by omega), e 13 (by omega), e 14 (by omega)]
    exact ⟨rfl, fun _ _ _ => ⟨rfl, rfl, fun _ _ _ => ⟨rfl, rfl⟩⟩, rfl, fun _ _ _ => ⟨rfl, rfl, rfl⟩⟩
  · rw [(n5 c (by omega)).1, h0 16 (by omega)]
  · rw [(n5 c (by omega)).2, h0 17 (by omega)]
  · rw [n6 _ (by omega), h0 18 (by omega)]
/-- how a copy is closed -/
theorem NwC.cl {b m : Int} (h : FrE C W W') : NwC W (iu1 (iu1 (iu2 (iu2 W' 17 C m) 16 C b) 15 (W'.1 15 + 1)) 2 0) C b m := by
  obtain ⟨h1, h2, h3⟩ := h
  refine ⟨?_, ?_, fun k k2 k15 => ?_, fun k hk => ?_, fun l hl => ⟨?_, ?_⟩, fun l hl => ?_, ?_, ?_⟩
  · rw [iu1_1, if_pos rfl]
  · rw [iu1_1, if_neg (by omega), iu1_1, if_pos rfl, h1]
  · rw [iu1_1, if_neg k2, iu1_1, if_neg k15, iu2_1, iu2_1, h1]
  · funext l
    rw [iu1_2, iu1_2, iu2_2, if_neg (by omega), iu2_2, if_neg (by omega), h2 k (by omega)]
  · rw [iu1_2, iu1_2, iu2_2, if_neg (fun q => hl q.2), iu2_2, if_neg (by omega), h2 16 (by omega)]
  · rw [iu1_2, iu1_2, iu2_2, if_neg (by omega), iu2_2, if_neg (fun q => hl q.2), h2 17 (by omega)]
  · rw [iu1_2, iu1_2, iu2_2, if_neg (by omega), iu2_2, if_neg (by omega), h3 l hl]
  · rw [iu1_2, iu1_2, iu2_2, if_pos ⟨rfl, rfl⟩]
  · rw [iu1_2, iu1_2, iu2_2, if_neg (by omega), iu2_2, if_pos ⟨rfl, rfl⟩]
theorem m_tg63 (hC : C < 16) (h1 : ∀ p, 0 ≤ p → p < 400 → W.2 47 p = mkE E m p) (h2 : ∀ p, 0 ≤ p → p < 400 → W.2 48 p = mkE E' m' p) {a : Int} {Q : Int → IS → Prop} (hq : ∀ W', FrE C W W' → (∀ p, 0 ≤ p → p < 400 → unE E E' m m' p = 1 → W'.2 18 ((C : Int) * 400 + cnT (unE E E' m m') p) = p) → wp (I12_together_119 a C (cnT (unE E E' m m') 400)) Q W') : ∀ (d f : Nat) (x p : Int) (W1 : IS), d < f → 0 ≤ p → p + d = 400 → x = cnT (unE E E' m m') p → FrE C W W1 → (∀ q, 0 ≤ q → q < p → unE E E' m m' q = 1 → W1.2 18 ((C : Int) * 400 + cnT (unE E E' m m') q) = q) → wp (I12_together_63 f a C x p) Q W1 := by
  intro d
  induction d with
  | zero =>
    intro f x p W1 hf p0 p1 hx hF hL
    cases f with
    | zero => omega
    | succ f =>
      have ep : p = 400 := by omega
      rw [ep] at hx hL
      unfold I12_together_63 I12_together_63_st
      rw [wp_ig, wp_ite, if_pos (show 400 ≤ p by omega), hx]
      exact ⟨⟨by omega, by omega⟩, hq W1 hF hL⟩
  | succ d ih =>
    intro f x p W1 hf p0 p1 hx hF hL
    cases f with
    | zero => omega
    | succ f =>
      have hb := b_un (E := E) (E' := E') (m := m) (m' := m')
      have hs := cnT_s (t := unE E E' m m') p0
      have hk := cnT_bd hb p0
      have ea : unE E E' m m' p = if mkE E m p + 2 * mkE E' m' p = 0 then 0 else 1 := rfl
      have v1 := mkE_b (E := E) (m := m) p
      have v2 := mkE_b (E := E') (m := m') p
      have put : mkE E m p + 2 * mkE E' m' p ≠ 0 → wp (I12_together_94 (I12_together_63 f) a C x p) Q W1 := fun k => by
        rw [if_neg k] at ea
        unfold I12_together_94 I12_together_113
        rw [wp_ib, wS18]
        refine ⟨⟨by omega, by omega⟩, ih f (x + 1) (p + 1) _ (by omega) (by omega) (by omega) (by rw [hs, ea, hx]) (hF.trans (FrE.u (by omega))) fun q q0 q1 q2 => ?_⟩
        rw [iu2_2]
        by_cases e : q = p
        · rw [e, ← hx, if_pos ⟨rfl, rfl⟩]
        · have := cnT_lt hb q0 (show q < p by omega) q2
          rw [if_neg (by omega)]
          exact hL q q0 (by omega) q2
      have skip : mkE E m p + 2 * mkE E' m' p = 0 → wp (I12_together_113 (I12_together_63 f) a C x p) Q W1 := fun k => by
        rw [if_pos k] at ea
        unfold I12_together_113
        refine ih f x (p + 1) _ (by omega) (by omega) (by omega) (by rw [hs, ea, hx, Int.add_zero]) hF fun q q0 q1 q2 => ?_
        by_cases e : q = p
        · rw [e] at q2
          omega
        · exact hL q q0 (by omega) q2
      unfold I12_together_63 I12_together_63_st
      rw [wp_ig, wp_ite, if_neg (show ¬ 400 ≤ p by omega), wp_ib, wZ47, hF.2.1 47 (by decide), h1 p p0 (by omega), wp_ig, wp_ite]
      refine ⟨⟨by omega, by omega⟩, ⟨by omega, by omega⟩, ⟨by omega, by omega⟩, ?_⟩
      by_cases k1 : mkE E m p = 0
      · rw [if_pos k1, wp_ib, wZ48, hF.2.1 48 (by decide), h2 p p0 (by omega), wp_ig, wp_ite]
        refine ⟨⟨by omega, by omega⟩, ⟨by omega, by omega⟩, ?_⟩
        by_cases k2 : mkE E' m' p = 0
        · rw [if_pos k2]
          exact skip (by omega)
        · rw [if_neg k2]
          exact put (by omega)
      · rw [if_neg k1]
        exact put (by omega)
/-- only the shared row and the marks may differ -/
def FrZ (J J' : JS) : Prop := (∀ t i, ¬ (t = 1 ∧ i = 12) → js J' t i = js J t i) ∧ (∀ t i, ¬ (t = 1 ∧ i = 12) → ¬ (t = 8 ∧ i = 0) → ja J' t i = ja J t i) ∧ J'.2.2 = J.2.2
theorem FrZ.refl : FrZ J J := ⟨fun _ _ _ => rfl, fun _ _ _ _ => rfl, rfl⟩
theorem FrZ.trans {J1 J2 : JS} (h : FrZ J J1) (h' : FrZ J1 J2) : FrZ J J2 := ⟨fun t i q => (h'.1 t i q).trans (h.1 t i q), fun t i q r => (h'.2.1 t i q r).trans (h.2.1 t i q r), h'.2.2.trans h.2.2⟩
theorem FrI.zz {J' : JS} (h : FrI 12 J J') : FrZ J J' := ⟨h.1, fun t i q _ => h.2.1 t i q, h.2.2⟩
theorem FrMk.zz {J' : JS} (h : FrMk J J') : FrZ J J' := ⟨fun t i _ => by rw [h.1], fun t i _ r => h.2.1 t i r, h.2.2⟩
theorem FrZ.kp {J' : JS} (h : FrZ J J') : JKp J J' := JKp.same h.2.2 (fun t i q => h.1 t i (by omega)) fun t i q => h.2.1 t i (by omega) (by omega)
theorem c_lt13 {J0 : JS} (hc : c < jC J0) (hr : jr J0 c = b) (hb : b < jB J0) (hn : js J0 1 (100 + 4 * b) = n) (hn4 : 0 ≤ n ∧ n ≤ 400) (hM : ∀ p, 0 ≤ p → p < 400 → ja J0 8 0 p = mkE E m p + 2 * mkE E' m' p) {Q : Unit → JS → Prop} (hq : ∀ J', FrI 12 J0 J' → LsR J' 12 (unE E E' m m') n → Q () J') : ∀ (d f : Nat) (p : Int) (J : JS), d < f → 0 ≤ p → p + d = n → FrI 12 J0 J → LsR J 12 (unE E E' m m') p → wp (G1_listTogether_13 f c 12 p) Q J := by
  intro d
  induction d with
  | zero =>
    intro f p J hf p0 p1 hF hL
    cases f with
    | zero => omega
    | succ f =>
      unfold G1_listTogether_13 G1_listTogether_13_st
      rw [wp_ib, jp_R, jr_r hF.2.2, hr, wp_ib, jp_E, kj_3, wp_ib, wp_ret (c_leafCount (by rw [jB_r hF.2.2]; exact hb)), hF.1 1 _ (by omega), hn, wp_ig, wp_ig, wp_ite, if_pos (show n ≤ p by omega), jp_ret]
      have ep : p = n := by omega
      rw [ep] at hL
      exact ⟨by rw [jC_r hF.2.2]; exact hc, by rw [jB_r hF.2.2]; exact hb, ⟨by omega, by omega⟩, ⟨by omega, by omega⟩, hq J hF hL⟩
  | succ d ih =>
    intro f p J hf p0 p1 hF hL
    cases f with
    | zero => omega
    | succ f =>
      have hb1 := b_un (E := E) (E' := E') (m := m) (m' := m')
      have hk := cnT_bd hb1 p0
      have ea : unE E E' m m' p = if mkE E m p + 2 * mkE E' m' p = 0 then 0 else 1 := rfl
      have v1 := mkE_b (E := E) (m := m) p
      have v2 := mkE_b (E := E') (m := m') p
      have hM' : ja J 8 0 p = mkE E m p + 2 * mkE E' m' p := by rw [hF.2.1 8 0 (by omega)]; exact hM p p0 (by omega)
      unfold G1_listTogether_13 G1_listTogether_13_st G1_listTogether_41
      rw [wp_ib, jp_R, jr_r hF.2.2, hr, wp_ib, jp_E, kj_3, wp_ib, wp_ret (c_leafCount (by rw [jB_r hF.2.2]; exact hb)), hF.1 1 _ (by omega), hn, wp_ig, wp_ig, wp_ite, if_neg (show ¬ n ≤ p by omega), wp_ib, wp_ret (c_markAt ⟨by omega, by omega⟩), if_pos ⟨p0, by omega⟩, hM', wp_ig, wp_ite]
      refine ⟨by rw [jC_r hF.2.2]; exact hc, by rw [jB_r hF.2.2]; exact hb, ⟨by omega, by omega⟩, ⟨by omega, by omega⟩, ⟨by omega, by omega⟩, ?_⟩
      by_cases k : mkE E m p + 2 * mkE E' m' p = 0
      · rw [if_pos k] at ea ⊢
        exact ih f (p + 1) J (by omega) (by omega) (by omega) hF (hL.zero p0 ea)
      · rw [if_neg k] at ea ⊢
        rw [wp_ib, jp_E, kj_1, wp_ib]
        refine ⟨Or.inl (by omega), w_addA (Or.inl (by omega)) hL.1 ⟨hk.1, by rw [rl4 (by omega)]; omega⟩ fun J1 hA => ?_⟩
        exact ih f (p + 1) J1 (by omega) (by omega) (by omega) (hF.trans hA.i) (hL.one hb1 p0 ea hA)
/-- there is no room for a copy more -/
theorem c_keepFull {n : Int} {b : Nat} (h9 : js J 9 0 = 16) : G11_keepCopy n b J = some (-9, ju1 J 11 0 9) := by
  refine wp_eq ?_
  unfold G11_keepCopy
  rw [wp_ib, jG9, h9, wp_ig, wp_ite, if_pos (by decide), wp_ib, wp_ret c_refuse, jp_ret]
  exact ⟨by decide, rfl, rfl⟩
theorem p_together (hI : Inv W J) {a a' : Int} (ha : R32 a) (ha' : R32 a') : SQ (I12_together a a') (G11_together a a') W J := by
  unfold I12_together G11_together G11_together_22
  refine two_at hI ha ha' fun c c' e e' hc hc' h h' h16 => ?_
  subst e e'
  have i4 := hI.2.2.2.1
  obtain ⟨b, hb, hb8, g, g12, gr, hm, hR, hE, hn, hB⟩ := h.e hI
  obtain ⟨b', hb', -, g', -, -, hm', hR', hE', -, -⟩ := h'.e hI
  have ebb : b' = b := by omega
  subst ebb
  refine s_m ?_
  rw [wp_igI, i4.2.1]
  refine s_mg ⟨by omega, by omega⟩ ?_
  obtain ⟨J1, e3, f3, k3⟩ := c_markBoth hc hc' hR hR' hm hm' (fun i i0 i1 => by have := hE i i0 i1; omega) fun i i0 i1 => by have := hE' i i0 i1; omega
  obtain ⟨t, ht⟩ : ∃ t, t = unE (eC W c) (eC W c') (W.2 17 c) (W.2 17 c') := ⟨_, rfl⟩
  have hbt : b01 t := by rw [ht]; exact b_un
  have hto : ∀ p, LC (mB W b') ≤ p → t p = 0 := fun p hp => by
    rw [ht]
    unfold unE
    rw [mkE_o (n := LC (mB W b')) (fun i i0 i1 => (hE i i0 i1).2.2) hp, mkE_o (n := LC (mB W b')) (fun i i0 i1 => (hE' i i0 i1).2.2) hp]
    rfl
  have hcn := cnT_o hn.1 hn.2 hto
  have hcb := cnT_bd hbt hn.1
  -- the class
  have hcl : wp (G1_listTogether c c' 12) (fun _ J' => FrZ J J' ∧ LsR J' 12 t (LC (mB W b'))) J := by
    unfold G1_listTogether
    rw [wp_ib, wp_ret e3, wp_ib, jp_E, kj_1, wp_ib, wp_ret (c_clear (Or.inl (by omega)))]
    have hF : FrI 12 J1 (ju1 J1 1 12 0) := ⟨fun t i q => by rw [ju1_s, if_neg q], fun _ _ _ => rfl, rfl⟩
    refine ⟨Or.inl (by omega), c_lt13 (J0 := J1) (E := eC W c) (E' := eC W c') (m := W.2 17 c) (m' := W.2 17 c') (n := LC (mB W b')) (b := b') (by rw [jC_r f3.2.2]; exact hc) (by rw [jr_r f3.2.2]; exact gr) (by rw [jB_r f3.2.2]; exact hb) (by rw [f3.1]; exact hB.lc.1) hn k3 (fun J2 f4 h4 => ⟨f3.zz.trans f4.zz, by rw [ht]; exact h4⟩) (LC (mB W b')).toNat LFU 0 _ (Nat.lt_of_le_of_lt (show (LC (mB W b')).toNat ≤ 400 by omega) (by decide)) (Int.le_refl _) (by omega) hF ⟨by rw [ju1_s, if_pos ⟨rfl, rfl⟩]; rfl, fun p p0 p1 => by omega⟩⟩
  obtain ⟨u, J2, ej, hF, hL⟩ := wp_ex hcl
  by_cases k16 : (jC J : Int) = 16
  · -- no room: the class lists first
    refine s_m1 k16 (s_cr ej (s_c ?_))
    rw [jG12, kj_4, jC_r hF.2.2, hF.1 12 _ (by omega), g12]
    refine ⟨hc, s_c ?_⟩
    rw [jp_R, jC_r hF.2.2, jr_r hF.2.2, gr]
    refine ⟨hc, s_mr m_no (s_cr (c_keepFull (by rw [hF.1 9 0 (by omega), i4.1, i4.2.1, k16])) (s_ret rfl (Inv.st (hI.j hF.kp ⟨jB_r hF.2.2, jC_r hF.2.2⟩ (fun t ht => hF.1 t 0 (by omega)) (hF.2.1 2 0 (by omega) (by omega))))))⟩
  have hC : jC J < 16 := by omega
  refine s_m0 k16 ?_
  obtain ⟨W1, e1, f1, k1⟩ := m_mark (W := W) (k := 47) (c := c) (E := eC W c) (by decide) (by decide) (by omega) rfl hm fun j j0 j1 => by have := hE j j0 j1; exact ⟨this.1, this.2.1, by omega⟩
  obtain ⟨W2, e2, f2, k2⟩ := m_mark (W := W1) (k := 48) (c := c') (E := eC W c') (m := W.2 17 c') (by decide) (by decide) (by omega) (by rw [f1.2 17 (by decide)]) hm' fun j j0 j1 => by have := hE' j j0 j1; rw [f1.2 18 (by decide)]; exact ⟨this.1, this.2.1, by omega⟩
  -- the model
  obtain ⟨X, hX⟩ : ∃ X : IM Int, X = (ib (I12_mark c 47) fun _ => ib (I12_mark c' 48) fun _ => ib (igI 15) fun v4 => I12_together_63 LFU c v4 0 0) := ⟨_, rfl⟩
  rw [← hX]
  have hm63 : wp X (fun v W' => v = (jC J : Int) ∧ NwC W2 W' (jC J) b' (cnT t (LC (mB W b'))) ∧ ∀ p, 0 ≤ p → p < 400 → t p = 1 → W'.2 18 ((jC J : Int) * 400 + cnT t p) = p) W := by
    rw [hX, wp_ib, wp_ret e1, wp_ib, wp_ret e2, wp_ib, wp_igI, f2.1, f1.1, i4.2.1]
    refine m_tg63 (W := W2) (E := eC W c) (E' := eC W c') (m := W.2 17 c) (m' := W.2 17 c') (C := jC J) hC (fun p p0 p1 => by rw [f2.2 47 (by decide)]; exact k1 p p0 p1) k2 (fun W3 f3 h3 => ?_) 400 LFU 0 0 W2 (by decide) (Int.le_refl _) (by omega) rfl FrE.refl fun q q0 q1 => by omega
    rw [← ht] at h3 ⊢
    rw [hcn]
    have g16 : (iu2 W3 17 (jC J) (cnT t (LC (mB W b')))).2 16 c = b' := by rw [iu2_2, if_neg (by omega), f3.2.1 16 (by decide), f2.2 16 (by decide), f1.2 16 (by decide), g]
    unfold I12_together_119
    rw [wp_ib, wS17, wp_ib, wA16, g16, wp_ib, wS16, wp_ib, wp_igI, wp_ib, wp_ipI, wp_ib, wp_ret m_fine, wp_ir]
    refine ⟨⟨by omega, by omega⟩, ⟨by omega, by omega⟩, ⟨by omega, by omega⟩, rfl, NwC.cl f3, fun p p0 p1 p2 => ?_⟩
    rw [iu1_2, iu1_2, iu2_2, if_neg (by omega), iu2_2, if_neg (by omega)]
    exact h3 p p0 p1 p2
  obtain ⟨v, W3, ex, rfl, hN, hL3⟩ := wp_ex hm63
  have hw : WKp W W3 (jB J) (jC J) := hN.kp fun k hk => by rw [f2.2 k (by omega), f1.2 k (by omega)]
  obtain ⟨n1, n2, n3, n4, n5, n6, n7, n8⟩ := hN
  have f21 : W2.1 = W.1 := f2.1.trans f1.1
  have eE : ∀ i, 0 ≤ i → i < cnT t (LC (mB W b')) → ∃ p, 0 ≤ p ∧ p < LC (mB W b') ∧ ja J2 1 12 i = p ∧ eC W3 (jC J) i = p := fun i i0 i1 => by
    obtain ⟨p, p0, p1, p2, p3⟩ := cnT_ex hbt i0 hn.1 i1
    refine ⟨p, p0, p1, ?_, ?_⟩
    · rw [← p3]
      exact hL.2 p p0 p1 p2
    · unfold eC
      rw [if_pos ⟨i0, by omega⟩, ← p3]
      exact hL3 p p0 (by omega) p2
  have eLC : LC (mB W3 b') = LC (mB W b') := ((hw.1 b' hb).cj hB.2.1).1
  refine s_cr ej (s_c ?_)
  rw [jG12, kj_4, jC_r hF.2.2, hF.1 12 _ (by omega), g12]
  refine ⟨hc, s_c ?_⟩
  rw [jp_R, jC_r hF.2.2, jr_r hF.2.2, gr]
  refine ⟨hc, s_keep (W' := W3) (m := cnT t (LC (mB W b'))) (b := b') hI hF.kp hF.2.2 ⟨hF.1 8 0 (by omega), hF.1 9 0 (by omega)⟩ hb hC hw n7 n8 ⟨hcb.1, by omega⟩ ⟨hL.1, fun i i0 i1 => ?_⟩ (fun i i0 i1 => ?_) ?_ ?_ ?_ ?_ ?_ n1 ex rfl⟩
  · obtain ⟨p, p0, p1, p2, p3⟩ := eE i i0 i1
    rw [p2, p3]
  · obtain ⟨p, p0, p1, p2, p3⟩ := eE i i0 i1
    rw [p3, eLC]
    exact ⟨p0, p1⟩
  · rw [n4 0 (by omega), f2.2 0 (by decide), f1.2 0 (by decide), n3 1 (by omega) (by omega), f21]
    exact hI.2.1.eq (hF.1 2 0 (by omega)) (hF.2.1 2 0 (by omega) (by omega))
  · rw [n3 5 (by omega) (by omega), f21]
  · rw [n2, f21]
  · rw [n3 3 (by omega) (by omega), f21, hF.1 5 0 (by omega)]
    exact hI.2.2.2.2.1.1
  · rw [n3 4 (by omega) (by omega), f21, hF.1 10 0 (by omega)]
    exact hI.2.2.2.2.1.2.1
end TGT
