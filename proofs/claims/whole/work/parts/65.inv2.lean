/-! ===== a copy more; told, with what wraps round ===== -/
def w32 (z : Int) : Int := (iI z).toInt
theorem w32_i (z : Int) : iI z = iI (w32 z) := eT _
theorem w32_R (z : Int) : R32 (w32 z) := ⟨Int32.le_toInt _, Int32.toInt_lt _⟩
theorem w32_id {z : Int} (h : R32 z) : w32 z = z := by
  have h1 := w32_R z
  exact ((iI_eq h.1 h.2 h1.1 h1.2).mp (w32_i z)).symm
theorem w32_mn : w32 (-2147483648 + -1) = 2147483647 := by decide
def T12_told_40_st (k40 : Int → Int → Int → Int → IM Int) (x1 : Int) (x2 : Int) (x4 : Int) (x5 : Int) : IM Int :=
  ib (I12_many x1 x2) fun v1 =>
  ig (R32 v1) <|
  ig (R32 x5) <|
  if v1 ≤ x5 then (I12_told_86) else (ib (I12_isTold x1 x2 x5) fun v2 =>
  ig (R32 v2) <|
  if v2 = 0 then ((I12_told_80 k40 x1 x2 x4 x5)) else (ig (R32 x4) <|
  if x4 = 0 then ((I12_told_70 x5)) else ((I12_told_80 k40 x1 x2 (w32 (x4 + (-1))) x5))))
theorem vT_told_40_st {n_k40 : Int32 → Int32 → Int32 → Int32 → NM Int32} {k40 : Int → Int → Int → Int → IM Int} (hk40 : ∀ {n0 : Int32} {z0 : Int} (_ : n0 = iI z0) {n1 : Int32} {z1 : Int} (_ : n1 = iI z1) {n2 : Int32} {z2 : Int} (_ : n2 = iI z2) {n3 : Int32} {z3 : Int} (_ : n3 = iI z3), Si iI (n_k40 n0 n1 n2 n3) (k40 z0 z1 z2 z3)) {n_x1 : Int32} {x1 : Int} (e_x1 : n_x1 = iI x1) {n_x2 : Int32} {x2 : Int} (e_x2 : n_x2 = iI x2) {n_x4 : Int32} {x4 : Int} (e_x4 : n_x4 = iI x4) {n_x5 : Int32} {x5 : Int} (e_x5 : n_x5 = iI x5) : Si iI (N12_told_40_st n_k40 n_x1 n_x2 n_x4 n_x5) (T12_told_40_st k40 x1 x2 x4 x5) := by
  subst e_x1
  subst e_x2
  subst e_x4
  subst e_x5
  unfold N12_told_40_st T12_told_40_st
  refine si_b (v_N12_many rfl rfl) fun v1 => ?_
  refine si_ig fun h1 => ?_
  refine si_ig fun h2 => ?_
  refine si_ite (cLe rfl rfl ⟨h1, h2⟩) ?_ ?_
  · exact v_N12_told_86
  · refine si_b (v_N12_isTold rfl rfl rfl) fun v2 => ?_
    refine si_ig fun h3 => ?_
    refine si_ite (cEq rfl (eLit 0) ⟨h3, (by decide)⟩) ?_ ?_
    · exact (v_N12_told_80 hk40 rfl rfl rfl rfl)
    · refine si_ig fun h4 => ?_
      refine si_ite (cEq rfl (eLit 0) ⟨h4, (by decide)⟩) ?_ ?_
      · exact (v_N12_told_70 rfl)
      · exact (v_N12_told_80 hk40 rfl rfl ((eAdd rfl (eLn 1)).trans (w32_i _)) rfl)
def T12_told_40 : Nat → Int → Int → Int → Int → IM Int
  | 0 => fun _ _ _ _ => nof
  | n + 1 => fun x1 x2 x4 x5 => T12_told_40_st (T12_told_40 n) x1 x2 x4 x5
theorem vT_told_40 : ∀ (n : Nat) {n_x1 : Int32} {x1 : Int} (e_x1 : n_x1 = iI x1) {n_x2 : Int32} {x2 : Int} (e_x2 : n_x2 = iI x2) {n_x4 : Int32} {x4 : Int} (e_x4 : n_x4 = iI x4) {n_x5 : Int32} {x5 : Int} (e_x5 : n_x5 = iI x5), Si iI (N12_told_40 n n_x1 n_x2 n_x4 n_x5) (T12_told_40 n x1 x2 x4 x5) := by
  intro n
  induction n with
  | zero => intro n_x1 x1 e_x1 n_x2 x2 e_x2 n_x4 x4 e_x4 n_x5 x5 e_x5; exact si_nf
  | succ n ih => intro n_x1 x1 e_x1 n_x2 x2 e_x2 n_x4 x4 e_x4 n_x5 x5 e_x5; exact vT_told_40_st (ih) e_x1 e_x2 e_x4 e_x5
def T12_told (a1 : Int) (a2 : Int) (a3 : Int) : IM Int :=
  ib (I12_isCopy a1) fun v1 =>
  ig (R32 v1) <|
  if v1 = 0 then (ib (I12_no 1) fun v2 =>
  ir v2) else (ib (I12_isIn a2 2 5) fun v3 =>
  ig (R32 v3) <|
  if v3 = 0 then (ib (I12_no 3) fun v4 =>
  ir v4) else (ib (I12_look a1) fun _ =>
  (T12_told_40 LFU a1 a2 a3 0)))
theorem vT_told {n_a1 : Int32} {a1 : Int} (e_a1 : n_a1 = iI a1) {n_a2 : Int32} {a2 : Int} (e_a2 : n_a2 = iI a2) {n_a3 : Int32} {a3 : Int} (e_a3 : n_a3 = iI a3) : Si iI (N12_told n_a1 n_a2 n_a3) (T12_told a1 a2 a3) := by
  subst e_a1
  subst e_a2
  subst e_a3
  unfold N12_told T12_told
  refine si_b (v_N12_isCopy rfl) fun v1 => ?_
  refine si_ig fun h1 => ?_
  refine si_ite (cEq rfl (eLit 0) ⟨h1, (by decide)⟩) ?_ ?_
  · refine si_b (v_N12_no (eLit 1)) fun v2 => ?_
    exact si_re rfl
  · refine si_b (v_N12_isIn rfl (eLit 2) (eLit 5)) fun v3 => ?_
    refine si_ig fun h2 => ?_
    refine si_ite (cEq rfl (eLit 0) ⟨h2, (by decide)⟩) ?_ ?_
    · refine si_b (v_N12_no (eLit 3)) fun v4 => ?_
      exact si_re rfl
    · refine si_b (v_N12_look rfl) fun _ => ?_
      exact (vT_told_40 LFU rfl rfl rfl (eLit 0))
section IN2
variable {W W' : IS} {J J2 J' : JS} {m : Int} {b : Nat}
theorem NcR.kp (h : NcR J J' b) (h16 : jC J < 16) (h8 : jB J ≤ 8) : JKp J J' := by
  obtain ⟨n1, n2, n3, ⟨n4, n4', n4''⟩, n5, n6, n7, n8, n9, n10⟩ := h
  refine ⟨by omega, n7, fun b hb => ⟨by rw [n5], by rw [n8], n1 6 _ (by omega), fun t t0 t1 => n2 t _ (by omega), n2 7 _ (by omega), fun i i0 i1 => ⟨n1 1 i (by omega), n2 1 i (by omega)⟩⟩, fun c hc => ⟨by rw [n6, if_neg (by omega)], n10 c (by omega), by rw [n9, if_neg (by omega)], n1 12 _ (by omega), fun i i0 i1 => ⟨n1 1 i (by omega), n2 1 i (by omega)⟩⟩⟩
/-- a copy more -/
theorem Inv.copy (hI : Inv W J) (k2 : JKp J J2) (r2 : J2.2.2 = J.2.2) (s2 : js J2 8 0 = js J 8 0 ∧ js J2 9 0 = js J 9 0) (hb : b < jB J) (hc : jC J < 16) (hw : WKp W W' (jB J) (jC J)) (hN : NcR J2 J' b) (hq : CpQ J' (jC J) b (LC (mB W' b)) m (eC W' (jC J)) (cjC W' b) (nmC W' b)) (e16 : W'.2 16 (jC J) = b) (e17 : W'.2 17 (jC J) = m) (hT : TpR J2 (W'.2 0) (W'.1 1)) (h5 : W'.1 5 = W.1 5) (h15 : W'.1 15 = W.1 15 + 1) (h3 : js J2 5 0 = W'.1 3) (h4 : js J2 10 0 = W'.1 4) (h2 : W'.1 2 = 0) : Inv W' J' := by
  obtain ⟨i1, i2, i3, i4, i5, i6, i7⟩ := hI
  have eb := jB_r r2
  have ec := jC_r r2
  have k : JKp J J' := k2.trans (hN.kp (by omega) (by omega))
  obtain ⟨n1, n2, n3, ⟨n4, n4', n4''⟩, n5, n6, n7, n8, n9, n10⟩ := hN
  refine ⟨i1.kp k, hT.eq (n1 2 0 (by omega)) (n2 2 0 (by omega)), ?_, ?_, ?_, fun x hx => (i6 x (by omega)).kp (by omega) k (hw.1 x (by omega)), fun x hx => ?_⟩
  · rw [n1 8 0 (by omega), s2.1, n4, eb, h5]
    exact i3
  · rw [n3.1, s2.2, n4', ec, h15]
    omega
  · rw [n1 5 0 (by omega), n1 10 0 (by omega), n3.2, h3, h4, h2]
    exact ⟨rfl, rfl, rfl⟩
  · by_cases c : x = jC J
    · subst c
      exact ⟨b, by omega, e16, by rw [e17]; exact hq⟩
    · exact (i7 x (by omega)).kp (by omega) i6 k hw
/-- the class keeps what the model has kept -/
theorem s_keep (hI : Inv W J) (k2 : JKp J J2) (r2 : J2.2.2 = J.2.2) (s2 : js J2 8 0 = js J 8 0 ∧ js J2 9 0 = js J 9 0) (hb : b < jB J) (hc : jC J < 16) (hw : WKp W W' (jB J) (jC J)) (e16 : W'.2 16 (jC J) = b) (e17 : W'.2 17 (jC J) = m) (hm : 0 ≤ m ∧ m ≤ 400) (hRo : RoR J2 12 (eC W' (jC J)) m) (hE : ∀ i, 0 ≤ i → i < m → 0 ≤ eC W' (jC J) i ∧ eC W' (jC J) i < LC (mB W' b)) (hT : TpR J2 (W'.2 0) (W'.1 1)) (h5 : W'.1 5 = W.1 5) (h15 : W'.1 15 = W.1 15 + 1) (h3 : js J2 5 0 = W'.1 3) (h4 : js J2 10 0 = W'.1 4) (h2 : W'.1 2 = 0) {W1 : IS} {x : IM Int} (hx : x W1 = some ((jC J : Int), W')) {n : Int} (hn : n = b) : SQ x (ib (G11_keepCopy n b) fun v => jret v) W1 J2 := by
  have eb := jB_r r2
  have ec := jC_r r2
  have i3 := hI.2.2.1
  have i4 := hI.2.2.2.1
  have hB' := (hI.2.2.2.2.2.1 b hb).kp hb k2 (hw.1 b hb)
  refine ⟨trivial, ?_⟩
  unfold Sm2
  rw [wp_ret hx, wp_ib]
  refine c_keepCopy (m := m) (E := eC W' (jC J)) (hI.1.r r2) hB'.2.2.1 hB'.2.1 (by omega) (by rw [s2.2, ec]; omega) (by omega) hm hRo hE fun J' hN _ hq => ?_
  rw [jp_ret, ec]
  rw [ec] at hq
  rcases hq with hq | hq
  · exact ⟨rfl, hI.copy k2 r2 s2 hb hc hw hN hq e16 e17 hT h5 h15 h3 h4 h2⟩
  · exact absurd hn hq
end IN2
