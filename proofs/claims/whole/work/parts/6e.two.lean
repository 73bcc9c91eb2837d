/-! ===== two copies: what stands in them ===== -/
def mkE (E : Int → Int) (m p : Int) : Int := if tmE E m p = 0 then 0 else 1
/-- only this row of the model's may differ -/
def FrV (k : Nat) (W W' : IS) : Prop := W'.1 = W.1 ∧ ∀ k', k' ≠ k → W'.2 k' = W.2 k'
section TWO
variable {W : IS} {J : JS} {E E' : Int → Int} {m m' n : Int} {c c' k b : Nat}
theorem FrV.refl : FrV k W W := ⟨rfl, fun _ _ => rfl⟩
theorem FrV.trans {W1 W2 W3 : IS} (h : FrV k W1 W2) (h' : FrV k W2 W3) : FrV k W1 W3 := ⟨h'.1.trans h.1, fun k' q => (h'.2 k' q).trans (h.2 k' q)⟩
theorem FrV.u {i x : Int} : FrV k W (iu2 W k i x) := ⟨rfl, fun k' q => by funext l; rw [iu2_2, if_neg (fun r => q r.1)]⟩
theorem mkE_0 (p : Int) : mkE E 0 p = 0 := rfl
theorem mkE_s {i : Int} (h : 0 ≤ i ∧ i ≤ 400) (p : Int) : mkE E (i + 1) p = if E i = p then 1 else mkE E i p := by
  have := tmE_bd (E := E) h p
  unfold mkE
  rw [tmE_s h.1]
  by_cases q : E i = p
  · rw [if_pos q, if_pos q, if_neg (by omega)]
  · rw [if_neg q, if_neg q, Int.add_zero]
theorem mkE_b (p : Int) : mkE E m p = 0 ∨ mkE E m p = 1 := by
  unfold mkE
  split
  · exact Or.inl rfl
  · exact Or.inr rfl
theorem mkE_o (hE : ∀ i, 0 ≤ i → i < m → E i < n) {p : Int} (hp : n ≤ p) : mkE E m p = 0 := by
  unfold mkE
  refine if_pos ?_
  unfold tmE
  refine smz_0 _ 0 fun i i0 i1 => ?_
  have := hE i i0 (by omega)
  exact if_neg (by omega)
theorem m_mk21 (hz : isA k = true ∧ isZ k = true ∧ lenM k = 400) (hk : 17 ≠ k ∧ 18 ≠ k) (hc : c < 16) (h17 : W.2 17 c = m) (hm : 0 ≤ m ∧ m ≤ 400) (hE : ∀ j, 0 ≤ j → j < m → W.2 18 ((c : Int) * 400 + j) = E j ∧ 0 ≤ E j ∧ E j < 400) {Q : Unit → IS → Prop} (hq : ∀ W', FrV k W W' → (∀ p, 0 ≤ p → p < 400 → W'.2 k p = mkE E m p) → Q () W') : ∀ (d f : Nat) (i : Int) (W1 : IS), d < f → 0 ≤ i → i + d = m → FrV k W W1 → (∀ p, 0 ≤ p → p < 400 → W1.2 k p = mkE E i p) → wp (I12_mark_21 f c k i) Q W1 := by
  intro d
  induction d with
  | zero =>
    intro f i W1 hf i0 i1 hF hM
    cases f with
    | zero => omega
    | succ f =>
      have e17 : W1.2 17 (c : Int) = m := by rw [hF.2 17 hk.1]; exact h17
      unfold I12_mark_21 I12_mark_21_st
      rw [wp_ib, wA17, e17, wp_ig, wp_ig, wp_ite, if_pos (show m ≤ i by omega), wp_ir]
      have ei : i = m := by omega
      rw [ei] at hM
      exact ⟨⟨by omega, by omega⟩, ⟨by omega, by omega⟩, ⟨by omega, by omega⟩, hq W1 hF hM⟩
  | succ d ih =>
    intro f i W1 hf i0 i1 hF hM
    cases f with
    | zero => omega
    | succ f =>
      have e17 : W1.2 17 (c : Int) = m := by rw [hF.2 17 hk.1]; exact h17
      have e18 : W1.2 18 ((c : Int) * 400 + i) = E i := by rw [hF.2 18 hk.2]; exact (hE i i0 (by omega)).1
      have hEi := (hE i i0 (by omega)).2
      unfold I12_mark_21 I12_mark_21_st
      rw [wp_ib, wA17, e17, wp_ig, wp_ig, wp_ite, if_neg (show ¬ m ≤ i by omega), wp_ib, wA18, e18, wp_ib, wpY hz]
      refine ⟨⟨by omega, by omega⟩, ⟨by omega, by omega⟩, ⟨by omega, by omega⟩, ⟨by omega, by omega⟩, ⟨hEi, Or.inr rfl⟩, ih f (i + 1) _ (by omega) (by omega) (by omega) (hF.trans FrV.u) fun p p0 p1 => ?_⟩
      rw [mkE_s ⟨i0, by omega⟩, iu2_2]
      by_cases e : p = E i
      · rw [if_pos ⟨rfl, e⟩, if_pos e.symm]
      · rw [if_neg (fun q => e q.2), if_neg (fun q => e q.symm)]
        exact hM p p0 p1
theorem m_mk2 (hz : isA k = true ∧ isZ k = true ∧ lenM k = 400) {Q : Unit → IS → Prop} (hq : ∀ W', FrV k W W' → (∀ p, 0 ≤ p → p < 400 → W'.2 k p = 0) → wp (I12_mark_19 c k) Q W') : ∀ (d f : Nat) (i : Int) (W1 : IS), d < f → 0 ≤ i → i + d = 400 → FrV k W W1 → (∀ p, 0 ≤ p → p < i → W1.2 k p = 0) → wp (I12_mark_2 f c k i) Q W1 := by
  intro d
  induction d with
  | zero =>
    intro f i W1 hf i0 i1 hF hM
    cases f with
    | zero => omega
    | succ f =>
      unfold I12_mark_2 I12_mark_2_st
      rw [wp_ig, wp_ite, if_pos (show 400 ≤ i by omega)]
      exact ⟨⟨by omega, by omega⟩, hq W1 hF fun p p0 p1 => hM p p0 (by omega)⟩
  | succ d ih =>
    intro f i W1 hf i0 i1 hF hM
    cases f with
    | zero => omega
    | succ f =>
      unfold I12_mark_2 I12_mark_2_st
      rw [wp_ig, wp_ite, if_neg (show ¬ 400 ≤ i by omega), wp_ib, wpY hz]
      refine ⟨⟨by omega, by omega⟩, ⟨⟨by omega, by omega⟩, Or.inl rfl⟩, ih f (i + 1) _ (by omega) (by omega) (by omega) (hF.trans FrV.u) fun p p0 p1 => ?_⟩
      rw [iu2_2]
      by_cases e : p = i
      · rw [if_pos ⟨rfl, e⟩]
      · rw [if_neg (fun q => e q.2)]
        exact hM p p0 (by omega)
theorem m_mark (hz : isA k = true ∧ isZ k = true ∧ lenM k = 400) (hk : 17 ≠ k ∧ 18 ≠ k) (hc : c < 16) (h17 : W.2 17 c = m) (hm : 0 ≤ m ∧ m ≤ 400) (hE : ∀ j, 0 ≤ j → j < m → W.2 18 ((c : Int) * 400 + j) = E j ∧ 0 ≤ E j ∧ E j < 400) : ∃ W', I12_mark c k W = some ((), W') ∧ FrV k W W' ∧ ∀ p, 0 ≤ p → p < 400 → W'.2 k p = mkE E m p := by
  have h : wp (I12_mark c k) (fun _ W' => FrV k W W' ∧ ∀ p, 0 ≤ p → p < 400 → W'.2 k p = mkE E m p) W := by
    unfold I12_mark
    refine m_mk2 (W := W) (c := c) hz (fun W1 f1 h1 => ?_) 400 LFU 0 W (by decide) (Int.le_refl _) (by omega) FrV.refl fun p p0 p1 => by omega
    unfold I12_mark_19
    refine m_mk21 (W := W1) (E := E) (m := m) hz hk hc (by rw [f1.2 17 hk.1]; exact h17) hm (fun j j0 j1 => by rw [f1.2 18 hk.2]; exact hE j j0 j1) (fun W2 f2 h2 => ⟨f1.trans f2, h2⟩) m.toNat LFU 0 W1 (Nat.lt_of_le_of_lt (show m.toNat ≤ 400 by omega) (by decide)) (Int.le_refl _) (by omega) FrV.refl fun p p0 p1 => by rw [mkE_0]; exact h1 p p0 p1
  obtain ⟨v, W', e, q⟩ := wp_ex h
  exact ⟨W', e, q⟩
/-! the class -/
theorem iOr_2 {a b : Int} (ha : a = 0 ∨ a = 1) (hb : b = 0 ∨ b = 1) : iOr (a + 2 * b) 2 = a + 2 := by
  rcases ha with rfl | rfl <;> rcases hb with rfl | rfl <;> decide
theorem c_mb42 {J0 : JS} (hc' : c' < jC J0) (hR' : RoR J0 (200 + 0 + 5 * c') E' m') (hm' : 0 ≤ m' ∧ m' ≤ 400) (hE' : ∀ i, 0 ≤ i → i < m' → 0 ≤ E' i ∧ E' i < 400) {Q : Unit → JS → Prop} (hq : ∀ J', FrMk J0 J' → (∀ p, 0 ≤ p → p < 400 → ja J' 8 0 p = mkE E m p + 2 * mkE E' m' p) → Q () J') : ∀ (d f : Nat) (i : Int) (J : JS), d < f → 0 ≤ i → i + d = m' → FrMk J0 J → (∀ p, 0 ≤ p → p < 400 → ja J 8 0 p = mkE E m p + 2 * mkE E' i p) → wp (G1_markBoth_42 f c' i) Q J := by
  intro d
  induction d with
  | zero =>
    intro f i J hf i0 i1 hF hM
    cases f with
    | zero => omega
    | succ f =>
      have hR := hR'.mk hF
      have hcJ : c' < jC J := by rw [jC_r hF.2.2]; exact hc'
      have hs : js J 1 (200 + 5 * c') = m' := hR.1
      unfold G1_markBoth_42 G1_markBoth_42_st
      rw [wp_ib, jp_E, kj_4, wp_ib, jG1, kj_1, hs, wp_ig, wp_ig, wp_ite, if_pos (show m' ≤ i by omega), jp_ret]
      have ei : i = m' := by omega
      rw [ei] at hM
      exact ⟨hcJ, rx_c (r := 0) hcJ (by omega), ⟨by omega, by omega⟩, ⟨by omega, by omega⟩, hq J hF hM⟩
  | succ d ih =>
    intro f i J hf i0 i1 hF hM
    cases f with
    | zero => omega
    | succ f =>
      have hR := hR'.mk hF
      have hcJ : c' < jC J := by rw [jC_r hF.2.2]; exact hc'
      have hx := rx_c (r := 0) hcJ (by omega)
      have hs : js J 1 (200 + 5 * c') = m' := hR.1
      have he := hE' i i0 (by omega)
      have eg : G8_get (200 + 5 * c') i J = some (E' i, J) := hR.g hx ⟨hm'.1, by rw [rl4 (by omega)]; omega⟩ i0 (by omega) hm'.2
      unfold G1_markBoth_42 G1_markBoth_42_st
      rw [wp_ib, jp_E, kj_4, wp_ib, jG1, kj_1, hs, wp_ig, wp_ig, wp_ite, if_neg (show ¬ m' ≤ i by omega), wp_ib, jp_E, kj_4, wp_ib, jp_E, kj_1, wp_ib, wp_ret eg, wp_ib, wp_ret (c_markAt ⟨by omega, by omega⟩), if_pos he, hM _ he.1 he.2, iOr_2 (mkE_b _) (mkE_b _), wp_ib, wp_ret (c_setMark he.1 he.2)]
      refine ⟨hcJ, hx, ⟨by omega, by omega⟩, ⟨by omega, by omega⟩, hcJ, hx, ih f (i + 1) _ (by omega) (by omega) (by omega) (hF.trans FrMk.s) fun p p0 p1 => ?_⟩
      rw [mkE_s ⟨i0, by omega⟩, ju2_a]
      by_cases e : p = E' i
      · rw [if_pos ⟨rfl, rfl, e⟩, if_pos e.symm, e]
        omega
      · rw [if_neg (fun q => e q.2.2), if_neg (fun q => e q.symm)]
        exact hM p p0 p1
theorem c_mb10 {J0 : JS} (hc : c < jC J0) (hR0 : RoR J0 (200 + 0 + 5 * c) E m) (hm : 0 ≤ m ∧ m ≤ 400) (hE : ∀ i, 0 ≤ i → i < m → 0 ≤ E i ∧ E i < 400) {Q : Unit → JS → Prop} (hq : ∀ J', FrMk J0 J' → (∀ p, 0 ≤ p → p < 400 → ja J' 8 0 p = mkE E m p) → wp (G1_markBoth_40 c') Q J') : ∀ (d f : Nat) (i : Int) (J : JS), d < f → 0 ≤ i → i + d = m → FrMk J0 J → (∀ p, 0 ≤ p → p < 400 → ja J 8 0 p = mkE E i p) → wp (G1_markBoth_10 f c c' i) Q J := by
  intro d
  induction d with
  | zero =>
    intro f i J hf i0 i1 hF hM
    cases f with
    | zero => omega
    | succ f =>
      have hR := hR0.mk hF
      have hcJ : c < jC J := by rw [jC_r hF.2.2]; exact hc
      have hs : js J 1 (200 + 5 * c) = m := hR.1
      unfold G1_markBoth_10 G1_markBoth_10_st
      rw [wp_ib, jp_E, kj_4, wp_ib, jG1, kj_1, hs, wp_ig, wp_ig, wp_ite, if_pos (show m ≤ i by omega)]
      have ei : i = m := by omega
      rw [ei] at hM
      exact ⟨hcJ, rx_c (r := 0) hcJ (by omega), ⟨by omega, by omega⟩, ⟨by omega, by omega⟩, hq J hF hM⟩
  | succ d ih =>
    intro f i J hf i0 i1 hF hM
    cases f with
    | zero => omega
    | succ f =>
      have hR := hR0.mk hF
      have hcJ : c < jC J := by rw [jC_r hF.2.2]; exact hc
      have hx := rx_c (r := 0) hcJ (by omega)
      have hs : js J 1 (200 + 5 * c) = m := hR.1
      have he := hE i i0 (by omega)
      have eg : G8_get (200 + 5 * c) i J = some (E i, J) := hR.g hx ⟨hm.1, by rw [rl4 (by omega)]; omega⟩ i0 (by omega) hm.2
      unfold G1_markBoth_10 G1_markBoth_10_st
      rw [wp_ib, jp_E, kj_4, wp_ib, jG1, kj_1, hs, wp_ig, wp_ig, wp_ite, if_neg (show ¬ m ≤ i by omega), wp_ib, jp_E, kj_4, wp_ib, jp_E, kj_1, wp_ib, wp_ret eg, wp_ib, wp_ret (c_setMark he.1 he.2)]
      refine ⟨hcJ, hx, ⟨by omega, by omega⟩, ⟨by omega, by omega⟩, hcJ, hx, ih f (i + 1) _ (by omega) (by omega) (by omega) (hF.trans FrMk.s) fun p p0 p1 => ?_⟩
      rw [mkE_s ⟨i0, by omega⟩, ju2_a]
      by_cases e : p = E i
      · rw [if_pos ⟨rfl, rfl, e⟩, if_pos e.symm]
      · rw [if_neg (fun q => e q.2.2), if_neg (fun q => e q.symm)]
        exact hM p p0 p1
theorem c_markBoth (hc : c < jC J) (hc' : c' < jC J) (hR : RoR J (200 + 0 + 5 * c) E m) (hR' : RoR J (200 + 0 + 5 * c') E' m') (hm : 0 ≤ m ∧ m ≤ 400) (hm' : 0 ≤ m' ∧ m' ≤ 400) (hE : ∀ i, 0 ≤ i → i < m → 0 ≤ E i ∧ E i < 400) (hE' : ∀ i, 0 ≤ i → i < m' → 0 ≤ E' i ∧ E' i < 400) : ∃ J', G1_markBoth c c' J = some ((), J') ∧ FrMk J J' ∧ ∀ p, 0 ≤ p → p < 400 → ja J' 8 0 p = mkE E m p + 2 * mkE E' m' p := by
  have h : wp (G1_markBoth c c') (fun _ J' => FrMk J J' ∧ ∀ p, 0 ≤ p → p < 400 → ja J' 8 0 p = mkE E m p + 2 * mkE E' m' p) J := by
    unfold G1_markBoth
    rw [wp_ib, jpFi]
    refine ⟨⟨rfl, rfl⟩, c_mb10 (J0 := J) (E := E) (m := m) hc hR hm hE (fun J1 f1 h1 => ?_) m.toNat LFU 0 _ (Nat.lt_of_le_of_lt (show m.toNat ≤ 400 by omega) (by decide)) (Int.le_refl _) (by omega) FrMk.clr fun p p0 p1 => ?_⟩
    · unfold G1_markBoth_40
      refine c_mb42 (J0 := J1) (E := E) (m := m) (E' := E') (m' := m') (by rw [jC_r f1.2.2]; exact hc') (hR'.mk f1) hm' hE' (fun J2 f2 h2 => ⟨f1.trans f2, h2⟩) m'.toNat LFU 0 J1 (Nat.lt_of_le_of_lt (show m'.toNat ≤ 400 by omega) (by decide)) (Int.le_refl _) (by omega) FrMk.refl fun p p0 p1 => ?_
      rw [h1 p p0 p1, mkE_0]
      omega
    · rw [juA_a, if_pos ⟨rfl, rfl⟩, mkE_0]
      exact if_pos p1
  obtain ⟨v, J', e, q⟩ := wp_ex h
  exact ⟨J', e, q⟩
end TWO
