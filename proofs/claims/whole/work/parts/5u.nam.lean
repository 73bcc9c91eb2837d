/-! ===== names: where they are ===== -/
def pnm (B : BK) (s i b p : Int) : Prop := (b = 0 ∧ p = -1) ∨ (b ≠ 0 ∧ plc B s i (if b < 0 then 0 else b) p)
section NAM
variable {W : IS} {J : JS} {T : Int → Int} {n c : Int} {j : Nat}
theorem pnm_u {B : BK} (hB : BOK B) {s i b p p' : Int} (h : pnm B s i b p) (h' : pnm B s i b p') : p = p' := by
  rcases h with ⟨h1, h2⟩ | ⟨h1, h2⟩ <;> rcases h' with ⟨h3, h4⟩ | ⟨h3, h4⟩
  · omega
  · omega
  · omega
  · exact plc_u hB h2 h4
theorem pnm_bd {B : BK} (hB : BOK B) (hL : LC B ≤ 400) {s i b p : Int} (h : pnm B s i b p) : -1 ≤ p ∧ p < LC B ∧ p < 400 := by
  have h0 := LC_tot hB
  rcases h with ⟨h1, h2⟩ | ⟨h1, ⟨g, h2, -⟩ | ⟨h2, -⟩⟩
  · omega
  · have := LC_bd hB h2
    omega
  · omega
theorem m_named {b : Int} (hb0 : 0 ≤ b) (hb : b < 8) (hI : BkI W b) {s i k : Int} (hn : nmB W s i k) {Q : Int → IS → Prop} (hq : ∀ p, pnm (mB W b) s i k p → Q p W) : wp (I12_named b) Q W := by
  obtain ⟨⟨e1, e2, e3⟩, r1, r2, r3⟩ := hn
  unfold I12_named I12_named_36
  rw [wp_ib, wp_igI, e3, wp_ig, wp_ite]
  refine ⟨⟨by omega, by omega⟩, ?_⟩
  by_cases c0 : k = 0
  · rw [if_pos c0, wp_ir]
    exact hq _ (Or.inl ⟨c0, rfl⟩)
  · rw [if_neg c0, wp_ib, wp_igI, e1, wp_ib, wp_igI, e2, wp_ib, wp_igI, e3, wp_ig, wp_ite]
    refine ⟨⟨by omega, by omega⟩, ?_⟩
    by_cases c1 : 0 ≤ k
    · rw [if_pos c1, wp_ib, wp_igI, e3, wp_ib]
      refine m_placeOf hb0 hb hI ⟨by omega, by omega⟩ ⟨by omega, by omega⟩ ⟨by omega, by omega⟩ fun p hp => ?_
      rw [wp_ir]
      exact hq p (Or.inr ⟨c0, by rw [if_neg (by omega)]; exact hp⟩)
    · rw [if_neg c1, wp_ib]
      refine m_placeOf hb0 hb hI ⟨by omega, by omega⟩ ⟨by omega, by omega⟩ (by decide) fun p hp => ?_
      rw [wp_ir]
      exact hq p (Or.inr ⟨c0, by rw [if_pos (by omega)]; exact hp⟩)
theorem c_placeOf {b : Nat} (hJ : BoR J W b) (hI : BkI W (b : Int)) {x s i k : Int} (e1 : G8_get 9 x J = some (s, J)) (e2 : G8_get 10 x J = some (i, J)) (e3 : G8_get 11 x J = some (k, J)) (r1 : 0 ≤ s ∧ s ≤ 70) (r2 : 0 ≤ i ∧ i ≤ 999) (r3 : -1 ≤ k ∧ k ≤ 999) {Q : Int → JS → Prop} (hq : ∀ p, pnm (mB W b) s i k p → Q p J) : wp (G0_placeOf b x) Q J := by
  have hb := hJ.2.1
  unfold G0_placeOf
  rw [wp_ib, jp_E, kj_3, wp_ib, wp_ret e1, wp_ib, wp_ret e2, wp_ib, jp_E, kj_2, wp_ib]
  refine ⟨hb, by omega, c_slotOf (by omega) hJ.1 hI.1 ⟨by omega, by omega⟩ ⟨by omega, by omega⟩ (fun g hV eg => ?_) (fun hn => ?_)⟩
  · rw [wp_ib, wp_ret e3, wp_ib, jp_E, kj_3, wp_ib, wp_ret (c_placeOfSlot hJ hI hV ⟨by omega, by omega⟩), jp_ret]
    refine ⟨hb, hq _ ?_⟩
    have hc := cut01 (B := mB W b) g i
    have hm := (hI.1.2.2.1 g i hV.1.1 hV.1.2 hV.2.1 hV.2.2).2
    have no : ∀ kk, (∀ q, ¬ isAt (mB W b) q g i kk) → ∀ q g', isAt (mB W b) q g' i kk → bs (mB W b) g' ≠ s := fun kk hno q g' hA e => by
      have eg' := bs_inj hI.1 hA.1.1 hV.1 (e.trans eg.symm)
      subst eg'
      exact hno q hA
    by_cases k1 : k = -1
    · rw [if_pos k1]
      refine Or.inr ⟨by omega, ?_⟩
      rw [if_pos (show k < 0 by omega)]
      by_cases k2 : cut (mB W b) g i = 0
      · rw [if_pos k2]
        exact Or.inl ⟨g, ⟨hV, by omega, by omega⟩, eg⟩
      · rw [if_neg k2]
        exact Or.inr ⟨rfl, no 0 fun q hA => by have := hA.2.1; omega⟩
    · rw [if_neg k1]
      by_cases k0 : k = 0
      · rw [if_pos (show k < 1 ∨ bm (mB W b) g i < k by omega)]
        exact Or.inl ⟨k0, rfl⟩
      · refine Or.inr ⟨k0, ?_⟩
        rw [if_neg (show ¬ k < 0 by omega)]
        by_cases k2 : bm (mB W b) g i < k
        · rw [if_pos (Or.inr k2)]
          exact Or.inr ⟨rfl, no k fun q hA => by have := hA.2.1; omega⟩
        · rw [if_neg (show ¬ (k < 1 ∨ bm (mB W b) g i < k) by omega)]
          exact Or.inl ⟨g, ⟨hV, by omega, rfl⟩, eg⟩
  · rw [wp_ib, wp_ret e3, wp_ib, jp_E, kj_3, wp_ib, wp_ret (c_placeOfNo hb rfl), jp_ret]
    refine ⟨hb, hq _ ?_⟩
    by_cases k0 : k = 0
    · exact Or.inl ⟨k0, rfl⟩
    · exact Or.inr ⟨k0, Or.inr ⟨rfl, fun q g hA e => hn g hA.1 e⟩⟩
/-- both read a name -/
theorem b_name (hT : byt T n) {mk : Int} (hmk : mk = 0 ∨ mk = 45) (hc : 0 ≤ c ∧ 2 * c ≤ j) (hM : Mst W T n 1 j) (hJ : Cst J T n j) (hl : js J 1 8 = c ∧ js J 1 9 = c ∧ js J 1 10 = c ∧ js J 1 11 = c) : ∃ W' v J', I12_readName W = some ((), W') ∧ G7_readsOneName mk J = some (v, J') ∧ FrN W W' ∧ FrD J J' ∧ ∃ s i b, nmB W' s i b ∧ ((v = 1 ∧ ∃ j', Mst W' T n 1 j' ∧ Cst J' T n j' ∧ j + 2 ≤ j' ∧ (js J' 1 8 = c + 1 ∧ js J' 1 9 = c + 1 ∧ js J' 1 10 = c + 1 ∧ js J' 1 11 = c + 1) ∧ (∀ l, ja J' 1 8 l = if l = c then mk else ja J 1 8 l) ∧ (∀ l, ja J' 1 9 l = if l = c then s else ja J 1 9 l) ∧ (∀ l, ja J' 1 10 l = if l = c then i else ja J 1 10 l) ∧ (∀ l, ja J' 1 11 l = if l = c then b else ja J 1 11 l)) ∨ (v = 0 ∧ ∃ j', Mst W' T n 0 j' ∧ js J' 5 0 = tkP T n j')) := by
  have h120 := (Cst.le hT hJ).1
  obtain ⟨u, W', e1, q1⟩ := wp_ex (m_readName (Q := fun _ W' => FrN W W' ∧ ∃ j' s i b, nmB W' s i b ∧ ((rdN T n j = (j', some (s, i, b)) ∧ j + 2 ≤ j' ∧ Mst W' T n 1 j') ∨ (rdN T n j = (j', none) ∧ Mst W' T n 0 j'))) hT hM (fun W' j' s i b a1 a2 a3 a4 a5 => ⟨a3, j', s, i, b, a5, Or.inl ⟨a1, a2, a4⟩⟩) (fun W' j' s i b a1 a3 a4 a5 => ⟨a3, j', s, i, b, a5, Or.inr ⟨a1, a4⟩⟩))
  obtain ⟨f1, j', s, i, b, hn, q1⟩ := q1
  rcases q1 with ⟨r1, r2, r3⟩ | ⟨r1, r3⟩
  · have hw : wp (G7_readsOneName mk) (fun v J' => v = 1 ∧ FrD J J' ∧ Cst J' T n j' ∧ (js J' 1 8 = c + 1 ∧ js J' 1 9 = c + 1 ∧ js J' 1 10 = c + 1 ∧ js J' 1 11 = c + 1) ∧ (∀ l, ja J' 1 8 l = if l = c then mk else ja J 1 8 l) ∧ (∀ l, ja J' 1 9 l = if l = c then s else ja J 1 9 l) ∧ (∀ l, ja J' 1 10 l = if l = c then i else ja J 1 10 l) ∧ (∀ l, ja J' 1 11 l = if l = c then b else ja J 1 11 l)) J := by
      refine c_readsOneName hT hmk ⟨by omega, by omega⟩ hJ hl (fun J' j2 s2 i2 b2 a1 a2 a3 a4 a5 a6 a7 a8 a9 => ?_) (fun J' j2 a1 a2 a3 => ?_)
      · rw [r1] at a1
        cases a1
        exact ⟨rfl, a3, a4, a5, a6, a7, a8, a9⟩
      · rw [r1] at a1
        cases a1
    obtain ⟨v, J', e2, q2⟩ := wp_ex hw
    exact ⟨W', v, J', e1, e2, f1, q2.2.1, s, i, b, hn, Or.inl ⟨q2.1, j', r3, q2.2.2.1, r2, q2.2.2.2⟩⟩
  · have hw : wp (G7_readsOneName mk) (fun v J' => v = 0 ∧ FrD J J' ∧ js J' 5 0 = tkP T n j') J := by
      refine c_readsOneName hT hmk ⟨by omega, by omega⟩ hJ hl (fun J' j2 s2 i2 b2 a1 a2 a3 a4 a5 a6 a7 a8 a9 => ?_) (fun J' j2 a1 a2 a3 => ?_)
      · rw [r1] at a1
        cases a1
      · rw [r1] at a1
        cases a1
        exact ⟨rfl, a2, a3⟩
    obtain ⟨v, J', e2, q2⟩ := wp_ex hw
    exact ⟨W', v, J', e1, e2, f1, q2.2.1, s, i, b, hn, Or.inr ⟨q2.1, j', r3, q2.2.2⟩⟩
/-- the model is at a text's end -/
theorem m_end2 (hT : byt T n) {gd : Int} (hgd : gd = 0 ∨ gd = 1) (hM : Mst W T n gd j) : ∃ r W', I12_ends W = some (r, W') ∧ W'.2 = W.2 ∧ (∀ k, k ≠ 1 → k ≠ 3 → k ≠ 23 → W'.1 k = W.1 k) ∧ W'.1 1 = 0 ∧ ((r = 1 ∧ gd = 1 ∧ kdP T n (tkP T n j) = 0 ∧ W'.1 3 = -9) ∨ (r = 0 ∧ (gd = 0 ∨ kdP T n (tkP T n j) ≠ 0) ∧ W'.1 3 = tkP T n j)) := by
  obtain ⟨r, W', e, q⟩ := wp_ex (m_ends (Q := fun r W' => W'.2 = W.2 ∧ (∀ k, k ≠ 1 → k ≠ 3 → k ≠ 23 → W'.1 k = W.1 k) ∧ W'.1 1 = 0 ∧ ((r = 1 ∧ gd = 1 ∧ kdP T n (tkP T n j) = 0 ∧ W'.1 3 = -9) ∨ (r = 0 ∧ (gd = 0 ∨ kdP T n (tkP T n j) ≠ 0) ∧ W'.1 3 = tkP T n j))) hT hgd hM (fun a1 a2 W' a3 a4 a5 a6 => ⟨a3, a4, a5, Or.inl ⟨rfl, a1, a2, a6⟩⟩) (fun a1 W' a3 a4 a5 a6 => ⟨a3, a4, a5, Or.inr ⟨rfl, a1, a6⟩⟩))
  exact ⟨r, W', e, q⟩
theorem Inv.cut0 (hI : Inv W J) : Inv (iu1 W 1 0) (ju1 J 2 0 0) := by
  obtain ⟨i1, i2, i3, i4, i5, i6, i7⟩ := id hI
  refine hI.same ?_ (by rw [iu1_1, if_neg (by omega)]) (by rw [iu1_1, if_neg (by omega)]) ⟨by rw [ju1_s, if_neg (by omega)], by rw [ju1_s, if_neg (by omega)]⟩ ⟨?_, ?_, ?_⟩ ⟨rfl, rfl⟩ (JKp.u (by omega)) (WKp.same fun _ _ => rfl)
  · rw [iu1_1, if_pos rfl]
    exact TpR.z (by rw [ju1_s, if_pos ⟨rfl, rfl⟩])
  · rw [ju1_s, if_neg (by omega), iu1_1, if_neg (by omega), i5.1]
  · rw [ju1_s, if_neg (by omega), iu1_1, if_neg (by omega), i5.2.1]
  · rw [ju1_s, if_neg (by omega), iu1_1, if_neg (by omega), i5.2.2]
theorem c_cutTo {a : Int} : G10_cutTo a J = some ((), ju1 J 2 0 a) := by
  refine wp_eq ?_
  unfold G10_cutTo
  rw [wp_ib, jP2, jp_ret]
  exact ⟨rfl, rfl⟩
/-- what the state is behind a text that was read -/
theorem Inv.rd {W2 : IS} {J1 : JS} (hI : Inv W J) (k1 : JKp J J1) (r1 : J1.2.2 = J.2.2) (s1 : js J1 8 0 = js J 8 0 ∧ js J1 9 0 = js J 9 0) (hw : WKp W W2 (jB J) (jC J)) (h1 : W2.1 1 = 0) (h2 : W2.1 2 = js J1 11 0) (h5 : W2.1 5 = W.1 5) (h15 : W2.1 15 = W.1 15) (h3 : js J1 5 0 = W2.1 3) (h4 : js J1 10 0 = W2.1 4) (hz : js J1 2 0 = 0) : Inv W2 J1 := by
  refine hI.same ?_ h5 h15 s1 ⟨h3, h4, h2.symm⟩ ⟨jB_r r1, jC_r r1⟩ k1 hw
  rw [h1]
  exact TpR.z hz
end NAM
