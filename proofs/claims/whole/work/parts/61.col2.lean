/-! ===== the class lists strays ===== -/
section CO2
variable {W : IS} {J : JS} {E R : Int → Int} {m mx : Int} {b c : Nat}
theorem gst_sn (i : Nat) : gst E R mx (i + 1) = if rst E R mx i then ((gst E R mx i).1 - 1, E i) else gst E R mx i := rfl
theorem c_str8 {J0 : JS} (hc : c < jC J0) (hm : 0 ≤ m ∧ m ≤ 400) (hE : ∀ i, 0 ≤ i → i < m → 0 ≤ E i ∧ E i < 400) (hR : ∀ i, 0 ≤ i → i < m → 1 ≤ R i ∧ R i ≤ 400) (hx : 0 ≤ mx ∧ mx ≤ 400) (hRo : RoR J0 (200 + 5 * c) E m) (hRe : ∀ i, 0 ≤ i → i < m → ja J0 9 0 i = R i) {Q : Unit → JS → Prop} (hq : ∀ J', FrCo c J0 J' → (∀ r, r < 3 ∨ r = 4 → js J' 1 (200 + r + 5 * c) = js J0 1 (200 + r + 5 * c) ∧ ja J' 1 (200 + r + 5 * c) = ja J0 1 (200 + r + 5 * c)) → LsR J' (200 + 3 + 5 * c) (t4E E R mx) m → Q () J') : ∀ (d k : Nat) (x3 x4 x : Int) (J : JS), d < k → 0 ≤ x → x + d = m → FrCo c J0 J → (∀ r, r < 3 ∨ r = 4 → js J 1 (200 + r + 5 * c) = js J0 1 (200 + r + 5 * c) ∧ ja J 1 (200 + r + 5 * c) = ja J0 1 (200 + r + 5 * c)) → ja J 9 0 = ja J0 9 0 → (x3, x4) = gst E R mx x.toNat → LsR J (200 + 3 + 5 * c) (t4E E R mx) x → wp (G1_listStrays_8 k c x3 x4 x) Q J := by
  intro d
  induction d with
  | zero =>
    intro k x3 x4 x J hk x0 x1 hF hr h9 hg hL
    cases k with
    | zero => omega
    | succ k =>
      have hc' : c < jC J := by rw [jC_r hF.2.2]; exact hc
      have e0 : js J 1 (200 + 5 * c) = m := by rw [hF.1 1 _ (by omega)]; exact hRo.1
      unfold G1_listStrays_8 G1_listStrays_8_st
      rw [wp_ib, jp_E, kj_4, wp_ib, jG1, kj_1, e0, wp_ib, wn9, wp_ig, wp_ig, if_neg (show ¬ 400 < m by omega), wp_ig, wp_ig, wp_ite, if_pos (show m ≤ x by omega), jp_ret]
      have ex : x = m := by omega
      rw [ex] at hL
      exact ⟨hc', rx_c (r := 0) hc' (by omega), by decide, ⟨by omega, by omega⟩, ⟨by omega, by omega⟩, ⟨by omega, by omega⟩, hq J hF hr hL⟩
  | succ d ih =>
    intro k x3 x4 x J hk x0 x1 hF hr h9 hg hL
    cases k with
    | zero => omega
    | succ k =>
      have hc' : c < jC J := by rw [jC_r hF.2.2]; exact hc
      have hRo' : RoR J (200 + 5 * c) E m := by
        unfold RoR
        rw [hF.1 1 _ (by omega), hF.2.1 1 _ (by omega)]
        exact hRo
      have hbd := gst_bd (E := E) (R := R) (m := m.toNat) hx.1 hx.2 (fun i hi => (hR i (by omega) (by omega)).1) (fun i hi => hE i (by omega) (by omega)) x.toNat (by omega)
      have ex : ((x.toNat : Nat) : Int) = x := by omega
      have hEx := hE x x0 (by omega)
      have hRx := hR x x0 (by omega)
      have e9 : ja J 9 0 x = R x := by rw [h9]; exact hRe x x0 (by omega)
      have hrs : rst E R mx x.toNat ↔ (R x = x3 ∧ x4 < E x) := by
        unfold rst
        rw [← hg, ex]
      have hgs := gst_sn (E := E) (R := R) (mx := mx) x.toNat
      rw [show x.toNat + 1 = (x + 1).toNat by omega] at hgs
      rw [← hg] at hbd
      have hg1 : rst E R mx x.toNat → (x3 - 1, E x) = gst E R mx (x + 1).toNat := fun q => by rw [hgs, if_pos q, ← hg, ex]
      have hg0 : ¬ rst E R mx x.toNat → (x3, x4) = gst E R mx (x + 1).toNat := fun q => by rw [hgs, if_neg q, ← hg]
      have e4 : t4E E R mx x = if rst E R mx x.toNat then 0 else 1 := rfl
      have hb3 : -2147483648 ≤ x3 ∧ x3 < 2147483648 := by have := hbd.1; simp only at this; omega
      have hb4 : -2147483648 ≤ x4 ∧ x4 < 2147483648 := by have := hbd.2; simp only at this; omega
      have stray : ¬ (R x = x3 ∧ x4 < E x) → wp (G1_listStrays_71 (G1_listStrays_8 k) c x3 x4 x) Q J := fun hn => by
        rw [if_neg (fun q => hn (hrs.mp q))] at e4
        unfold G1_listStrays_71 G1_listStrays_81
        rw [wp_ib, jp_E, kj_4, wp_ib, jp_E, kj_1]
        refine ⟨hc', rx_c (r := 3) hc' (by omega), c_tell (r := 3) b4 hc' (by omega) hL x0 (by omega) e4 fun J1 hA hL1 => ?_⟩
        exact ih k x3 x4 (x + 1) J1 (by omega) (by omega) (by omega) (hF.trans (hA.co (by omega))) (fun r hr2 => ⟨(hA.2.1 1 _ (by omega)).trans (hr r hr2).1, (hA.2.2.2.1 1 _ (by omega)).trans (hr r hr2).2⟩) ((hA.2.2.2.1 9 0 (by omega)).trans h9) (hg0 fun q => hn (hrs.mp q)) hL1
      unfold G1_listStrays_8 G1_listStrays_8_st
      rw [wp_ib, jp_E, kj_4, wp_ib, jG1, kj_1, hRo'.1, wp_ib, wn9, wp_ig, wp_ig, if_neg (show ¬ 400 < m by omega), wp_ig, wp_ig, wp_ite, if_neg (show ¬ m ≤ x by omega), wp_ib, jp_E, kj_4, wp_ib, jp_E, kj_1, wp_ib, wp_ret (hRo'.g (rx_c (r := 0) hc' (by omega)) ⟨hm.1, by rw [rl4 (by omega)]; omega⟩ x0 (by omega) hm.2), wp_ig, wp_ite]
      refine ⟨hc', rx_c (r := 0) hc' (by omega), by decide, ⟨by omega, by omega⟩, ⟨by omega, by omega⟩, ⟨by omega, by omega⟩, hc', rx_c (r := 0) hc' (by omega), hb3, ?_⟩
      by_cases k1 : x3 ≤ 0
      · rw [if_pos k1]
        exact stray fun q => by omega
      · rw [if_neg k1, wp_ib, wj9, e9, wp_ig, wp_ite]
        refine ⟨⟨x0, by omega⟩, ⟨by omega, by omega⟩, ?_⟩
        by_cases k2 : R x = x3
        · rw [if_pos k2, wp_ig, wp_ig, wp_ite]
          refine ⟨⟨by omega, by omega⟩, hb4, ?_⟩
          by_cases k3 : E x ≤ x4
          · rw [if_pos k3]
            exact stray fun q => by omega
          · have hrt : rst E R mx x.toNat := hrs.mpr ⟨k2, by omega⟩
            rw [if_neg k3]
            rw [if_pos hrt] at e4
            unfold G1_listStrays_81
            exact ih k (x3 + (-1)) (E x) (x + 1) J (by omega) (by omega) (by omega) hF hr h9 (hg1 hrt) (hL.zero x0 e4)
        · rw [if_neg k2]
          exact stray fun q => k2 q.1
/-- a copy is collated -/
theorem c_collate (hb8 : b < 8) (hJ : BoR J W b) (hI : BkI W (b : Int)) (hc : c < jC J) (hr : jr J c = b) (hm : 0 ≤ m ∧ m ≤ 400) (hRo : RoR J (200 + 5 * c) E m) (hE : ∀ i, 0 ≤ i → i < m → 0 ≤ E i ∧ E i < LC (mB W b)) (hz : ∀ r, 1 ≤ r → r < 5 → js J 1 (200 + r + 5 * c) = 0) {Q : Unit → JS → Prop} (hq : ∀ J', FrCo c J J' → LsR J' (200 + 1 + 5 * c) (t2E E m) (LC (mB W b)) → LsR J' (200 + 2 + 5 * c) (t3E E m) (LC (mB W b)) → LsR J' (200 + 4 + 5 * c) (t5E E (cjC W b) m) (LC (mB W b)) → (∃ R mx, rOK E m 0 R ∧ rMx m 0 R mx ∧ LsR J' (200 + 3 + 5 * c) (t4E E R mx) m) → Q () J') : wp (G1_collate c) Q J := by
  have h4 := hI.2.2.1
  have hL0 := (LC_tot hI.1).1
  have hE4 : ∀ i, 0 ≤ i → i < m → 0 ≤ E i ∧ E i < 400 := fun i i0 i1 => by have := hE i i0 i1; omega
  have ls0 : ∀ (J' : JS) (r : Nat) (t : Int → Int), js J' 1 (200 + r + 5 * c) = 0 → LsR J' (200 + r + 5 * c) t 0 := fun J' r t h => ⟨h, fun p p0 p1 => by omega⟩
  unfold G1_collate
  rw [wp_ib, jp_E, kj_4, wp_ib]
  refine ⟨hc, c_countEntries (id := 200 + 5 * c) (rx_c (r := 0) hc (by omega)) hm (by rw [rl4 (by omega)]; omega) hRo hE4 fun J1 f1 hM => ?_⟩
  have s1 : ∀ r, 1 ≤ r → r < 5 → js J1 1 (200 + r + 5 * c) = 0 := fun r r0 r1 => by rw [f1.1]; exact hz r r0 r1
  refine c_col10 (J0 := J) hb8 hJ hI hc hr hm (fun J2 f2 l2 l3 l5 l4 => ?_) (LC (mB W b)).toNat LFU 0 J1 (Nat.lt_of_le_of_lt (show (LC (mB W b)).toNat ≤ 400 by omega) (by decide)) (Int.le_refl _) (by omega) f1.co hM (ls0 J1 1 _ (s1 1 (by omega) (by omega))) (ls0 J1 2 _ (s1 2 (by omega) (by omega))) (ls0 J1 4 _ (s1 4 (by omega) (by omega))) (by rw [s1 3 (by omega) (by omega), hz 3 (by omega) (by omega)])
  have hc2 : c < jC J2 := by rw [jC_r f2.2.2]; exact hc
  have hRo2 : RoR J2 (200 + 5 * c) E m := by
    unfold RoR
    rw [f2.1 1 _ (by omega), f2.2.1 1 _ (by omega)]
    exact hRo
  unfold G1_collate_98
  rw [wp_ib, jp_E, kj_4, wp_ib]
  refine ⟨hc2, c_measureReach (E := E) (id := 200 + 5 * c) (rx_c (r := 0) hc2 (by omega)) hm.1 hm.2 hRo2.1 (by rw [rl4 (by omega)]; omega) hRo2.2 hE4 fun J3 mx f3 hR hmx hb => ?_⟩
  have f3c : FrCo c J2 J3 := f3.co
  have hR4 : ∀ i, 0 ≤ i → i < m → 1 ≤ ja J3 9 0 i ∧ ja J3 9 0 i ≤ 400 := fun i i0 i1 => by
    have := (hR i i0 i1).1
    have := hmx.1 i i0 i1
    omega
  unfold G1_listStrays
  rw [wp_ib]
  refine c_str8 (J0 := J3) (R := ja J3 9 0) (mx := mx) (by rw [jC_r f3.2.2]; exact hc2) hm hE4 hR4 hb ?_ (fun i _ _ => rfl) (fun J4 f4 r4 l4' => ?_) m.toNat LFU mx (-1) 0 J3 (Nat.lt_of_le_of_lt (show m.toNat ≤ 400 by omega) (by decide)) (Int.le_refl _) (by omega) FrCo.refl (fun _ _ => ⟨rfl, rfl⟩) rfl rfl ?_
  · unfold RoR
    rw [f3c.1 1 _ (by omega), f3c.2.1 1 _ (by omega)]
    exact hRo2
  · rw [jp_ret]
    have tr : ∀ r, r < 3 ∨ r = 4 → js J4 1 (200 + r + 5 * c) = js J2 1 (200 + r + 5 * c) ∧ ja J4 1 (200 + r + 5 * c) = ja J2 1 (200 + r + 5 * c) := fun r hr => ⟨(r4 r hr).1.trans (by rw [f3.1]), (r4 r hr).2.trans (f3.2.1 1 _ (by omega) (by omega))⟩
    exact hq J4 ((f2.trans f3c).trans f4) (l2.eq (tr 1 (by omega))) (l3.eq (tr 2 (by omega))) (l5.eq (tr 4 (by omega))) ⟨_, mx, hR, hmx, l4'⟩
  · exact ls0 J3 3 _ (by rw [f3.1, l4, hz 3 (by omega) (by omega)])
end CO2
