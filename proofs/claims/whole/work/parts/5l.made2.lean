section MD2
variable {W W' : IS} {J J' : JS} {R R' : Nat → Int → Int} {B : BK}
/-- the model's last step: are there too many leaves -/
theorem m_isMade {x : Int} (hx : 0 ≤ x ∧ x < 8) (hB : BOK (mB W x)) {Q : Int → IS → Prop} (h1 : tot (mB W x) ≤ 400 → ∀ W', FrL x W W' → BkI W' x → Q x (iu1 (iu1 W' 5 (W'.1 5 + 1)) 2 0)) (h9 : ¬ tot (mB W x) ≤ 400 → Q (-9) (iu1 W 2 9)) : wp (I12_isMade x) Q W := by
  have ht := tot_bd hB
  have hL := LC_tot hB
  unfold I12_isMade
  rw [wp_ib, wp_ret (m_total hx.1 hx.2 hB), wp_ig, wp_ite]
  refine ⟨⟨by omega, by omega⟩, ?_⟩
  by_cases c : tot (mB W x) ≤ 400
  · rw [if_pos c, wp_ib]
    refine m_layOut hx.1 hx.2 hB (by omega) fun W1 f l e => ?_
    rw [wp_ib, wp_igI, wp_ib, wp_ipI, wp_ib, wp_ret m_fine, wp_ir]
    refine h1 c W1 f ⟨?_, ?_, ?_, ?_⟩
    · rw [f.bk]; exact hB
    · rw [f.bk]; exact e
    · rw [f.bk]; omega
    · rw [f.bk]; exact l
  · rw [if_neg c, wp_ib, wp_ret m_no, wp_ir]
    exact h9 c
theorem c_refusal {v t : Int} (h10 : js J 10 0 = v) (hR : R32 v) {Q : Int → JS → Prop} (h4 : v ≠ 0 → Q 4 J) (ht : v = 0 → G6_leavesInAll 0 J = some (t, J) ∧ R32 t ∧ (t ≤ 400 → Q 0 J) ∧ (¬ t ≤ 400 → Q 9 J)) : wp G11_refusalOfDraft Q J := by
  unfold G11_refusalOfDraft
  rw [wp_ib, jG10, h10, wp_ig, wp_ite]
  refine ⟨hR, ?_⟩
  by_cases c : v = 0
  · obtain ⟨e, q1, q2, q3⟩ := ht c
    rw [if_pos c, wp_ib, wp_ret e, wp_ig, wp_ite]
    refine ⟨q1, ?_⟩
    by_cases c4 : t ≤ 400
    · rw [if_pos c4]
      exact q2 c4
    · rw [if_neg c4]
      exact q3 c4
  · rw [if_neg c, jp_ret]
    exact h4 c
/-- there is no room for a book more: it is refused where it would be kept -/
theorem c_closeFull (h8 : js J 8 0 = 8) : G11_closeBook 0 J = some (-9, ju1 (ju1 J 2 0 0) 11 0 9) := by
  refine wp_eq ?_
  unfold G11_closeBook G10_cutTo G11_refuse
  have e8 : js (ju1 J 2 0 0) 8 0 = 8 := by rw [ju1_s, if_neg (by omega), h8]
  rw [wp_ib, wp_ib, jP2, jp_ret, wp_ig, wp_ite, if_pos rfl, wp_ib, jG8, e8, wp_ig, wp_ite, if_neg (by decide), wp_ib, wp_ib, jP11, jp_ret, jp_ret]
  exact ⟨by decide, by decide, rfl, rfl⟩
/-- a draft of small numbers is counted, whatever it is -/
theorem c_lia (h4 : ∀ s, 0 ≤ s → s < 71 → 0 ≤ ja J 4 0 s ∧ ja J 4 0 s ≤ 12) (h6 : ∀ l, 0 ≤ l → l < 852 → 0 ≤ ja J 6 0 l ∧ ja J 6 0 l ≤ 4) : ∃ t, G6_leavesInAll 0 J = some (t, J) ∧ R32 t := by
  have a := smz_bd (f := fun s => ja J 4 0 s) (K := 12) 71 0 fun i i0 i1 => h4 i i0 (by omega)
  have b := smz_bd (f := fun l => ja J 6 0 l) (K := 4) 852 0 fun i i0 i1 => h6 i i0 (by omega)
  exact ⟨_, c_leavesInAll (Nat.zero_le _), by omega, by omega⟩
theorem DrR.lia {R : Nat → Int → Int} {n u : Int} {g : Nat} (hD : DrR J (gN R g) (gH R g) (gP R g) (gS R g) (gFt R g) (gIt R g)) (hn : 0 ≤ n ∧ n ≤ 60) (hB : chB R n) (hG : grB R g n) (hA : FA R g 0) : ∃ t, G6_leavesInAll 0 (ju1 J 10 0 u) = some (t, ju1 J 10 0 u) ∧ R32 t := by
  obtain ⟨i1, i2, i3⟩ := gP_all hn hB hG hA g (Nat.le_refl _)
  have hch := GG_ch hn hB hG hA g (Nat.le_refl _)
  rw [hG.2.2] at hch
  obtain ⟨d1, d2, d3, d4, d5⟩ := hD
  refine c_lia (fun s s0 s1 => ?_) fun l l0 l1 => ?_
  · show 0 ≤ ja J 4 0 s ∧ ja J 4 0 s ≤ 12
    rw [d4 s s0 (by omega)]
    by_cases c : gS R g s = 0
    · omega
    · obtain ⟨p, hp, hps⟩ := i3 s c
      have q := i1 p hp.1 hp.2
      rw [hps] at q
      omega
  · show 0 ≤ ja J 6 0 l ∧ ja J 6 0 l ≤ 4
    rw [(d5 l l0 l1).2, (gFt_eq hG g l (Int.le_refl _)).2, hG.2.2]
    exact rIt_4 (fun _ => ⟨Int.le_refl _, by decide⟩) (fun c c0 c1 c2 => (hch c c0 c1).2 c2) _ l (by omega)
/-- a state that is told by an equation: nothing runs of itself -/
theorem jp_st {α : Type} {x : JM α} {Q : α → JS → Prop} {J' : JS} (h : ∀ J3, J3 = J' → wp x Q J3) : wp x Q J' := h J' rfl
/-! what keeps what was made -/
theorem FrR.kp (h : FrR J J') : JKp J J' := JKp.same h.2.2 (fun t i c => h.1 t i (by omega)) fun t i c => h.2.1 t i (by omega)
theorem FrP.kp (h : FrP J J') : JKp J J' := JKp.same h.2.2 (fun t i c => h.1 t i (by omega)) fun t i c => h.2.1 t i (by omega)
theorem JKp.u {t i : Nat} {v : Int} (h : (t ≠ 1 ∧ t ≠ 6 ∧ t ≠ 12) ∨ (t = 1 ∧ i < 100) ∨ (t = 6 ∧ i = 0)) : JKp J (ju1 J t i v) := JKp.same rfl (fun t' i' c => by rw [ju1_s, if_neg (by omega)]) fun t' i' _ => rfl
theorem NbR.kp {T : List Nat} (h : NbR J J' T) (h8 : jB J ≤ 8) : JKp J J' := by
  obtain ⟨n1, n2, n3, n4, n5, n6, n7, n8, n9, n10⟩ := h
  refine ⟨by omega, fun i hi => by rw [n7, if_neg (by omega)], fun b hb => ⟨by rw [n5, if_neg (by omega)], by rw [n8, if_neg (by omega)], n1 6 _ (by omega), fun t t0 t1 => n2 t _ (by omega), n2 7 _ (by omega), fun i i0 i1 => ⟨n1 1 i (by omega), n2 1 i (by omega)⟩⟩, fun c hc => ⟨by rw [n6], by rw [n10], by rw [n9], n1 12 _ (by omega), fun i i0 i1 => ?_⟩⟩
  exact ⟨n1 1 i (by omega), n2 1 i (by omega)⟩
end MD2
