section MD2
variable {W W' : IS} {J J' : JS} {R R' : Nat → Int → Int} {B : BK}
/-- the model's last step: are there too many leaves -/
theorem m_isMade {x : Int} (hx : 0 ≤ x ∧ x < 8) (hB : BOK (mB W x)) {Q : Int → IS → Prop} (h1 : tot (mB W x) ≤ 400 → ∀ W', FrL x W W' → BkI W' x → Q x (iu1 (iu1 W' 5 (W'.1 5 + 1)) 2 0)) (h9 : ¬ tot (mB W x) ≤ 400 → Q (-9) (iu1 W 2 9)) : wp (I12_isMade x) Q W := by
  have ht := tot_bd hB
  have hL := LC_tot hB
  unfold I12_isMade
  rw [wp_ib, wp_ret (m_total hx.1 hx.2 hB), wp_ig, wp_ite]
  refine ⟨⟨by omega, by omega⟩, ?_⟩
  by_cases c : tot (mB W x) ≤ 400
  · rw [if_pos c, wp_ib]
    refine m_layOut hx.1 hx.2 hB (by omega) fun W1 f l e => ?_
    rw [wp_ib, wp_igI, wp_ib, wp_ipI, wp_ib, wp_ret m_fine, wp_ir]
    refine h1 c W1 f ⟨?_, ?_, ?_, ?_⟩
    · rw [f.bk]; exact hB
    · rw [f.bk]; exact e
    · rw [f.bk]; omega
    · rw [f.bk]; exact l
  · rw [if_neg c, wp_ib, wp_ret m_no, wp_ir]
    exact h9 c
theorem c_refusal {v t : Int} (h10 : js J 10 0 = v) (hR : R32 v) (h8 : R32 (js J 8 0)) {Q : Int → JS → Prop} (h4 : v ≠ 0 → Q 4 J) (h9 : v = 0 → 8 ≤ js J 8 0 → Q 9 J) (ht : v = 0 → js J 8 0 < 8 → G6_leavesInAll 0 J = some (t, J) ∧ R32 t ∧ (t ≤ 400 → Q 0 J) ∧ (¬ t ≤ 400 → Q 9 J)) : wp G11_refusalOfDraft Q J := by
  unfold G11_refusalOfDraft
  rw [wp_ib, jG10, h10, wp_ig, wp_ite]
  refine ⟨hR, ?_⟩
  by_cases c : v = 0
  · rw [if_pos c, wp_ib, jG8, wp_ig, wp_ite]
    refine ⟨h8, ?_⟩
    by_cases c8 : 8 ≤ js J 8 0
    · rw [if_pos c8, jp_ret]
      exact h9 c c8
    · obtain ⟨e, q1, q2, q3⟩ := ht c (by omega)
      rw [if_neg c8, wp_ib, wp_ret e, wp_ig, wp_ite]
      refine ⟨q1, ?_⟩
      by_cases c4 : t ≤ 400
      · rw [if_pos c4]
        exact q2 c4
      · rw [if_neg c4]
        exact q3 c4
  · rw [if_neg c, jp_ret]
    exact h4 c
/-! what keeps what was made -/
theorem FrR.kp (h : FrR J J') : JKp J J' := JKp.same h.2.2 (fun t i c => h.1 t i (by omega)) fun t i c => h.2.1 t i (by omega)
theorem FrP.kp (h : FrP J J') : JKp J J' := JKp.same h.2.2 (fun t i c => h.1 t i (by omega)) fun t i c => h.2.1 t i (by omega)
theorem JKp.u {t i : Nat} {v : Int} (h : (t ≠ 1 ∧ t ≠ 6 ∧ t ≠ 12) ∨ (t = 1 ∧ i < 100) ∨ (t = 6 ∧ i = 0)) : JKp J (ju1 J t i v) := JKp.same rfl (fun t' i' c => by rw [ju1_s, if_neg (by omega)]) fun t' i' _ => rfl
theorem NbR.kp {T : List Nat} (h : NbR J J' T) (h8 : jB J ≤ 8) : JKp J J' := by
  obtain ⟨n1, n2, n3, n4, n5, n6, n7, n8, n9, n10⟩ := h
  refine ⟨by omega, fun i hi => by rw [n7, if_neg (by omega)], fun b hb => ⟨by rw [n5, if_neg (by omega)], by rw [n8, if_neg (by omega)], n1 6 _ (by omega), fun t t0 t1 => n2 t _ (by omega), n2 7 _ (by omega), fun i i0 i1 => ⟨n1 1 i (by omega), n2 1 i (by omega)⟩⟩, fun c hc => ⟨by rw [n6], by rw [n10], by rw [n9], n1 12 _ (by omega), fun i i0 i1 => ?_⟩⟩
  exact ⟨n1 1 i (by omega), n2 1 i (by omega)⟩
end MD2
