/-! ===== a book is made ===== -/
section MDE
variable {W W' : IS} {J J' : JS} {R R' : Nat → Int → Int} {B : BK}
theorem gH_cg (h : ∀ t, 26 ≤ t → R' t = R t) : ∀ k : Nat, gH R' k = gH R k ∧ gX R' k = gX R k
  | 0 => ⟨rfl, rfl⟩
  | k + 1 => by
    have ih := gH_cg h k
    unfold gH gX
    rw [ih.1, ih.2, h 26 (by omega), h 27 (by omega)]
    exact ⟨rfl, rfl⟩
theorem FG_cg (h : ∀ t, 26 ≤ t → R' t = R t) {k hi x v : Int} (hF : FG R k hi x v) : FG R' k hi x v := by
  unfold FG bad1 bad2 bad3 FT P4 P5 P6 tw G4 at hF ⊢
  rw [h 26 (by omega), h 27 (by omega), h 28 (by omega), h 29 (by omega), h 30 (by omega), h 31 (by omega), h 32 (by omega), h 33 (by omega), h 34 (by omega), h 35 (by omega)]
  exact hF
theorem FA_cg (h : ∀ t, 26 ≤ t → R' t = R t) {n : Nat} {v : Int} (hF : FA R n v) : FA R' n v := by
  have key : ∀ (i : Nat) (v : Int), FG R i (gH R i) (gX R i) v → FG R' i (gH R' i) (gX R' i) v := fun i v q => by
    rw [(gH_cg h i).1, (gH_cg h i).2]
    exact FG_cg h q
  rcases hF with ⟨h1, h2⟩ | ⟨h1, k, k1, k2, k3⟩
  · exact Or.inl ⟨h1, fun i hi => key i 0 (h2 i hi)⟩
  · exact Or.inr ⟨h1, k, k1, fun i hi => key i 0 (k2 i hi), key k v k3⟩
theorem tot_bd (hB : BOK B) : 0 ≤ tot B ∧ tot B ≤ 4260 := by
  have h := smz_bd (f := fun g => bz B g + smz (bm B g) (bz B g).toNat 1) (K := 60) (bn B).toNat 0 fun g g0 g1 => by
    have hz := (hB.2.1 g g0 (by omega)).2
    have h2 := smz_bd (f := bm B g) (K := 4) (bz B g).toNat 1 fun i i0 i1 => by
      have := hB.2.2.1 g i g0 (by omega) i0 (by omega)
      exact this.2
    show 0 ≤ bz B g + smz (bm B g) (bz B g).toNat 1 ∧ bz B g + smz (bm B g) (bz B g).toNat 1 ≤ 60
    omega
  have h71 := hB.1
  unfold tot
  omega
/-- the model's last step: are there too many leaves -/
theorem m_isMade {x : Int} (hx : 0 ≤ x ∧ x < 8) (hB : BOK (mB W x)) {Q : Int → IS → Prop} (h1 : tot (mB W x) ≤ 400 → ∀ W', FrL x W W' → BkI W' x → Q x (iu1 (iu1 W' 5 (W'.1 5 + 1)) 2 0)) (h9 : ¬ tot (mB W x) ≤ 400 → Q (-9) (iu1 W 2 9)) : wp (I12_isMade x) Q W := by
  have ht := tot_bd hB
  have hL := LC_tot hB
  unfold I12_isMade
  rw [wp_ib, wp_ret (m_total hx.1 hx.2 hB), wp_ig, wp_ite]
  refine ⟨⟨by omega, by omega⟩, ?_⟩
  by_cases c : tot (mB W x) ≤ 400
  · rw [if_pos c, wp_ib]
    refine m_layOut hx.1 hx.2 hB (by omega) fun W1 f l e => ?_
    rw [wp_ib, wp_igI, wp_ib, wp_ipI, wp_ib, wp_ret m_fine, wp_ir]
    refine h1 c W1 f ⟨?_, ?_, ?_, ?_⟩
    · rw [f.bk]; exact hB
    · rw [f.bk]; exact e
    · rw [f.bk]; omega
    · rw [f.bk]; exact l
  · rw [if_neg c, wp_ib, wp_ret m_no, wp_ir]
    exact h9 c
theorem c_refusal {v : Int} (h10 : js J 10 0 = v) (hR : R32 v) (h8 : R32 (js J 8 0)) {Q : Int → JS → Prop} (h4 : v ≠ 0 → Q 4 J) (h9 : v = 0 → 8 ≤ js J 8 0 → Q 9 J) (hp : v = 0 → js J 8 0 < 8 → wp (G6_leavesInAll 0) (fun t J' => R32 t ∧ Q (if t ≤ 400 then 0 else 9) J') J) : wp G11_refusalOfDraft Q J := by
  unfold G11_refusalOfDraft
  rw [wp_ib, jG10, h10, wp_ig, wp_ite]
  refine ⟨hR, ?_⟩
  by_cases c : v = 0
  · rw [if_pos c, wp_ib, jG8, wp_ig, wp_ite]
    refine ⟨h8, ?_⟩
    by_cases c8 : 8 ≤ js J 8 0
    · rw [if_pos c8, jp_ret]
      exact h9 c c8
    · rw [if_neg c8, wp_ib]
      refine wp_mono (hp c (by omega)) fun t J' q => ?_
      rw [wp_ig, wp_ite]
      refine ⟨q.1, ?_⟩
      have q2 := q.2
      by_cases c4 : t ≤ 400
      · rw [if_pos c4] at q2 ⊢
        exact q2
      · rw [if_neg c4] at q2 ⊢
        exact q2
  · rw [if_neg c, jp_ret]
    exact h4 c
/-! what keeps what was made -/
theorem FrR.kp (h : FrR J J') : JKp J J' := JKp.same h.2.2 (fun t i c => h.1 t i (by omega)) fun t i c => h.2.1 t i (by omega)
theorem FrP.kp (h : FrP J J') : JKp J J' := JKp.same h.2.2 (fun t i c => h.1 t i (by omega)) fun t i c => h.2.1 t i (by omega)
theorem JKp.u {t i : Nat} {v : Int} (h : (t ≠ 1 ∧ t ≠ 6 ∧ t ≠ 12) ∨ (t = 1 ∧ i < 100) ∨ (t = 6 ∧ i = 0)) : JKp J (ju1 J t i v) := JKp.same rfl (fun t' i' c => by rw [ju1_s, if_neg (by omega)]) fun t' i' _ => rfl
theorem NbR.kp {T : List Nat} (h : NbR J J' T) (h8 : jB J ≤ 8) : JKp J J' := by
  obtain ⟨n1, n2, n3, n4, n5, n6, n7, n8, n9, n10⟩ := h
  refine ⟨by omega, fun i hi => by rw [n7, if_neg (by omega)], fun b hb => ⟨by rw [n5, if_neg (by omega)], by rw [n8, if_neg (by omega)], n1 6 _ (by omega), fun t t0 t1 => n2 t _ (by omega), n2 7 _ (by omega), fun i i0 i1 => ⟨n1 1 i (by omega), n2 1 i (by omega)⟩⟩, fun c hc => ⟨by rw [n6], by rw [n10], by rw [n9], n1 12 _ (by omega), fun i i0 i1 => ?_⟩⟩
  exact ⟨n1 1 i (by omega), n2 1 i (by omega)⟩
end MDE
