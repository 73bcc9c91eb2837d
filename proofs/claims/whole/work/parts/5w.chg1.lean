/-! ===== change: the model's fault ===== -/
theorem FC_u {R : Nat → Int → Int} {S F I : Int → Int} {e e' v v' : Int} (h : FC R S F I e e' v) (h' : FC R S F I e e' v') : v = v' := by
  unfold FC at h h'
  by_cases c4 : Q4 R S e e' <;> by_cases c5 : P5 R e e' <;> by_cases c6 : P6x R F I e e' <;> simp only [c4, c5, c6, not_true, not_false_iff, and_true, and_false, true_and, false_and, or_false, false_or] at h h' <;> omega
/-- sizes by signs, what lies at slots: those of a book -/
def SFI (B : BK) (S F I : Int → Int) : Prop := (∀ g, 0 ≤ g → g < bn B → S (bs B g) = bz B g) ∧ (∀ s, 0 ≤ s → s ≤ 70 → (∀ g, 0 ≤ g → g < bn B → bs B g ≠ s) → S s = 0) ∧ ∀ g i, isV B g i → F (slt B g i) = fC (bf B g i) ∧ I (slt B g i) = bm B g i
section CH1
variable {W : IS} {J : JS} {S F I : Int → Int} {n b : Int}
theorem m_foc2 (hb0 : 0 ≤ b) (hb : b < 8) (hB : BOK (mB W b)) (hn : 0 ≤ n ∧ n ≤ 60) (hC : chB W.2 n) (h25 : W.1 25 = n) (hS : SFI (mB W b) S F I) {Q : Int → IS → Prop} (h4 : Q4 W.2 S 0 n → Q 4 W) (hk : ¬ Q4 W.2 S 0 n → wp (I12_faultOfChanges_58 b) Q W) : ∀ (d m : Nat) (c : Int), d < m → 0 ≤ c → c + d = n → (∀ x, 0 ≤ x → x < c → 1 ≤ W.2 34 x ∧ W.2 34 x ≤ S (W.2 33 x)) → wp (I12_faultOfChanges_2 m b c) Q W := by
  have h71 := hB.1
  intro d
  induction d with
  | zero =>
    intro m c hm c0 c1 hp
    cases m with
    | zero => omega
    | succ m =>
      unfold I12_faultOfChanges_2 I12_faultOfChanges_2_st
      rw [wp_ib, wp_igI, h25, wp_ig, wp_ig, wp_ite, if_pos (show n ≤ c by omega)]
      exact ⟨⟨by omega, by omega⟩, ⟨by omega, by omega⟩, hk fun ⟨x, x0, x1, x2⟩ => x2 (hp x x0 (by omega))⟩
  | succ d ih =>
    intro m c hm c0 c1 hp
    cases m with
    | zero => omega
    | succ m =>
      have hc := hC c c0 (by omega)
      unfold I12_faultOfChanges_2 I12_faultOfChanges_2_st
      rw [wp_ib, wp_igI, h25, wp_ig, wp_ig, wp_ite, if_neg (show ¬ n ≤ c by omega), wp_ib, wA33, wp_ib]
      refine ⟨⟨by omega, by omega⟩, ⟨by omega, by omega⟩, ⟨by omega, by omega⟩, m_gatheringOf hb0 hb hB ⟨by omega, by omega⟩ (fun g g0 g1 e => ?_) (fun hno => ?_)⟩
      · have hz := (hB.2.1 g g0 g1).2
        have e8 : W.2 8 (b * 71 + g) = bz (mB W b) g := rfl
        rw [wp_ig, wp_ite, if_neg (show ¬ g < 0 by omega), wp_ib, wA34, wp_ib, wA8, e8, wp_ib, wp_ret (m_isIn ⟨by omega, by omega⟩ (by decide) ⟨by omega, by omega⟩), wp_ig, wp_ite]
        refine ⟨⟨by omega, by omega⟩, ⟨by omega, by omega⟩, ⟨by omega, by omega⟩, ifR, ?_⟩
        have hSg := hS.1 g g0 g1
        rw [e] at hSg
        by_cases k : 1 ≤ W.2 34 c ∧ W.2 34 c ≤ bz (mB W b) g
        · rw [if_neg (by rw [if0]; exact fun q => q k)]
          refine ih m (c + 1) (by omega) (by omega) (by omega) fun x x0 x1 => ?_
          by_cases e2 : x = c
          · rw [e2, hSg]; exact k
          · exact hp x x0 (by omega)
        · rw [if_pos (by rw [if0]; exact k), wp_ir]
          exact h4 ⟨c, c0, by omega, by rw [hSg]; exact k⟩
      · rw [wp_ig, wp_ite, if_pos (by decide), wp_ir]
        refine ⟨by decide, h4 ⟨c, c0, by omega, ?_⟩⟩
        rw [hS.2.1 _ (by omega) (by omega) hno]
        omega
theorem m_foc84 (hb0 : 0 ≤ b) (hb : b < 8) (hB : BOK (mB W b)) (hn : 0 ≤ n ∧ n ≤ 60) (hC : chB W.2 n) (h25 : W.1 25 = n) (hS : SFI (mB W b) S F I) (n4 : ¬ Q4 W.2 S 0 n) {Q : Int → IS → Prop} (h6 : P6x W.2 F I 0 n → Q 6 W) (h0 : ¬ P6x W.2 F I 0 n → Q 0 W) : ∀ (d m : Nat) (x c : Int), d < m → 0 ≤ c → c + d = n → (x = 0 ∨ x = 1) → (x = 1 ↔ (P6 W.2 0 n ∨ ∃ y, 0 ≤ y ∧ y < c ∧ PX W.2 F I y)) → wp (I12_faultOfChanges_84 m b x c) Q W := by
  have h71 := hB.1
  intro d
  induction d with
  | zero =>
    intro m x c hm c0 c1 hx hp
    cases m with
    | zero => omega
    | succ m =>
      unfold I12_faultOfChanges_84 I12_faultOfChanges_84_st I12_faultOfChanges_162
      rw [wp_ib, wp_igI, h25, wp_ig, wp_ig, wp_ite, if_pos (show n ≤ c by omega), wp_ig, wp_ite]
      refine ⟨⟨by omega, by omega⟩, ⟨by omega, by omega⟩, ⟨by omega, by omega⟩, ?_⟩
      have ec : c = n := by omega
      rw [ec] at hp
      by_cases k : x = 0
      · rw [if_pos k, wp_ir]
        exact h0 fun q => by have := hp.mpr q; omega
      · rw [if_neg k, wp_ir]
        exact h6 (hp.mp (by omega))
  | succ d ih =>
    intro m x c hm c0 c1 hx hp
    cases m with
    | zero => omega
    | succ m =>
      have hc := hC c c0 (by omega)
      have g4 : 1 ≤ W.2 34 c ∧ W.2 34 c ≤ S (W.2 33 c) := by
        by_cases k : 1 ≤ W.2 34 c ∧ W.2 34 c ≤ S (W.2 33 c)
        · exact k
        · exact absurd ⟨c, c0, by omega, k⟩ n4
      unfold I12_faultOfChanges_84 I12_faultOfChanges_84_st I12_faultOfChanges_150
      rw [wp_ib, wp_igI, h25, wp_ig, wp_ig, wp_ite, if_neg (show ¬ n ≤ c by omega), wp_ib, wA33, wp_ib]
      refine ⟨⟨by omega, by omega⟩, ⟨by omega, by omega⟩, ⟨by omega, by omega⟩, m_gatheringOf hb0 hb hB ⟨by omega, by omega⟩ (fun g g0 g1 e => ?_) (fun hno => ?_)⟩
      · have hSg := hS.1 g g0 g1
        rw [e] at hSg
        have hz := (hB.2.1 g g0 g1).2
        have hV : isV (mB W b) g (W.2 34 c) := ⟨⟨g0, g1⟩, by omega⟩
        obtain ⟨hF, hI⟩ := hS.2.2 g _ hV
        have es : slt (mB W b) g (W.2 34 c) = slo W.2 c := by
          unfold slt slo
          rw [e]
        rw [es] at hF hI
        have hfm := hB.2.2.1 g _ g0 g1 hV.2.1 hV.2.2
        have hfc := (fC_c _ hfm.1).1
        have e9 : W.2 9 ((b * 71 + g) * 13 + W.2 34 c) = bf (mB W b) g (W.2 34 c) := rfl
        have e10 : W.2 10 ((b * 71 + g) * 13 + W.2 34 c) = bm (mB W b) g (W.2 34 c) := rfl
        rw [wp_ib, wA34, wp_ib, wp_ret m_spot, wp_ig, wp_ite]
        refine ⟨⟨by omega, by omega⟩, ⟨by omega, by omega⟩, ?_⟩
        have stp : ∀ y v : Int, (v = 0 ∨ v = 1) → (v = 1 ↔ x = 1 ∨ PX W.2 F I c) → wp (I12_faultOfChanges_155 (I12_faultOfChanges_84 m) b c v) Q W := fun y v hv hv2 => by
          unfold I12_faultOfChanges_155
          refine ih m v (c + 1) (by omega) (by omega) (by omega) hv ?_
          rw [hv2, hp]
          constructor
          · rintro ((q | ⟨y, y0, y1, y2⟩) | q)
            · exact Or.inl q
            · exact Or.inr ⟨y, y0, by omega, y2⟩
            · exact Or.inr ⟨c, c0, by omega, q⟩
          · rintro (q | ⟨y, y0, y1, y2⟩)
            · exact Or.inl (Or.inl q)
            · by_cases k : y = c
              · rw [k] at y2
                exact Or.inr y2
              · exact Or.inl (Or.inr ⟨y, y0, by omega, y2⟩)
        by_cases k : x = 0
        · rw [if_pos k, wp_ib, wA32, wp_ig, wp_ite]
          refine ⟨⟨by omega, by omega⟩, ⟨by omega, by omega⟩, ?_⟩
          unfold I12_faultOfChanges_147 I12_faultOfChanges_150
          by_cases k3 : W.2 32 c = 43
          · rw [if_pos k3, wp_ib, wA10, e10, wp_ig, wp_ite]
            refine ⟨⟨by omega, by omega⟩, ⟨by omega, by omega⟩, ?_⟩
            by_cases k5 : bm (mB W b) g (W.2 34 c) ≤ 0
            · rw [if_pos k5]
              refine stp 0 0 (Or.inl rfl) ⟨fun q => by omega, fun q => ?_⟩
              rcases q with q | ⟨-, q⟩ | ⟨q, -⟩
              · omega
              · rw [hI] at q; omega
              · exact absurd k3 q
            · rw [if_neg k5]
              exact stp 0 1 (Or.inr rfl) ⟨fun _ => Or.inr (Or.inl ⟨k3, by rw [hI]; omega⟩), fun _ => rfl⟩
          · rw [if_neg k3, wp_ib, wA9, e9, wp_ig, wp_ite]
            refine ⟨⟨by omega, by omega⟩, ⟨by omega, by omega⟩, ?_⟩
            by_cases k5 : bf (mB W b) g (W.2 34 c) ≤ 0
            · rw [if_pos k5]
              refine stp 0 0 (Or.inl rfl) ⟨fun q => by omega, fun q => ?_⟩
              rcases q with q | ⟨q, -⟩ | ⟨-, q⟩
              · omega
              · exact absurd q k3
              · rw [hF] at q
                exact absurd (hfc.mpr (by omega)) q
            · rw [if_neg k5]
              exact stp 0 1 (Or.inr rfl) ⟨fun _ => Or.inr (Or.inr ⟨k3, by rw [hF]; exact fun q => by have := hfc.mp q; omega⟩), fun _ => rfl⟩
        · rw [if_neg k]
          exact stp 0 1 (Or.inr rfl) ⟨fun _ => Or.inl (by omega), fun _ => rfl⟩
      · have := hS.2.1 _ (by omega) (by omega) hno
        omega
theorem m_faultOfChanges (hb0 : 0 ≤ b) (hb : b < 8) (hB : BOK (mB W b)) (hn : 0 ≤ n ∧ n ≤ 60) (hC : chB W.2 n) (h25 : W.1 25 = n) (hS : SFI (mB W b) S F I) {Q : Int → IS → Prop} (hq : ∀ v, FC W.2 S F I 0 n v → Q v W) : wp (I12_faultOfChanges b) Q W := by
  unfold I12_faultOfChanges
  refine m_foc2 hb0 hb hB hn hC h25 hS (fun q4 => hq 4 (Or.inl ⟨rfl, q4⟩)) (fun n4 => ?_) n.toNat LFU 0 (Nat.lt_of_le_of_lt (show n.toNat ≤ 60 by omega) (by decide)) (Int.le_refl _) (by omega) fun x x0 x1 => by omega
  unfold I12_faultOfChanges_58
  rw [wp_ib, wp_igI, h25, wp_ib]
  refine m_isFewPut (n := n) (by omega) hC (Int.le_refl _) hn.1 (Int.le_refl _) (fun n5 => ?_) (fun q5 => ?_)
  · rw [wp_ig, wp_ite, if_neg (by decide), wp_ib, wp_igI, h25, wp_ib]
    have fin : ∀ x, (x = 0 ∨ x = 1) → (x = 1 ↔ P6 W.2 0 n) → wp (I12_faultOfChanges_84 LFU b x 0) Q W := fun x hx hx2 => by
      refine m_foc84 hb0 hb hB hn hC h25 hS n4 (fun q => hq 6 (Or.inr ⟨n4, Or.inr ⟨n5, Or.inl ⟨rfl, q⟩⟩⟩)) (fun q => hq 0 (Or.inr ⟨n4, Or.inr ⟨n5, Or.inr ⟨rfl, q⟩⟩⟩)) n.toNat LFU x 0 (Nat.lt_of_le_of_lt (show n.toNat ≤ 60 by omega) (by decide)) (Int.le_refl _) (by omega) hx ?_
      rw [hx2]
      exact ⟨Or.inl, fun q => q.elim id fun ⟨y, y0, y1, _⟩ => by omega⟩
    exact ⟨by decide, m_isTwice (n := n) (by omega) hC (Int.le_refl _) hn.1 (Int.le_refl _) (fun q => fin 1 (Or.inr rfl) ⟨fun _ => q, fun _ => rfl⟩) (fun q => fin 0 (Or.inl rfl) ⟨fun z => by omega, fun z => absurd z q⟩)⟩
  · rw [wp_ig, wp_ite, if_pos rfl, wp_ir]
    exact ⟨by decide, hq 5 (Or.inr ⟨n4, Or.inl ⟨rfl, q5⟩⟩)⟩
end CH1
