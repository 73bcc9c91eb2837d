/-! ===== the model looks at a copy ===== -/
/-- only what look() writes may differ -/
def FrLk (W W' : IS) : Prop := W'.1 = W.1 ∧ ∀ k, ¬ (39 ≤ k ∧ k ≤ 41) → W'.2 k = W.2 k
section LOK
variable {W : IS} {E R : Int → Int} {m mx : Int} {b c : Nat}
theorem FrLk.refl : FrLk W W := ⟨rfl, fun _ _ => rfl⟩
theorem FrLk.trans {W1 W2 W3 : IS} (h : FrLk W1 W2) (h' : FrLk W2 W3) : FrLk W1 W3 := ⟨h'.1.trans h.1, fun k q => (h'.2 k q).trans (h.2 k q)⟩
theorem FrLk.u {k : Nat} {i x : Int} (h : 39 ≤ k ∧ k ≤ 41) : FrLk W (iu2 W k i x) := ⟨rfl, fun k' q => by funext l; rw [iu2_2, if_neg (fun r => q (by omega))]⟩
theorem rOK_le {lo : Int} (h : rOK E m lo R) : ∀ (d : Nat) (i : Int), lo ≤ i → i < m → m ≤ i + d → R i ≤ m - i
  | 0, i, _, _, _ => by omega
  | d + 1, i, i0, i1, i2 => by
    rcases (h i i0 i1).2.2 with q | ⟨j, j0, j1, -, j2⟩
    · omega
    · have := rOK_le h d j (by omega) j1 (by omega)
      omega
/-- reach of one entry -/
theorem m_lk91 {i : Int} (hc : c < 16) (h17 : W.2 17 c = m) (hm : m ≤ 400) (hi : 0 ≤ i ∧ i < m) (hE : ∀ j, 0 ≤ j → j < m → W.2 18 ((c : Int) * 400 + j) = E j ∧ 0 ≤ E j ∧ E j < 400) (hR : rOK E m (i + 1) (W.2 40)) {x4 : Int} {k54 : Int → Int → Int → Int → IM Unit} {Q : Unit → IS → Prop} (hq : ∀ W', FrLk W W' → W'.2 39 = W.2 39 → (∀ j, j ≠ i → W'.2 40 j = W.2 40 j) → rOK E m i (W'.2 40) → wp (I12_look_155 k54 c ((c : Int) * 400) x4 i) Q W') : ∀ (d k : Nat) (j : Int) (W1 : IS), d < k → i + 1 ≤ j → j + d = m → FrLk W W1 → W1.2 39 = W.2 39 → (∀ l, l ≠ i → W1.2 40 l = W.2 40 l) → 1 ≤ W1.2 40 i → (∀ l, i < l → l < j → E i < E l → W.2 40 l + 1 ≤ W1.2 40 i) → (W1.2 40 i = 1 ∨ ∃ l, i < l ∧ l < j ∧ E i < E l ∧ W1.2 40 i = W.2 40 l + 1) → wp (I12_look_91 k54 k c ((c : Int) * 400) x4 i j) Q W1 := by
  intro d
  induction d with
  | zero =>
    intro k j W1 hk j0 j1 hF h39 h40 g1 g2 g3
    cases k with
    | zero => omega
    | succ k =>
      have e17 : W1.2 17 (c : Int) = m := by rw [hF.2 17 (by omega)]; exact h17
      unfold I12_look_91 I12_look_91_st
      rw [wp_ib, wA17, e17, wp_ig, wp_ig, wp_ite, if_pos (show m ≤ j by omega)]
      refine ⟨⟨by omega, by omega⟩, ⟨by omega, by omega⟩, ⟨by omega, by omega⟩, hq W1 hF h39 h40 fun l l0 l1 => ?_⟩
      by_cases e : l = i
      · subst e
        refine ⟨g1, fun y y0 y1 y2 => ?_, ?_⟩
        · rw [h40 y (by omega)]
          exact g2 y y0 (by omega) y2
        · rcases g3 with q | ⟨y, y0, y1, y2, y3⟩
          · exact Or.inl q
          · exact Or.inr ⟨y, y0, by omega, y2, by rw [h40 y (by omega)]; exact y3⟩
      · obtain ⟨q1, q2, q3⟩ := hR l (by omega) l1
        rw [h40 l e]
        refine ⟨q1, fun y y0 y1 y2 => ?_, ?_⟩
        · rw [h40 y (by omega)]
          exact q2 y y0 y1 y2
        · rcases q3 with q | ⟨y, y0, y1, y2, y3⟩
          · exact Or.inl q
          · exact Or.inr ⟨y, y0, y1, y2, by rw [h40 y (by omega)]; exact y3⟩
  | succ d ih =>
    intro k j W1 hk j0 j1 hF h39 h40 g1 g2 g3
    cases k with
    | zero => omega
    | succ k =>
      have e17 : W1.2 17 (c : Int) = m := by rw [hF.2 17 (by omega)]; exact h17
      have e18 : ∀ l, 0 ≤ l → l < m → W1.2 18 ((c : Int) * 400 + l) = E l := fun l l0 l1 => by rw [hF.2 18 (by omega)]; exact (hE l l0 l1).1
      have hEj := (hE j (by omega) (by omega)).2
      have hEi := (hE i (by omega) (by omega)).2
      have hRj := (hR j (by omega) (by omega)).1
      have hRj2 := rOK_le hR m.toNat j (by omega) (by omega) (by omega)
      have hv : W1.2 40 i ≤ 400 := by
        rcases g3 with q | ⟨y, y0, y1, y2, y3⟩
        · omega
        · have := rOK_le hR m.toNat y (by omega) (by omega) (by omega)
          omega
      unfold I12_look_91 I12_look_91_st I12_look_149
      rw [wp_ib, wA17, e17, wp_ig, wp_ig, wp_ite, if_neg (show ¬ m ≤ j by omega), wp_ib, wA18, e18 j (by omega) (by omega), wp_ib, wA18, e18 i (by omega) (by omega), wp_ig, wp_ig, wp_ite]
      refine ⟨⟨by omega, by omega⟩, ⟨by omega, by omega⟩, ⟨by omega, by omega⟩, ⟨by omega, by omega⟩, ⟨by omega, by omega⟩, ⟨by omega, by omega⟩, ⟨by omega, by omega⟩, ?_⟩
      by_cases k1 : E j ≤ E i
      · rw [if_pos k1]
        refine ih k (j + 1) W1 (by omega) (by omega) (by omega) hF h39 h40 g1 (fun l l0 l1 l2 => ?_) ?_
        · by_cases e : l = j
          · rw [e] at l2; omega
          · exact g2 l l0 (by omega) l2
        · rcases g3 with q | ⟨y, y0, y1, y2, y3⟩
          · exact Or.inl q
          · exact Or.inr ⟨y, y0, by omega, y2, y3⟩
      · rw [if_neg k1, wp_ib, wA40, wp_ib, wA40, h40 j (by omega), wp_ig, wp_ig, wp_ib, wS40]
        refine ⟨⟨by omega, by omega⟩, ⟨by omega, by omega⟩, ⟨by omega, by omega⟩, ⟨by omega, by omega⟩, ⟨by omega, by omega⟩, ?_⟩
        have ev : (iu2 W1 40 i (if W1.2 40 i < W.2 40 j + 1 then W.2 40 j + 1 else W1.2 40 i)).2 40 i = if W1.2 40 i < W.2 40 j + 1 then W.2 40 j + 1 else W1.2 40 i := by rw [iu2_2, if_pos ⟨rfl, rfl⟩]
        refine ih k (j + 1) _ (by omega) (by omega) (by omega) (hF.trans (FrLk.u (by omega))) ?_ (fun l hl => ?_) ?_ (fun l l0 l1 l2 => ?_) ?_
        · funext l
          rw [iu2_2, if_neg (by omega), h39]
        · rw [iu2_2, if_neg (fun q => hl q.2)]
          exact h40 l hl
        · rw [ev]
          split <;> omega
        · rw [ev]
          by_cases e : l = j
          · rw [e]
            split <;> omega
          · have := g2 l l0 (by omega) l2
            split <;> omega
        · rw [ev]
          by_cases k2 : W1.2 40 i < W.2 40 j + 1
          · rw [if_pos k2]
            exact Or.inr ⟨j, by omega, by omega, by omega, rfl⟩
          · rw [if_neg k2]
            rcases g3 with q | ⟨y, y0, y1, y2, y3⟩
            · exact Or.inl q
            · exact Or.inr ⟨y, y0, by omega, y2, y3⟩
/-- all entries, from the last on -/
theorem m_lk54 (hc : c < 16) (h17 : W.2 17 c = m) (hm : 0 ≤ m ∧ m ≤ 400) (hE : ∀ j, 0 ≤ j → j < m → W.2 18 ((c : Int) * 400 + j) = E j ∧ 0 ≤ E j ∧ E j < 400) {Q : Unit → IS → Prop} (hq : ∀ W' mx, FrLk W W' → (∀ p, W'.2 39 p = W.2 39 p + tmE E m p) → rOK E m 0 (W'.2 40) → rMx m 0 (W'.2 40) mx → (0 ≤ mx ∧ mx ≤ 400) → wp (I12_look_175 c ((c : Int) * 400) mx) Q W') : ∀ (d k : Nat) (x4 i : Int) (W1 : IS), d < k → i + 1 = d → i < m → FrLk W W1 → (∀ p, W1.2 39 p + tmE E (i + 1) p = W.2 39 p + tmE E m p) → rOK E m (i + 1) (W1.2 40) → rMx m (i + 1) (W1.2 40) x4 → (0 ≤ x4 ∧ x4 ≤ 400) → wp (I12_look_54 k c ((c : Int) * 400) x4 i) Q W1 := by
  intro d
  induction d with
  | zero =>
    intro k x4 i W1 hk i0 i1 hF h39 hR hx hb
    cases k with
    | zero => omega
    | succ k =>
      have ei : i + 1 = 0 := i0
      rw [ei] at h39 hR hx
      unfold I12_look_54 I12_look_54_st
      rw [wp_ig, wp_ite, if_pos (show i < 0 by omega)]
      refine ⟨⟨by omega, by omega⟩, hq W1 x4 hF (fun p => ?_) hR hx hb⟩
      have := h39 p
      have e0 : tmE E 0 p = 0 := rfl
      omega
  | succ d ih =>
    intro k x4 i W1 hk i0 i1 hF h39 hR hx hb
    cases k with
    | zero => omega
    | succ k =>
      have hi : 0 ≤ i := by omega
      have e18 : ∀ l, 0 ≤ l → l < m → W1.2 18 ((c : Int) * 400 + l) = E l := fun l l0 l1 => by rw [hF.2 18 (by omega)]; exact (hE l l0 l1).1
      have hEi := (hE i hi i1).2
      unfold I12_look_54 I12_look_54_st
      rw [wp_ig, wp_ite, if_neg (show ¬ i < 0 by omega), wp_ib, wA18, e18 i hi i1, wp_ib, wA39, wp_ib, wS39, wp_ib, wS40]
      refine ⟨⟨by omega, by omega⟩, ⟨by omega, by omega⟩, ⟨by omega, by omega⟩, ⟨by omega, by omega⟩, ⟨by omega, by omega⟩, ?_⟩
      have f2 : FrLk W1 (iu2 (iu2 W1 39 (E i) (W1.2 39 (E i) + 1)) 40 i 1) := (FrLk.u (by omega)).trans (FrLk.u (by omega))
      have e39 : ∀ p, (iu2 (iu2 W1 39 (E i) (W1.2 39 (E i) + 1)) 40 i 1).2 39 p = W1.2 39 p + if E i = p then 1 else 0 := fun p => by
        rw [iu2_2, if_neg (by omega), iu2_2]
        by_cases e : p = E i
        · rw [if_pos ⟨rfl, e⟩, if_pos e.symm, e]
        · rw [if_neg (fun q => e q.2), if_neg (fun q => e q.symm), Int.add_zero]
      have e40 : ∀ l, (iu2 (iu2 W1 39 (E i) (W1.2 39 (E i) + 1)) 40 i 1).2 40 l = if l = i then 1 else W1.2 40 l := fun l => by
        rw [iu2_2]
        by_cases e : l = i
        · rw [if_pos ⟨rfl, e⟩, if_pos e]
        · rw [if_neg (fun q => e q.2), if_neg e, iu2_2, if_neg (by omega)]
      generalize iu2 (iu2 W1 39 (E i) (W1.2 39 (E i) + 1)) 40 i 1 = W2 at f2 e39 e40
      have hR2 : rOK E m (i + 1) (W2.2 40) := fun l l0 l1 => by
        have := hR l l0 l1
        rw [e40 l, if_neg (by omega)]
        refine ⟨this.1, fun y y0 y1 y2 => ?_, ?_⟩
        · rw [e40 y, if_neg (by omega)]
          exact this.2.1 y y0 y1 y2
        · rcases this.2.2 with q | ⟨y, y0, y1, y2, y3⟩
          · exact Or.inl q
          · exact Or.inr ⟨y, y0, y1, y2, by rw [e40 y, if_neg (by omega)]; exact y3⟩
      have fW2 := hF.trans f2
      have e17 : W2.2 17 (c : Int) = m := by rw [fW2.2 17 (by omega)]; exact h17
      refine m_lk91 (W := W2) (i := i) hc e17 hm.2 ⟨hi, i1⟩ (fun j j0 j1 => by rw [fW2.2 18 (by omega)]; exact hE j j0 j1) hR2 (fun W3 f3 g39 g40 hR3 => ?_) (m - (i + 1)).toNat LFU (i + 1) W2 (Nat.lt_of_le_of_lt (show (m - (i + 1)).toNat ≤ 400 by omega) (by decide)) (Int.le_refl _) (by omega) FrLk.refl rfl (fun _ _ => rfl) (by rw [e40, if_pos rfl]; exact Int.le_refl _) (fun l l0 l1 => by omega) (Or.inl (by rw [e40, if_pos rfl]))
      have hR1 := (hR3 i (Int.le_refl _) i1).1
      have hR2' := rOK_le hR3 m.toNat i (Int.le_refl _) i1 (by omega)
      unfold I12_look_155
      rw [wp_ib, wA40, wp_ig, wp_ig]
      refine ⟨⟨by omega, by omega⟩, ⟨by omega, by omega⟩, ⟨by omega, by omega⟩, ?_⟩
      have ei : i + (-1) + 1 = i := by omega
      have e3 : ∀ l, i < l → l < m → W3.2 40 l = W1.2 40 l := fun l l0 l1 => by rw [g40 l (by omega), e40 l, if_neg (by omega)]
      refine ih k _ (i + (-1)) W3 (by omega) (by omega) (by omega) (fW2.trans f3) (fun p => ?_) (by rw [ei]; exact hR3) ?_ ?_
      · have h1 := h39 p
        rw [tmE_s hi] at h1
        rw [ei, g39, e39 p]
        omega
      · rw [ei]
        refine ⟨fun l l0 l1 => ?_, ?_⟩
        · by_cases e : l = i
          · rw [e]
            split <;> omega
          · have := hx.1 l (by omega) l1
            rw [e3 l (by omega) l1]
            split <;> omega
        · refine Or.inr ?_
          by_cases q : x4 < W3.2 40 i
          · rw [if_pos q]
            exact ⟨i, Int.le_refl _, i1, rfl⟩
          · rw [if_neg q]
            rcases hx.2 with ⟨y1, y2⟩ | ⟨y, y0, y1, y2⟩
            · omega
            · exact ⟨y, by omega, y1, by rw [e3 y (by omega) y1]; exact y2⟩
      · split <;> omega
/-- which entries stay -/
theorem m_lk181 (hc : c < 16) (h17 : W.2 17 c = m) (hm : 0 ≤ m ∧ m ≤ 400) (hE : ∀ j, 0 ≤ j → j < m → W.2 18 ((c : Int) * 400 + j) = E j ∧ 0 ≤ E j ∧ E j < 400) (hR : ∀ i, 0 ≤ i → i < m → 1 ≤ W.2 40 i ∧ W.2 40 i ≤ 400) (hx : 0 ≤ mx ∧ mx ≤ 400) {Q : Unit → IS → Prop} (hq : ∀ W', FrLk W W' → W'.2 39 = W.2 39 → W'.2 40 = W.2 40 → (∀ i, 0 ≤ i → i < m → W'.2 41 i = if rst E (W.2 40) mx i.toNat then 1 else 0) → Q () W') : ∀ (d k : Nat) (x4 x5 i : Int) (W1 : IS), d < k → 0 ≤ i → i + d = m → FrLk W W1 → W1.2 39 = W.2 39 → W1.2 40 = W.2 40 → (x4, x5) = gst E (W.2 40) mx i.toNat → (∀ l, 0 ≤ l → l < i → W1.2 41 l = if rst E (W.2 40) mx l.toNat then 1 else 0) → wp (I12_look_181 k c ((c : Int) * 400) x4 x5 i) Q W1 := by
  intro d
  induction d with
  | zero =>
    intro k x4 x5 i W1 hk i0 i1 hF h39 h40 hg h41
    cases k with
    | zero => omega
    | succ k =>
      have e17 : W1.2 17 (c : Int) = m := by rw [hF.2 17 (by omega)]; exact h17
      unfold I12_look_181 I12_look_181_st
      rw [wp_ib, wA17, e17, wp_ig, wp_ig, wp_ite, if_pos (show m ≤ i by omega), wp_ir]
      exact ⟨⟨by omega, by omega⟩, ⟨by omega, by omega⟩, ⟨by omega, by omega⟩, hq W1 hF h39 h40 fun l l0 l1 => h41 l l0 (by omega)⟩
  | succ d ih =>
    intro k x4 x5 i W1 hk i0 i1 hF h39 h40 hg h41
    cases k with
    | zero => omega
    | succ k =>
      have e17 : W1.2 17 (c : Int) = m := by rw [hF.2 17 (by omega)]; exact h17
      have e18 : W1.2 18 ((c : Int) * 400 + i) = E i := by rw [hF.2 18 (by omega)]; exact (hE i i0 (by omega)).1
      have hEi := (hE i i0 (by omega)).2
      have hRi := hR i i0 (by omega)
      have hbd := gst_bd (E := E) (R := W.2 40) (m := m.toNat) hx.1 hx.2 (fun i hi => (hR i (by omega) (by omega)).1) (fun i hi => (hE i (by omega) (by omega)).2) i.toNat (by omega)
      have ex : ((i.toNat : Nat) : Int) = i := by omega
      have hrs : rst E (W.2 40) mx i.toNat ↔ (W.2 40 i = x4 ∧ x5 < E i) := by
        unfold rst
        rw [← hg, ex]
      have hgs := gst_sn (E := E) (R := W.2 40) (mx := mx) i.toNat
      rw [show i.toNat + 1 = (i + 1).toNat by omega] at hgs
      rw [← hg] at hbd
      have hg1 : rst E (W.2 40) mx i.toNat → (x4 + (-1), E i) = gst E (W.2 40) mx (i + 1).toNat := fun q => by rw [hgs, if_pos q, ← hg, ex]; rfl
      have hg0 : ¬ rst E (W.2 40) mx i.toNat → (x4, x5) = gst E (W.2 40) mx (i + 1).toNat := fun q => by rw [hgs, if_neg q, ← hg]
      have hb4 : -2147483648 ≤ x4 ∧ x4 < 2147483648 := by have := hbd.1; simp only at this; omega
      have hb5 : -2147483648 ≤ x5 ∧ x5 < 2147483648 := by have := hbd.2; simp only at this; omega
      have e41 : ∀ v, (v = if rst E (W.2 40) mx i.toNat then (1 : Int) else 0) → ∀ l, 0 ≤ l → l < i + 1 → (iu2 W1 41 i v).2 41 l = if rst E (W.2 40) mx l.toNat then 1 else 0 := fun v hv l l0 l1 => by
        rw [iu2_2]
        by_cases e : l = i
        · rw [if_pos ⟨rfl, e⟩, hv, e]
        · rw [if_neg (fun q => e q.2)]
          exact h41 l l0 (by omega)
      have u39 : ∀ v, (iu2 W1 41 i v).2 39 = W.2 39 := fun v => by funext l; rw [iu2_2, if_neg (by omega), h39]
      have u40 : ∀ v, (iu2 W1 41 i v).2 40 = W.2 40 := fun v => by funext l; rw [iu2_2, if_neg (by omega), h40]
      have out : ¬ (W.2 40 i = x4 ∧ x5 < E i) → wp (I12_look_228 (I12_look_181 k) c ((c : Int) * 400) x4 x5 i i 41) Q W1 := fun hn => by
        have hn' : ¬ rst E (W.2 40) mx i.toNat := fun q => hn (hrs.mp q)
        unfold I12_look_228 I12_look_229 I12_look_257
        rw [wp_ib, wY41, wp_ib, wZ41, iu2_2, if_pos ⟨rfl, rfl⟩, wp_ig, wp_ite, if_pos rfl]
        exact ⟨⟨⟨i0, by omega⟩, Or.inl rfl⟩, ⟨i0, by omega⟩, by decide, ih k x4 x5 (i + 1) _ (by omega) (by omega) (by omega) (hF.trans (FrLk.u (by omega))) (u39 0) (u40 0) (hg0 hn') (e41 0 (by rw [if_neg hn']))⟩
      unfold I12_look_181 I12_look_181_st
      rw [wp_ib, wA17, e17, wp_ig, wp_ig, wp_ite, if_neg (show ¬ m ≤ i by omega), wp_ib, wA40, h40, wp_ig, wp_ig, wp_ite]
      refine ⟨⟨by omega, by omega⟩, ⟨by omega, by omega⟩, ⟨by omega, by omega⟩, ⟨by omega, by omega⟩, ⟨by omega, by omega⟩, hb4, ?_⟩
      by_cases k1 : W.2 40 i = x4
      · rw [if_pos k1, wp_ib, wA18, e18, wp_ig, wp_ig, wp_ite]
        refine ⟨⟨by omega, by omega⟩, ⟨by omega, by omega⟩, hb5, ?_⟩
        by_cases k2 : E i ≤ x5
        · rw [if_pos k2]
          exact out fun q => by omega
        · have hrt : rst E (W.2 40) mx i.toNat := hrs.mpr ⟨k1, by omega⟩
          have e18' : (iu2 W1 41 i 1).2 18 ((c : Int) * 400 + i) = E i := by rw [iu2_2, if_neg (by omega), e18]
          unfold I12_look_229 I12_look_257
          rw [if_neg k2, wp_ib, wY41, wp_ib, wZ41, iu2_2, if_pos ⟨rfl, rfl⟩, wp_ig, wp_ite, if_neg (by decide), wp_ib, wA18, e18']
          exact ⟨⟨⟨i0, by omega⟩, Or.inr rfl⟩, ⟨i0, by omega⟩, by decide, ⟨by omega, by omega⟩, ih k (x4 + (-1)) (E i) (i + 1) _ (by omega) (by omega) (by omega) (hF.trans (FrLk.u (by omega))) (u39 1) (u40 1) (hg1 hrt) (e41 1 (by rw [if_pos hrt]))⟩
      · rw [if_neg k1]
        exact out fun q => k1 q.1
theorem m_lk16 {n : Int} (hb8 : b < 8) (h11 : W.2 11 (b : Int) = n) (hn : 0 ≤ n ∧ n ≤ 400) {Q : Unit → IS → Prop} (hq : ∀ W', FrLk W W' → (∀ p, 0 ≤ p → p < n → W'.2 39 p = 0) → wp (I12_look_41 c ((c : Int) * 400)) Q W') : ∀ (d k : Nat) (p : Int) (W1 : IS), d < k → 0 ≤ p → p + d = n → FrLk W W1 → (∀ l, 0 ≤ l → l < p → W1.2 39 l = 0) → wp (I12_look_16 k c b ((c : Int) * 400) p) Q W1 := by
  intro d
  induction d with
  | zero =>
    intro k p W1 hk p0 p1 hF h39
    cases k with
    | zero => omega
    | succ k =>
      have e11 : W1.2 11 (b : Int) = n := by rw [hF.2 11 (by omega)]; exact h11
      unfold I12_look_16 I12_look_16_st
      rw [wp_ib, wA11, e11, wp_ig, wp_ig, wp_ite, if_pos (show n ≤ p by omega)]
      exact ⟨⟨by omega, by omega⟩, ⟨by omega, by omega⟩, ⟨by omega, by omega⟩, hq W1 hF fun l l0 l1 => h39 l l0 (by omega)⟩
  | succ d ih =>
    intro k p W1 hk p0 p1 hF h39
    cases k with
    | zero => omega
    | succ k =>
      have e11 : W1.2 11 (b : Int) = n := by rw [hF.2 11 (by omega)]; exact h11
      unfold I12_look_16 I12_look_16_st
      rw [wp_ib, wA11, e11, wp_ig, wp_ig, wp_ite, if_neg (show ¬ n ≤ p by omega), wp_ib, wS39]
      refine ⟨⟨by omega, by omega⟩, ⟨by omega, by omega⟩, ⟨by omega, by omega⟩, ⟨by omega, by omega⟩, ih k (p + 1) _ (by omega) (by omega) (by omega) (hF.trans (FrLk.u (by omega))) fun l l0 l1 => ?_⟩
      rw [iu2_2]
      by_cases e : l = p
      · rw [if_pos ⟨rfl, e⟩]
      · rw [if_neg (fun q => e q.2)]
        exact h39 l l0 (by omega)
theorem m_look {n : Int} (hb8 : b < 8) (hc : c < 16) (h16 : W.2 16 (c : Int) = b) (h11 : W.2 11 (b : Int) = n) (hn : 0 ≤ n ∧ n ≤ 400) (h17 : W.2 17 c = m) (hm : 0 ≤ m ∧ m ≤ 400) (hE : ∀ j, 0 ≤ j → j < m → W.2 18 ((c : Int) * 400 + j) = E j ∧ 0 ≤ E j ∧ E j < n) {Q : Unit → IS → Prop} (hq : ∀ W' R mx, FrLk W W' → rOK E m 0 R → rMx m 0 R mx → (∀ p, 0 ≤ p → p < n → W'.2 39 p = tmE E m p) → (∀ i, 0 ≤ i → i < m → W'.2 41 i = if rst E R mx i.toNat then 1 else 0) → Q () W') : wp (I12_look c) Q W := by
  have hE4 : ∀ j, 0 ≤ j → j < m → W.2 18 ((c : Int) * 400 + j) = E j ∧ 0 ≤ E j ∧ E j < 400 := fun j j0 j1 => by have := hE j j0 j1; exact ⟨this.1, this.2.1, by omega⟩
  unfold I12_look
  rw [wp_ib, wA16, h16]
  refine ⟨⟨by omega, by omega⟩, m_lk16 (b := b) (c := c) (n := n) hb8 h11 hn (fun W1 f1 h39 => ?_) n.toNat LFU 0 W (Nat.lt_of_le_of_lt (show n.toNat ≤ 400 by omega) (by decide)) (Int.le_refl _) (by omega) FrLk.refl fun l l0 l1 => by omega⟩
  have e17 : W1.2 17 (c : Int) = m := by rw [f1.2 17 (by omega)]; exact h17
  have e18 : ∀ j, 0 ≤ j → j < m → W1.2 18 ((c : Int) * 400 + j) = E j ∧ 0 ≤ E j ∧ E j < 400 := fun j j0 j1 => by rw [f1.2 18 (by omega)]; exact hE4 j j0 j1
  unfold I12_look_41
  rw [wp_ib, wA17, e17]
  refine ⟨⟨by omega, by omega⟩, m_lk54 (W := W1) (c := c) (E := E) hc e17 hm e18 (fun W2 mx f2 h2 hR hmx hb => ?_) m.toNat LFU 0 (m - 1) W1 (Nat.lt_of_le_of_lt (show m.toNat ≤ 400 by omega) (by decide)) (by omega) (by omega) FrLk.refl (fun p => by rw [show m - 1 + 1 = m by omega]) (fun l l0 l1 => by omega) ⟨fun l l0 l1 => by omega, Or.inl ⟨by omega, rfl⟩⟩ (by omega)⟩
  have f12 := f1.trans f2
  unfold I12_look_175
  refine m_lk181 (W := W2) (c := c) (E := E) (mx := mx) hc (by rw [f2.2 17 (by omega)]; exact e17) hm (fun j j0 j1 => by rw [f2.2 18 (by omega)]; exact e18 j j0 j1) (fun i i0 i1 => ?_) hb (fun W3 f3 g39 g40 g41 => ?_) m.toNat LFU mx (-1) 0 W2 (Nat.lt_of_le_of_lt (show m.toNat ≤ 400 by omega) (by decide)) (Int.le_refl _) (by omega) FrLk.refl rfl rfl rfl fun l l0 l1 => by omega
  · have h1 := (hR i i0 i1).1
    have h2' := rOK_le hR m.toNat i i0 i1 (by omega)
    omega
  · refine hq W3 (W2.2 40) mx (f12.trans f3) hR hmx (fun p p0 p1 => ?_) g41
    rw [g39, h2 p, h39 p p0 p1, Int.zero_add]
end LOK
