/-! ===== the model writes a note ===== -/
section MNO
variable {W : IS} {J : JS} {t E R : Int → Int} {n m mx w : Int} {b c : Nat}
theorem txt_m : txt 15 = txt 6 ++ txt 16 ∧ txt 17 = txt 6 ++ txt 18 ∧ (txt 15).length = 8 ∧ (txt 17).length = 8 := by decide
theorem LkQ.wr (h : LkQ W b c E R m mx) (acc : List Nat) : LkQ (wrs acc W) b c E R m mx ∧ cjC (wrs acc W) b = cjC W b ∧ mB (wrs acc W) (b : Int) = mB W b := by
  have k2 : ∀ k, k ≠ 36 → (wrs acc W).2 k = W.2 k := fun k hk => wrs_2 hk acc W
  have em : mB (wrs acc W) (b : Int) = mB W b := mB_wrs
  obtain ⟨h1, h2, h3, h4, h5, h6, h7, h8⟩ := h
  refine ⟨⟨by rw [k2 16 (by omega)]; exact h1, by rw [k2 17 (by omega)]; exact h2, ?_, h4, h5, by rw [em, k2 39 (by omega)]; exact h6, by rw [k2 41 (by omega)]; exact h7, by rw [em, k2 18 (by omega)]; exact h8⟩, ?_, em⟩
  · unfold BkI mL Lay
    rw [em, k2 11 (by omega), k2 12 (by omega), k2 13 (by omega), k2 14 (by omega)]
    exact h3
  · unfold cjC
    rw [em, k2 12 (by omega), k2 13 (by omega), k2 14 (by omega)]
theorem LkQ.tt (h : LkQ W b c E R m mx) (hw : 2 ≤ w ∧ w ≤ 5) (acc : List Nat) {k : Int} (k0 : 0 ≤ k) (k1 : k < tlN (LC (mB W b)) m w) : I12_isTold c w k (wrs acc W) = some (tlF E (cjC W b) R m mx w k, wrs acc W) := by
  obtain ⟨h1, h2, h3⟩ := h.wr acc
  rw [← h2]
  exact m_isTold h1 hw k0 (by rw [h3]; exact k1)
theorem m_nm (hb8 : b < 8) (hI : BkI W (b : Int)) (hR : RmW W 16384) {p : Int} (p0 : 0 ≤ p) (p1 : p < LC (mB W b)) {acc : List Nat} (hl : acc.length + 8 ≤ 16384) : I12_writeName b p (wrs acc W) = some ((), wrs (acc ++ nmC W b p) W) := by
  have n1 := nmT_le hI p0 p1
  refine wp_eq ?_
  rw [nmC_in ⟨p0, p1⟩]
  exact m_writeName (by omega) (by omega) hI p0 p1 hR (show acc.length + (nmT W b p).length ≤ 16384 by omega) ⟨rfl, rfl⟩
/-- a run's end is written -/
theorem m_wrF (hb8 : b < 8) (hI : BkI W (b : Int)) (hR : RmW W 16384) {k13 : Int → Int → Int → Int → Int → IM Unit} {D d' : Nat} (hk : ∀ (p' : Int) (acc' : List Nat), d' ≤ D → 0 ≤ p' → p' + d' = LC (mB W b) → acc'.length + 10 * d' + 9 ≤ 16384 → k13 c w b 1 p' (wrs acc' W) = some ((), wrs (acc' ++ rnT (nmC W b) t d' p' (-1) 1) W)) (hD : d' ≤ D) {s q f : Int} (s0 : 0 ≤ s) (sq : s ≤ q) (q1 : q + 1 + d' = LC (mB W b)) (hf : f = 0 ∨ f = 1) {acc : List Nat} (hl : acc.length + 10 * d' + 19 ≤ 16384) (hl2 : s < q → acc.length + 10 * d' + 28 ≤ 16384) : wp (I12_writeRuns_77 k13 c w b f s q) (fun v t' => v = () ∧ t' = wrs (acc ++ ((if f = 0 then [] else txt 14) ++ (nmC W b s ++ ((if q ≤ s then [] else 45 :: nmC W b q) ++ rnT (nmC W b) t d' (q + 1) (-1) 1)))) W) (wrs acc W) := by
  have h4 := hI.2.2.1
  have h14 := txt_l.1
  have n1 := nmC_le hI s
  have n2 := nmC_le hI q
  have body : ∀ acc1 : List Nat, acc1.length ≤ acc.length + 2 → wp (I12_writeRuns_89 k13 c w b s q) (fun v t' => v = () ∧ t' = wrs (acc1 ++ (nmC W b s ++ ((if q ≤ s then [] else 45 :: nmC W b q) ++ rnT (nmC W b) t d' (q + 1) (-1) 1))) W) (wrs acc1 W) := fun acc1 ha => by
    unfold I12_writeRuns_89 I12_writeRuns_119
    rw [wp_ib, wp_ret (m_nm hb8 hI hR s0 (by omega) (acc := acc1) (by omega)), wp_ig, wp_ig, wp_ite]
    refine ⟨⟨by omega, by omega⟩, ⟨by omega, by omega⟩, ?_⟩
    by_cases k : q ≤ s
    · rw [if_pos k, if_pos k, wp_ret (hk (q + 1) _ hD (by omega) q1 (by rw [List.length_append]; omega)), List.nil_append, List.append_assoc]
      exact ⟨rfl, rfl⟩
    · have hl3 := hl2 (by omega)
      rw [if_neg k, if_neg k, wp_ib]
      refine w_wr (n := 16384) (k := 45) hR (by rw [List.length_append]; omega) rfl ?_
      rw [wp_ib, wp_ret (m_nm hb8 hI hR (by omega) (by omega) (acc := acc1 ++ nmC W b s ++ [45]) (by rw [List.length_append, List.length_append, List.length_singleton]; omega)), wp_ret (hk (q + 1) _ hD (by omega) q1 (by rw [List.length_append, List.length_append, List.length_append, List.length_singleton]; omega))]
      refine ⟨rfl, ?_⟩
      rw [List.append_assoc, List.append_assoc, List.append_assoc, List.cons_append]
      rfl
  unfold I12_writeRuns_77
  rw [wp_ig, wp_ite]
  refine ⟨⟨by omega, by omega⟩, ?_⟩
  by_cases f0 : f = 0
  · rw [if_pos f0, if_pos f0, List.nil_append]
    exact body acc (by omega)
  · rw [if_neg f0, if_neg f0, wp_ib]
    refine w_wo (n := 16384) hR (by omega) (by omega) ?_
    rw [← List.append_assoc]
    exact body _ (by rw [List.length_append]; omega)
theorem m_wr45 (h : LkQ W b c E R m mx) (hw : w = 2 ∨ w = 3) (hR : RmW W 16384) (ht : t = tlF E (cjC W b) R m mx w) {k13 : Int → Int → Int → Int → Int → IM Unit} {D : Nat} (hk : ∀ (d' : Nat) (p' : Int) (acc' : List Nat), d' ≤ D → 0 ≤ p' → p' + d' = LC (mB W b) → acc'.length + 10 * d' + 9 ≤ 16384 → k13 c w b 1 p' (wrs acc' W) = some ((), wrs (acc' ++ rnT (nmC W b) t d' p' (-1) 1) W)) : ∀ (d k : Nat) (q s o f : Int) (acc : List Nat), d < k → d ≤ D → 0 ≤ s → q + (d + 1 : Nat) = LC (mB W b) → t q = 1 → ((o = -1 ∧ q = s) ∨ (o = s ∧ s < q)) → (f = 0 ∨ f = 1) → acc.length + 10 * d + (if o < 0 then 19 else 28) ≤ 16384 → I12_writeRuns_45 k13 k c w b f s q (wrs acc W) = some ((), wrs (acc ++ rnT (nmC W b) t (d + 1) q o f) W) := by
  have hI := h.2.2.1
  have h4 := hI.2.2.1
  have hb8 := h.2.2.2.2.1.1
  have hbt : b01 t := by rw [ht]; exact b_tl
  have hN : tlN (LC (mB W b)) m w = LC (mB W b) := by unfold tlN; rw [if_neg (by omega)]
  have h14 := txt_l.1
  intro d
  induction d with
  | zero =>
    intro k q s o f acc hk' hD s0 q1 tq ho hf hl
    cases k with
    | zero => omega
    | succ k =>
      have q0 : 0 ≤ q := by omega
      have n1 := nmC_le hI s
      have n2 := nmC_le hI q
      have e11 : (wrs acc W).2 11 (b : Int) = LC (mB W b) := by rw [wq11]; exact hI.2.1
      have es : (if o < 0 then q else o) = s := by
        rcases ho with ⟨h1, h2⟩ | ⟨h1, h2⟩
        · rw [if_pos (by omega)]; exact h2
        · rw [if_neg (by omega)]; exact h1
      have er : rnT (nmC W b) t (0 + 1) q o f = (if f = 0 then [] else txt 14) ++ (nmC W b s ++ ((if q ≤ s then [] else 45 :: nmC W b q) ++ rnT (nmC W b) t 0 (q + 1) (-1) 1)) := by
        show (if t q = 0 then _ else if (0 = 0 ∨ t (q + 1) = 0) then _ else _) = _
        rw [if_neg (by omega), if_pos (Or.inl rfl), es]
      rw [er]
      refine wp_eq ?_
      unfold I12_writeRuns_45 I12_writeRuns_45_st
      rw [wp_ib, wA11, e11, wp_ig, wp_ig, wp_ite, if_pos (show LC (mB W b) ≤ q + 1 by omega)]
      refine ⟨⟨by omega, by omega⟩, ⟨by omega, by omega⟩, ⟨by omega, by omega⟩, ?_⟩
      exact m_wrF hb8 hI hR (hk 0) (by omega) s0 (by omega) (by omega) hf (by split at hl <;> omega) (fun hsq => by rw [if_neg (by omega)] at hl; omega)
  | succ d ih =>
    intro k q s o f acc hk' hD s0 q1 tq ho hf hl
    cases k with
    | zero => omega
    | succ k =>
      have q0 : 0 ≤ q := by omega
      have e11 : (wrs acc W).2 11 (b : Int) = LC (mB W b) := by rw [wq11]; exact hI.2.1
      have es : (if o < 0 then q else o) = s := by
        rcases ho with ⟨h1, h2⟩ | ⟨h1, h2⟩
        · rw [if_pos (by omega)]; exact h2
        · rw [if_neg (by omega)]; exact h1
      have hT := h.tt (w := w) (by omega) acc (k := q + 1) (by omega) (by rw [hN]; omega)
      rw [← ht] at hT
      have hb := hbt (q + 1)
      have er : rnT (nmC W b) t (d + 1 + 1) q o f = if (d + 1 = 0 ∨ t (q + 1) = 0) then (if f = 0 then [] else txt 14) ++ (nmC W b s ++ ((if q ≤ s then [] else 45 :: nmC W b q) ++ rnT (nmC W b) t (d + 1) (q + 1) (-1) 1)) else rnT (nmC W b) t (d + 1) (q + 1) s f := by
        show (if t q = 0 then _ else if (d + 1 = 0 ∨ t (q + 1) = 0) then _ else _) = _
        rw [if_neg (by omega), es]
      rw [er]
      refine wp_eq ?_
      unfold I12_writeRuns_45 I12_writeRuns_45_st
      rw [wp_ib, wA11, e11, wp_ig, wp_ig, wp_ite, if_neg (show ¬ LC (mB W b) ≤ q + 1 by omega), wp_ib, wp_ret hT, wp_ig, wp_ite]
      refine ⟨⟨by omega, by omega⟩, ⟨by omega, by omega⟩, ⟨by omega, by omega⟩, ⟨by omega, by omega⟩, ?_⟩
      by_cases z : t (q + 1) = 0
      · rw [if_pos z, if_pos (Or.inr z)]
        exact m_wrF hb8 hI hR (hk (d + 1)) hD s0 (by omega) (by omega) hf (by split at hl <;> omega) (fun hsq => by rw [if_neg (by omega)] at hl; omega)
      · rw [if_neg z, if_neg (show ¬ (d + 1 = 0 ∨ t (q + 1) = 0) by omega)]
        rw [wp_ret (ih k (q + 1) s s f acc (by omega) (by omega) s0 (by omega) (by omega) (Or.inr ⟨rfl, by omega⟩) hf (by rw [if_neg (by omega)]; split at hl <;> omega))]
        exact ⟨rfl, rfl⟩
theorem m_wr13 (h : LkQ W b c E R m mx) (hw : w = 2 ∨ w = 3) (hR : RmW W 16384) (ht : t = tlF E (cjC W b) R m mx w) : ∀ (N d k : Nat) (p f : Int) (acc : List Nat), d ≤ N → d < k → 0 ≤ p → p + d = LC (mB W b) → (f = 0 ∨ f = 1) → acc.length + 10 * d + 9 ≤ 16384 → I12_writeRuns_13 k c w b f p (wrs acc W) = some ((), wrs (acc ++ rnT (nmC W b) t d p (-1) f) W) := by
  have hI := h.2.2.1
  have h4 := hI.2.2.1
  have hb8 := h.2.2.2.2.1.1
  have hbt : b01 t := by rw [ht]; exact b_tl
  have hN : tlN (LC (mB W b)) m w = LC (mB W b) := by unfold tlN; rw [if_neg (by omega)]
  intro N
  induction N with
  | zero =>
    intro d k p f acc hd hk p0 p1 hf hl
    cases k with
    | zero => omega
    | succ k =>
      have d0 : d = 0 := by omega
      subst d0
      have e11 : (wrs acc W).2 11 (b : Int) = LC (mB W b) := by rw [wq11]; exact hI.2.1
      refine wp_eq ?_
      unfold I12_writeRuns_13 I12_writeRuns_13_st rnT
      rw [wp_ib, wA11, e11, wp_ig, wp_ig, wp_ite, if_pos (show LC (mB W b) ≤ p by omega), wp_ir, List.append_nil]
      exact ⟨⟨by omega, by omega⟩, ⟨by omega, by omega⟩, ⟨by omega, by omega⟩, rfl, rfl⟩
  | succ N ih =>
    intro d k p f acc hd hk p0 p1 hf hl
    cases k with
    | zero => omega
    | succ k =>
      have e11 : (wrs acc W).2 11 (b : Int) = LC (mB W b) := by rw [wq11]; exact hI.2.1
      cases d with
      | zero =>
        refine wp_eq ?_
        unfold I12_writeRuns_13 I12_writeRuns_13_st rnT
        rw [wp_ib, wA11, e11, wp_ig, wp_ig, wp_ite, if_pos (show LC (mB W b) ≤ p by omega), wp_ir, List.append_nil]
        exact ⟨⟨by omega, by omega⟩, ⟨by omega, by omega⟩, ⟨by omega, by omega⟩, rfl, rfl⟩
      | succ d =>
        have hT := h.tt (w := w) (by omega) acc (k := p) p0 (by rw [hN]; omega)
        rw [← ht] at hT
        have hb := hbt p
        refine wp_eq ?_
        unfold I12_writeRuns_13 I12_writeRuns_13_st
        rw [wp_ib, wA11, e11, wp_ig, wp_ig, wp_ite, if_neg (show ¬ LC (mB W b) ≤ p by omega), wp_ib, wp_ret hT, wp_ig, wp_ite]
        refine ⟨⟨by omega, by omega⟩, ⟨by omega, by omega⟩, ⟨by omega, by omega⟩, ⟨by omega, by omega⟩, ?_⟩
        by_cases z : t p = 0
        · have er : rnT (nmC W b) t (d + 1) p (-1) f = rnT (nmC W b) t d (p + 1) (-1) f := by
            show (if t p = 0 then rnT (nmC W b) t d (p + 1) (-1) f else _) = _
            rw [if_pos z]
          rw [if_pos z, wp_ret (ih d k (p + 1) f acc (by omega) (by omega) (by omega) (by omega) hf (by omega)), er]
          exact ⟨rfl, rfl⟩
        · rw [if_neg z, wp_ret (m_wr45 h hw hR ht (k13 := I12_writeRuns_13 k) (D := d) (fun d' p' acc' a1 a2 a3 a4 => ih d' k p' 1 acc' (by omega) (by omega) a2 a3 (Or.inr rfl) a4) d LFU p p (-1) f acc (Nat.lt_of_le_of_lt (show d ≤ 400 by omega) (by decide)) (Nat.le_refl _) p0 (by omega) (by omega) (Or.inl ⟨rfl, rfl⟩) hf (by rw [if_pos (by decide)]; omega))]
          exact ⟨rfl, rfl⟩
theorem m_writeRuns (h : LkQ W b c E R m mx) (hw : w = 2 ∨ w = 3) (hR : RmW W 16384) {acc : List Nat} (hl : acc.length ≤ 12000) : I12_writeRuns c w (wrs acc W) = some ((), wrs (acc ++ rnT (nmC W b) (tlF E (cjC W b) R m mx w) (LC (mB W b)).toNat 0 (-1) 0) W) := by
  have h4 := h.2.2.1.2.2.1
  have hL := (LC_tot h.2.2.1.1).1
  have hc := h.2.2.2.2.1.2
  have e16 : (wrs acc W).2 16 (c : Int) = b := by rw [wq16]; exact h.1
  refine wp_eq ?_
  unfold I12_writeRuns
  rw [wp_ib, wA16, e16, wp_ret (m_wr13 h hw hR rfl 400 (LC (mB W b)).toNat LFU 0 0 acc (by omega) (Nat.lt_of_le_of_lt (show (LC (mB W b)).toNat ≤ 400 by omega) (by decide)) (Int.le_refl _) (by omega) (Or.inl rfl) (by omega))]
  exact ⟨⟨by omega, by omega⟩, rfl, rfl⟩
theorem m_wn101 (h : LkQ W b c E R m mx) (hR : RmW W 16384) : ∀ (d k : Nat) (f e : Int) (acc : List Nat), d < k → 0 ≤ e → e + d = m → (f = 0 ∨ f = 1) → acc.length + 10 * d ≤ 16384 → I12_writeNote_101 k c f e (wrs acc W) = some ((), wrs (acc ++ mvT (nmC W b) E (t4E E R mx) d e f) W) := by
  obtain ⟨h16, h17, hI, hm, ⟨hb8, hc⟩, h39, h41, h18⟩ := id h
  have h4 := hI.2.2.1
  have h14 := txt_l.1
  intro d
  induction d with
  | zero =>
    intro k f e acc hk e0 e1 hf hl
    cases k with
    | zero => omega
    | succ k =>
      have e17 : (wrs acc W).2 17 (c : Int) = m := by rw [wq17]; exact h17
      refine wp_eq ?_
      unfold I12_writeNote_101 I12_writeNote_101_st mvT
      rw [wp_ib, wA17, e17, wp_ig, wp_ig, wp_ite, if_pos (show m ≤ e by omega), wp_ir, List.append_nil]
      exact ⟨⟨by omega, by omega⟩, ⟨by omega, by omega⟩, ⟨by omega, by omega⟩, rfl, rfl⟩
  | succ d ih =>
    intro k f e acc hk e0 e1 hf hl
    cases k with
    | zero => omega
    | succ k =>
      have e17 : (wrs acc W).2 17 (c : Int) = m := by rw [wq17]; exact h17
      have e41 : (wrs acc W).2 41 e = if rst E R mx e.toNat then 1 else 0 := by rw [wq41]; exact h41 e e0 (by omega)
      have hEe := h18 e e0 (by omega)
      have n1 := nmC_le hI (E e)
      have et : t4E E R mx e = if rst E R mx e.toNat then 0 else 1 := rfl
      have er : mvT (nmC W b) E (t4E E R mx) (d + 1) e f = if t4E E R mx e = 0 then mvT (nmC W b) E (t4E E R mx) d (e + 1) f else (if f = 0 then [] else txt 14) ++ (nmC W b (E e) ++ mvT (nmC W b) E (t4E E R mx) d (e + 1) 1) := rfl
      rw [er]
      refine wp_eq ?_
      unfold I12_writeNote_101 I12_writeNote_101_st
      rw [wp_ib, wA17, e17, wp_ig, wp_ig, wp_ite, if_neg (show ¬ m ≤ e by omega), wp_ib, wZ41, e41, wp_ig, wp_ite]
      refine ⟨⟨by omega, by omega⟩, ⟨by omega, by omega⟩, ⟨by omega, by omega⟩, ⟨e0, by omega⟩, ifR, ?_⟩
      by_cases z : rst E R mx e.toNat
      · rw [if_pos z] at et ⊢
        unfold I12_writeNote_158
        rw [if_neg (by decide), if_pos et, wp_ret (ih k f (e + 1) acc (by omega) (by omega) (by omega) hf (by omega))]
        exact ⟨rfl, rfl⟩
      · rw [if_neg z] at et ⊢
        have body : ∀ acc1 : List Nat, acc1.length ≤ acc.length + 2 → wp (I12_writeNote_134 (I12_writeNote_101 k) c e) (fun v t' => v = () ∧ t' = wrs (acc1 ++ (nmC W b (E e) ++ mvT (nmC W b) E (t4E E R mx) d (e + 1) 1)) W) (wrs acc1 W) := fun acc1 ha => by
          have e16' : (wrs acc1 W).2 16 (c : Int) = b := by rw [wq16]; exact h16
          have e18' : (wrs acc1 W).2 18 ((c : Int) * 400 + e) = E e := by rw [wq18]; exact hEe.1
          unfold I12_writeNote_134 I12_writeNote_158
          rw [wp_ib, wA16, e16', wp_ib, wA18, e18', wp_ib, wp_ret (m_nm hb8 hI hR hEe.2.1 hEe.2.2 (acc := acc1) (by omega)), wp_ret (ih k 1 (e + 1) _ (by omega) (by omega) (by omega) (Or.inr rfl) (by rw [List.length_append]; omega)), List.append_assoc]
          exact ⟨⟨by omega, by omega⟩, ⟨by omega, by omega⟩, rfl, rfl⟩
        rw [if_pos rfl, if_neg (show ¬ t4E E R mx e = 0 by omega), wp_ig, wp_ite]
        refine ⟨⟨by omega, by omega⟩, ?_⟩
        by_cases f0 : f = 0
        · rw [if_pos f0, if_pos f0, List.nil_append]
          exact body acc (by omega)
        · rw [if_neg f0, if_neg f0, wp_ib]
          refine w_wo (n := 16384) hR (by omega) (by omega) ?_
          rw [← List.append_assoc]
          exact body _ (by rw [List.length_append]; omega)
end MNO
