/-! ===== the class writes a note ===== -/
section CNO
variable {W : IS} {J : JS} {t E : Int → Int} {n m : Int} {b c id : Nat}
theorem nmC_in {p : Int} (h : 0 ≤ p ∧ p < LC (mB W b)) : nmC W b p = nmT W b p := by
  unfold nmC
  rw [if_pos h]
theorem nmC_le (hI : BkI W (b : Int)) (p : Int) : (nmC W b p).length ≤ 8 := by
  unfold nmC
  split
  · rename_i h
    exact nmT_le hI h.1 h.2
  · exact Nat.zero_le _
theorem txt_l : (txt 14).length = 2 ∧ (txt 6).length = 2 ∧ (txt 5).length = 6 ∧ (txt 8).length = 6 ∧ (txt 9).length = 6 ∧ txt 5 = txt 13 ∧ txt 8 = txt 16 ∧ txt 9 = txt 18 ∧ txt 7 = txt 14 ∧ (txt 13).length = 6 ∧ (txt 16).length = 6 ∧ (txt 18).length = 6 := by decide
theorem ilen {p s : Int} {l : List Nat} (h : l.length ≤ 8) : (if p ≤ s then ([] : List Nat) else 45 :: l).length ≤ 9 := by
  split
  · exact Nat.zero_le _
  · rw [List.length_cons]; omega
theorem ile9 {c : Prop} {d : Decidable c} : (if c then 0 else 9) ≤ 9 := by split <;> omega
theorem rnT_le {nm : Int → List Nat} (hn : ∀ p, (nm p).length ≤ 8) : ∀ (d : Nat) (p o f : Int), (rnT nm t d p o f).length ≤ 10 * d + (if o < 0 then 0 else 9)
  | 0, p, o, f => Nat.zero_le _
  | d + 1, p, o, f => by
    have hs := txt_l.1
    have h1 := rnT_le hn d (p + 1) (-1) f
    have h2 := rnT_le hn d (p + 1) (-1) 1
    have h3 := rnT_le hn d (p + 1) (if o < 0 then p else o) f
    have n1 := hn (if o < 0 then p else o)
    have n2 := hn p
    rw [if_pos (by decide)] at h1 h2
    unfold rnT
    by_cases c0 : t p = 0
    · rw [if_pos c0]
      omega
    · rw [if_neg c0]
      by_cases c1 : d = 0 ∨ t (p + 1) = 0
      · rw [if_pos c1, List.length_append, List.length_append, List.length_append]
        have e1 : (if f = 0 then ([] : List Nat) else txt 14).length ≤ 2 := by
          split
          · exact Nat.zero_le _
          · omega
        by_cases co : o < 0
        · rw [if_pos co] at n1 ⊢
          rw [if_pos (Int.le_refl p), if_pos co, List.length_nil]
          omega
        · have e2 := ilen (p := p) (s := if o < 0 then p else o) n2
          rw [if_neg co] at n1 e2 ⊢
          rw [if_neg co]
          omega
      · rw [if_neg c1]
        have e3 := ile9 (c := (if o < 0 then p else o) < 0) (d := inferInstance)
        omega
theorem mvT_le {nm : Int → List Nat} (hn : ∀ p, (nm p).length ≤ 8) : ∀ (d : Nat) (e f : Int), (mvT nm E t d e f).length ≤ 10 * d
  | 0, e, f => Nat.zero_le _
  | d + 1, e, f => by
    have hs := txt_l.1
    have h1 := mvT_le hn d (e + 1) f
    have h2 := mvT_le hn d (e + 1) 1
    have n1 := hn (E e)
    unfold mvT
    by_cases c0 : t e = 0
    · rw [if_pos c0]
      omega
    · rw [if_neg c0, List.length_append, List.length_append]
      have e1 : (if f = 0 then ([] : List Nat) else txt 14).length ≤ 2 := by
        split
        · exact Nat.zero_le _
        · omega
      omega
/-- each index of a row is a told place's -/
theorem cnT_ex (hb : b01 t) {j : Int} (j0 : 0 ≤ j) (n0 : 0 ≤ n) (j1 : j < cnT t n) : ∃ q, 0 ≤ q ∧ q < n ∧ t q = 1 ∧ cnT t q = j := by
  obtain ⟨k, k1, k2, k3⟩ := smz_find (f := t) (a := 0) n.toNat j j0 j1
  rw [Int.zero_add] at k3
  have ht := hb (k : Int)
  refine ⟨k, by omega, by omega, by omega, ?_⟩
  unfold cnT
  rw [show ((k : Int)).toNat = k by omega]
  omega
theorem c_head2 (hC : CT J) {i : Nat} {acc : List Nat} (hi : i < 19) (hl : acc.length + (2 + (txt i).length) ≤ 16384) : G9_writeHead i (jux J acc) = some ((), jux J (hdT acc (txt i))) := by
  have h2 := txt_l.2.1
  refine wp_eq ?_
  unfold G9_writeHead G9_writeHead_20
  rw [wp_ib, jp_Xl, jux_x, wp_ig, wp_ite]
  refine ⟨⟨by omega, by omega⟩, ?_⟩
  unfold hdT
  by_cases c : acc = []
  · subst c
    rw [if_pos (by decide), if_pos rfl, wp_ib, jp_Xs, jp_ret]
    refine ⟨⟨show i < jT J by have := hC.1; omega, ?_⟩, rfl, ?_⟩
    · rw [jux_x, jux_t, hC.2 i hi]
      omega
    · rw [jux_x, jux_t, hC.2 i hi, jux_jux]
      rfl
  · have hl0 : ¬ (acc.length : Int) ≤ 0 := fun q => c (List.length_eq_zero_iff.mp (by omega))
    rw [if_neg hl0, if_neg c, wp_ib, jp_Xs, wp_ib, jp_Xs, jp_ret]
    refine ⟨⟨show 6 < jT J by have := hC.1; omega, ?_⟩, ⟨show i < jT J by have := hC.1; omega, ?_⟩, rfl, ?_⟩
    · rw [jux_x, jux_t, hC.2 6 (by omega)]
      omega
    · simp only [jux_x, jux_t]
      rw [hC.2 i hi, hC.2 6 (by omega), List.length_append]
      omega
    · simp only [jux_x, jux_t, jux_jux]
      rw [hC.2 i hi, hC.2 6 (by omega), List.append_assoc]
theorem c_runs19 (hC : CT J) (hJ : BoR J W b) (hI : BkI W (b : Int)) (hb : b01 t) (hx : rxk J id) (hid : 12 ≤ id) (hL : LsR J id t (LC (mB W b))) : ∀ (d : Nat) (p o f : Int) (acc : List Nat) (k : Nat) (x4 x5 : Int), d < k → 0 ≤ p → p + d = LC (mB W b) → x5 = cnT t p → ((f = 0 ∧ x4 = 0) ∨ (f = 1 ∧ 0 < x4)) → ((o = -1 ∧ x4 = x5) ∨ (0 ≤ o ∧ o < p ∧ x4 = cnT t o ∧ t o = 1 ∧ 1 ≤ d ∧ t p = 1)) → acc.length + 10 * d + (if o < 0 then 9 else 18) ≤ 16384 → G9_writeRuns_19 k b id x4 x5 (jux J acc) = some ((), jux J (acc ++ rnT (nmC W b) t d p o f)) := by
  have h4 := hI.2.2.1
  have hLn := (LC_tot hI.1).1
  have hbn := cnT_bd hb hLn
  have hrl := rl4 hid
  have gt : ∀ (acc : List Nat) (q : Int), 0 ≤ q → q < LC (mB W b) → t q = 1 → G8_get id (cnT t q) (jux J acc) = some (q, jux J acc) := fun acc q q0 q1 e => by
    have h1 := cnT_bd hb q0
    have h2 := cnT_lt hb q0 q1 e
    have hx' : rxk (jux J acc) id := hx
    have e1 : js (jux J acc) 1 id = cnT t (LC (mB W b)) := hL.1
    rw [c_get hx' ⟨by omega, by omega⟩ (by rw [e1]; omega) (by rw [e1, hrl]; omega), e1, if_pos ⟨h1.1, h2⟩]
    rw [show ja (jux J acc) 1 id (cnT t q) = q from hL.2 q q0 q1 e]
  have hxx : ∀ acc : List Nat, (id ≤ 12 ∨ (100 ≤ id ∧ id < 100 + 4 * jB (jux J acc)) ∨ (200 ≤ id ∧ id < 200 + 5 * jC (jux J acc))) := fun acc => hx
  intro d
  induction d with
  | zero =>
    intro p o f acc k x4 x5 hk p0 p1 e5 hf ho hl
    cases k with
    | zero => omega
    | succ k =>
      have e1 : js (jux J acc) 1 id = cnT t (LC (mB W b)) := hL.1
      have ep : p = LC (mB W b) := by omega
      refine wp_eq ?_
      unfold G9_writeRuns_19 G9_writeRuns_19_st
      rw [wp_ib, jG1, kj_1, e1, wp_ig, wp_ig, wp_ite, if_pos (show cnT t (LC (mB W b)) ≤ x5 by rw [e5, ep]; exact Int.le_refl _), jp_ret]
      refine ⟨hxx acc, ⟨by omega, by omega⟩, ⟨by rw [e5, ep]; omega, by rw [e5, ep]; omega⟩, rfl, ?_⟩
      unfold rnT
      rw [List.append_nil]
  | succ d ih =>
    intro p o f acc k x4 x5 hk p0 p1 e5 hf ho hl
    have hp := cnT_bd hb p0
    rcases hb p with tp | tp
    · -- not told
      have ho1 : o = -1 ∧ x4 = x5 := by
        rcases ho with q | q
        · exact q
        · omega
      rw [ih (p + 1) (-1) f acc k x4 x5 (by omega) (by omega) (by omega) (by rw [e5, cnT_s p0, tp, Int.add_zero]) hf (Or.inl ⟨rfl, ho1.2⟩) (by rw [ho1.1, if_pos (by decide)] at hl; rw [if_pos (by decide)]; omega)]
      show _ = some ((), jux J (acc ++ (if t p = 0 then rnT (nmC W b) t d (p + 1) (-1) f else _)))
      rw [if_pos tp]
    · cases k with
      | zero => omega
      | succ k =>
        have pL : p < LC (mB W b) := by omega
        have hlt := cnT_lt hb p0 pL tp
        have e1 : ∀ acc : List Nat, js (jux J acc) 1 id = cnT t (LC (mB W b)) := fun acc => hL.1
        have ht14 := txt_l.1
        have hl1 : acc.length + 10 * d + 19 ≤ 16384 ∧ (¬ o < 0 → acc.length + 10 * d + 28 ≤ 16384) := by
          by_cases co : o < 0
          · rw [if_pos co] at hl
            exact ⟨by omega, fun q => absurd co q⟩
          · rw [if_neg co] at hl
            exact ⟨by omega, fun _ => by omega⟩
        -- where the run begins
        have hs : x4 = cnT t (if o < 0 then p else o) ∧ t (if o < 0 then p else o) = 1 ∧ 0 ≤ (if o < 0 then p else o) ∧ (if o < 0 then p else o) ≤ p ∧ (x5 ≤ x4 ↔ p ≤ (if o < 0 then p else o)) := by
          rcases ho with ⟨q1, q2⟩ | ⟨q1, q2, q3, q4, q5, q6⟩
          · rw [if_pos (by omega)]
            exact ⟨by omega, tp, p0, Int.le_refl _, ⟨fun _ => Int.le_refl _, fun _ => by omega⟩⟩
          · rw [if_neg (by omega)]
            have := cnT_lt hb q1 q2 q4
            exact ⟨q3, q4, q1, by omega, ⟨fun _ => by omega, fun _ => by omega⟩⟩
        obtain ⟨s1, s2, s3, s4, s5⟩ := hs
        revert s1 s2 s3 s4 s5
        have er : rnT (nmC W b) t (d + 1) p o f = if d = 0 ∨ t (p + 1) = 0 then (if f = 0 then [] else txt 14) ++ (nmC W b (if o < 0 then p else o) ++ ((if p ≤ (if o < 0 then p else o) then [] else 45 :: nmC W b p) ++ rnT (nmC W b) t d (p + 1) (-1) 1)) else rnT (nmC W b) t d (p + 1) (if o < 0 then p else o) f := by
          show (if t p = 0 then _ else _) = _
          rw [if_neg (by omega)]
        rw [er]
        generalize (if o < 0 then p else o) = s
        intro s1 s2 s3 s4 s5
        have sL : s < LC (mB W b) := by omega
        have hx4 := cnT_bd hb s3
        -- the run ends here
        have flush : wp (G9_writeRuns_61 (G9_writeRuns_19 k) b id x4 x5) (fun v t' => v = () ∧ t' = jux J (acc ++ ((if f = 0 then [] else txt 14) ++ (nmC W b s ++ ((if p ≤ s then [] else 45 :: nmC W b p) ++ rnT (nmC W b) t d (p + 1) (-1) 1))))) (jux J acc) := by
          have body : ∀ acc1 : List Nat, acc1.length ≤ acc.length + 2 → wp (G9_writeRuns_76 (G9_writeRuns_19 k) b id x4 x5) (fun v t' => v = () ∧ t' = jux J (acc1 ++ (nmC W b s ++ ((if p ≤ s then [] else 45 :: nmC W b p) ++ rnT (nmC W b) t d (p + 1) (-1) 1)))) (jux J acc1) := fun acc1 ha => by
            have n1 := nmC_le hI s
            have n2 := nmC_le hI p
            unfold G9_writeRuns_76 G9_writeRuns_115 G9_writeRuns_121
            have gs := gt acc1 s s3 sL s2
            rw [← s1] at gs
            rw [wp_ib, jp_E, kj_1, wp_ib, wp_ret gs, wp_ib, wp_ret (c_writeName hC hJ hI s3 sL (l := acc1) (by omega)), ← nmC_in ⟨s3, sL⟩, wp_ig, wp_ig, wp_ite]
            refine ⟨hxx acc1, ⟨by omega, by omega⟩, ⟨by omega, by omega⟩, ?_⟩
            have nx : ∀ acc2 : List Nat, acc2.length + 10 * d + 9 ≤ 16384 → G9_writeRuns_19 k b id (x5 + 1) (x5 + 1) (jux J acc2) = some ((), jux J (acc2 ++ rnT (nmC W b) t d (p + 1) (-1) 1)) := fun acc2 h2 => ih (p + 1) (-1) 1 acc2 k (x5 + 1) (x5 + 1) (by omega) (by omega) (by omega) (by rw [e5, cnT_s p0, tp]) (Or.inr ⟨rfl, by omega⟩) (Or.inl ⟨rfl, rfl⟩) (by rw [if_pos (by decide)]; exact h2)
            by_cases c5 : x5 ≤ x4
            · rw [if_pos c5, if_pos (s5.mp c5), wp_ret (nx _ (by rw [List.length_append]; omega)), List.nil_append, List.append_assoc]
              exact ⟨rfl, rfl⟩
            · have c5' : ¬ p ≤ s := fun q => c5 (s5.mpr q)
              have gp := gt (acc1 ++ nmC W b s ++ [45]) p p0 pL tp
              rw [← e5] at gp
              have ho2 : ¬ o < 0 := fun q => c5' (by rcases ho with h | h <;> omega)
              have hl2 := hl1.2 ho2
              rw [if_neg c5, if_neg c5', wp_ib, jp_Xc, jux_x, jux_jux, show (45 : Int).toNat = 45 from rfl, wp_ib, jp_E, kj_1, wp_ib, wp_ret gp, wp_ib, wp_ret (c_writeName hC hJ hI p0 pL (l := acc1 ++ nmC W b s ++ [45]) (by rw [List.length_append, List.length_append, List.length_singleton]; omega)), ← nmC_in ⟨p0, pL⟩, wp_ret (nx _ (by rw [List.length_append, List.length_append, List.length_append, List.length_singleton]; omega))]
              refine ⟨⟨by omega, by rw [List.length_append]; omega⟩, hxx _, rfl, ?_⟩
              rw [List.append_assoc, List.append_assoc, List.append_assoc, List.cons_append]
              rfl
          unfold G9_writeRuns_61
          rw [wp_ig, wp_ite]
          refine ⟨⟨by omega, by omega⟩, ?_⟩
          rcases hf with ⟨f0, f4⟩ | ⟨f0, f4⟩
          · rw [if_pos (by omega), if_pos f0, List.nil_append]
            exact body acc (by omega)
          · rw [if_neg (by omega), if_neg (by omega), wp_ib, jp_Xs, jux_x, jux_t, hC.2 7 (by omega), txt_l.2.2.2.2.2.2.2.2.1, jux_jux, ← List.append_assoc]
            exact ⟨⟨show 7 < jT J by have := hC.1; omega, by omega⟩, body _ (by rw [List.length_append]; omega)⟩
        refine wp_eq ?_
        unfold G9_writeRuns_19 G9_writeRuns_19_st
        rw [wp_ib, jG1, kj_1, e1, wp_ig, wp_ig, wp_ite, if_neg (show ¬ cnT t (LC (mB W b)) ≤ x5 by omega), wp_ib, jG1, kj_1, e1, wp_ig, wp_ig, wp_ite]
        refine ⟨hxx acc, ⟨by omega, by omega⟩, ⟨by omega, by omega⟩, hxx acc, ⟨by omega, by omega⟩, ⟨by omega, by omega⟩, ?_⟩
        have e51 : x5 + 1 = cnT t (p + 1) := by rw [cnT_s p0, tp, e5]
        by_cases k1 : cnT t (LC (mB W b)) ≤ x5 + 1
        · have hcond : d = 0 ∨ t (p + 1) = 0 := by
            by_cases d0 : d = 0
            · exact Or.inl d0
            · rcases hb (p + 1) with q | q
              · exact Or.inr q
              · have := cnT_lt hb (show 0 ≤ p + 1 by omega) (show p + 1 < LC (mB W b) by omega) q
                omega
          rw [if_pos k1, if_pos hcond]
          exact flush
        · obtain ⟨q, q0, q1, q2, q3⟩ := cnT_ex hb (n := LC (mB W b)) (j := x5 + 1) (by omega) hLn (by omega)
          have gq := gt acc q q0 q1 q2
          rw [q3] at gq
          have gp := gt acc p p0 pL tp
          rw [← e5] at gp
          rw [if_neg k1, wp_ib, jp_E, kj_1, wp_ib, wp_ret gq, wp_ib, jp_E, kj_1, wp_ib, wp_ret gp, wp_ig, wp_ig, wp_ite]
          refine ⟨hxx acc, hxx acc, ⟨by omega, by omega⟩, ⟨by omega, by omega⟩, ?_⟩
          by_cases k2 : q = p + 1
          · have hd : ¬ (d = 0 ∨ t (p + 1) = 0) := fun r => by
              rcases r with r | r
              · omega
              · rw [k2, r] at q2
                omega
            rw [if_pos k2, if_neg hd]
            unfold G9_writeRuns_121
            rw [wp_ret (ih (p + 1) s f acc k x4 (x5 + 1) (by omega) (by omega) (by omega) e51 hf (Or.inr ⟨s3, by omega, s1, s2, by omega, by rw [← k2]; exact q2⟩) (by rw [if_neg (by omega)]; omega))]
            exact ⟨rfl, rfl⟩
          · have hcond : d = 0 ∨ t (p + 1) = 0 := by
              by_cases d0 : d = 0
              · exact Or.inl d0
              · rcases hb (p + 1) with r | r
                · exact Or.inr r
                · exfalso
                  by_cases k3 : q < p + 1
                  · have := cnT_lt hb q0 k3 q2
                    omega
                  · have := cnT_lt hb (show 0 ≤ p + 1 by omega) (show p + 1 < q by omega) r
                    omega
            rw [if_neg k2, if_pos hcond]
            exact flush
end CNO
