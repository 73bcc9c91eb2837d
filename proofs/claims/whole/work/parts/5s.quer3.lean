/-! ===== texts are bytes; same ===== -/
def byL (l : List Nat) : Prop := ∀ c, c ∈ l → c < 256
section BYL
theorem byL_app {l m : List Nat} (h : byL l) (h' : byL m) : byL (l ++ m) := fun c hc => by
  rcases List.mem_append.mp hc with q | q
  · exact h c q
  · exact h' c q
theorem byL_nil : byL [] := fun c hc => by cases hc
theorem byL_cons {a : Nat} {l : List Nat} (h : a < 256) (h' : byL l) : byL (a :: l) := fun c hc => by
  rcases List.mem_cons.mp hc with q | q
  · omega
  · exact h' c q
theorem byL_txt : ∀ i, i < 19 → byL (txt i) := by
  unfold byL
  decide
theorem byL_dgs (n : Nat) (h : n < 100) : byL (dgs n) := by
  unfold dgs
  split
  · exact byL_cons (by omega) byL_nil
  · exact byL_cons (by omega) (byL_cons (by omega) byL_nil)
theorem byL_sgn (s : Int) : byL (sgnT s) := by
  unfold sgnT
  split
  · exact byL_txt 10 (by omega)
  · split
    · exact byL_txt 11 (by omega)
    · intro c hc
      rw [(List.mem_replicate.mp hc).2]
      exact letA_lt _
theorem byL_itF {B : BK} {g i : Int} {acc : List Nat} (hi : i.toNat < 100) (h : byL acc) : byL (itF B g i acc) := by
  unfold itF
  split
  · exact h
  · unfold sepT
    refine byL_app (byL_app h (byL_cons (by split <;> omega) byL_nil)) (byL_cons (by split <;> omega) (byL_app (byL_sgn _) (byL_dgs _ hi)))
theorem byL_itM {B : BK} {g i : Int} {acc : List Nat} (hi : i.toNat < 100) (hm : (bm B g i).toNat < 100) (h : byL acc) : byL (itM B g i acc) := by
  unfold itM
  split
  · exact h
  · unfold sepT
    refine byL_app (byL_app h (byL_cons (by split <;> omega) byL_nil)) (byL_app (byL_sgn _) (byL_app (byL_dgs _ hi) (byL_cons (by omega) (byL_dgs _ hm))))
theorem byL_chI {B : BK} (hB : BOK B) {g : Int} (hg : 0 ≤ g ∧ g < bn B) : ∀ (d : Nat) (i : Int) (acc : List Nat), 1 ≤ i → i + d ≤ bz B g + 1 → byL acc → byL (chI B g d i acc)
  | 0, _, _, _, _, h => h
  | d + 1, i, acc, i0, i1, h => by
    have hz := (hB.2.1 g hg.1 hg.2).2
    have hm := (hB.2.2.1 g i hg.1 hg.2 i0 (by omega)).2
    exact byL_chI hB hg d (i + 1) _ (by omega) (by omega) (byL_itM (by omega) (by omega) (byL_itF (by omega) h))
theorem byL_chG {B : BK} (hB : BOK B) : ∀ (d : Nat) (g : Int) (acc : List Nat), 0 ≤ g → g + d ≤ bn B → byL acc → byL (chG B d g acc)
  | 0, _, _, _, _, h => h
  | d + 1, g, acc, g0, g1, h => by
    have hz := (hB.2.1 g g0 (by omega)).2
    exact byL_chG hB d (g + 1) _ (by omega) (by omega) (byL_chI hB ⟨g0, by omega⟩ _ 1 acc (by omega) (by omega) h)
theorem byL_grT {B : BK} (hB : BOK B) {f t : Int} (f0 : 0 ≤ f) (f1 : f ≤ t) (f2 : t < bn B) : byL (grT B f t) := by
  have hz := (hB.2.1 f f0 (by omega)).2
  unfold grT chT
  refine byL_app (byL_sgn _) (byL_app ?_ (byL_app (byL_dgs _ (by omega)) ?_))
  · split
    · exact byL_nil
    · exact byL_cons (by omega) (byL_sgn _)
  · have h := byL_chG hB (t + 1 - f).toNat f [] f0 (by omega) byL_nil
    unfold clo
    split
    · exact byL_nil
    · exact byL_app h (byL_cons (by omega) byL_nil)
theorem byL_fT {B : BK} (hB : BOK B) : ∀ (d : Nat) (f g : Int), 0 ≤ f → f ≤ g → g + d = bn B → byL (fT B d f g)
  | 0, _, _, _, _, _ => byL_nil
  | d + 1, f, g, f0, f1, f2 => by
    unfold fT
    split
    · exact byL_fT hB d f (g + 1) f0 (by omega) (by omega)
    · refine byL_app ?_ (byL_app (byL_grT hB f0 f1 (by omega)) (byL_fT hB d (g + 1) (g + 1) (by omega) (by omega) (by omega)))
      unfold preT
      split
      · exact byL_nil
      · exact byL_cons (by omega) byL_nil
theorem byL_bk {B : BK} (hB : BOK B) : byL (bkT B) := by
  have h := hB.1
  exact byL_fT hB _ 0 0 (by omega) (by omega) (by omega)
theorem gD_lt {l : List Nat} {j : Nat} (h : j < l.length) : l.getD j 0 = l[j] := by
  rw [List.getD_eq_getElem?_getD, List.getElem?_eq_getElem h]
  rfl
theorem byL_g {l : List Nat} (h : byL l) (j : Nat) : l.getD j 0 < 256 := by
  by_cases c : j < l.length
  · rw [gD_lt c]
    exact h _ (List.getElem_mem c)
  · rw [List.getD_eq_getElem?_getD, List.getElem?_eq_none (by omega)]
    exact (by decide : (none : Option Nat).getD 0 < 256)
theorem lst_eq {l m : List Nat} (hl : l.length = m.length) (h : ∀ j : Nat, j < l.length → l.getD j 0 = m.getD j 0) : l = m := by
  refine List.ext_getElem hl fun n h1 h2 => ?_
  have := h n h1
  rw [gD_lt h1, gD_lt h2] at this
  exact this
end BYL
section SAM
variable {W W' : IS} {J J' : JS}
theorem m_same35 {n x2 : Int} (hn : 0 ≤ n ∧ n ≤ 16384) {Q : Int → IS → Prop} (hk : ∀ W', W'.1 = W.1 → (∀ k, k ≠ 38 → W'.2 k = W.2 k) → (∀ i, 0 ≤ i → i < n → W'.2 38 i = W.2 36 i) → wp (I12_same_61 x2 n) Q W') : ∀ (d m : Nat) (x : Int) (W1 : IS), d < m → 0 ≤ x → x + d = n → W1.1 = W.1 → (∀ k, k ≠ 38 → W1.2 k = W.2 k) → (∀ i, 0 ≤ i → i < x → W1.2 38 i = W.2 36 i) → wp (I12_same_35 m x2 n x) Q W1 := by
  intro d
  induction d with
  | zero =>
    intro m x W1 hm x0 x1 h1 h2 h3
    cases m with
    | zero => omega
    | succ m =>
      unfold I12_same_35 I12_same_35_st
      rw [wp_ig, wp_ig, wp_ite, if_pos (show n ≤ x by omega)]
      exact ⟨⟨by omega, by omega⟩, ⟨by omega, by omega⟩, hk W1 h1 h2 fun i i0 i1 => h3 i i0 (by omega)⟩
  | succ d ih =>
    intro m x W1 hm x0 x1 h1 h2 h3
    cases m with
    | zero => omega
    | succ m =>
      unfold I12_same_35 I12_same_35_st
      rw [wp_ig, wp_ig, wp_ite, if_neg (show ¬ n ≤ x by omega), wp_ib, wA36, wp_ib, wS38]
      refine ⟨⟨by omega, by omega⟩, ⟨by omega, by omega⟩, ⟨by omega, by omega⟩, ⟨by omega, by omega⟩, ih m (x + 1) _ (by omega) (by omega) (by omega) h1 (fun k hk => ?_) fun i i0 i1 => ?_⟩
      · funext l
        rw [iu2_2, if_neg (fun q => hk q.1), h2 k hk]
      · rw [iu2_2]
        by_cases c : i = x
        · rw [if_pos ⟨rfl, c⟩, h2 36 (by omega), c]
        · rw [if_neg (fun q => c q.2)]
          exact h3 i i0 (by omega)
theorem m_same84 {n : Int} (hn : 0 ≤ n ∧ n ≤ 16384) (hA : ∀ i, 0 ≤ i → i < n → R32 (W.2 38 i)) (hB : ∀ i, 0 ≤ i → i < n → R32 (W.2 36 i)) {Q : Int → IS → Prop} (h1 : (∀ i, 0 ≤ i → i < n → W.2 38 i = W.2 36 i) → Q 1 (iu1 W 2 0)) (h0 : ¬ (∀ i, 0 ≤ i → i < n → W.2 38 i = W.2 36 i) → Q 0 (iu1 W 2 0)) : ∀ (d m : Nat) (x : Int), d < m → 0 ≤ x → x + d = n → (∀ i, 0 ≤ i → i < x → W.2 38 i = W.2 36 i) → wp (I12_same_84 m n 1 x) Q W := by
  have e125 : ∀ v : Int, v = 0 ∨ v = 1 → I12_same_125 v W = some (v, iu1 W 2 0) := fun v hv => by
    refine wp_eq ?_
    unfold I12_same_125 I12_same_136
    rw [wp_ig, wp_ite, wp_ib, wp_ret m_fine, wp_ir, wp_ib, wp_ret m_fine, wp_ir]
    rcases hv with q | q
    · rw [if_pos q]
      exact ⟨by rw [q]; decide, q.symm, rfl⟩
    · rw [if_neg (by omega)]
      exact ⟨by rw [q]; decide, q.symm, rfl⟩
  have e0 : ∀ (m : Nat) (x : Int), x ≤ n → 0 ≤ x → I12_same_84 (m + 1) n 0 x W = some (0, iu1 W 2 0) := fun m x hx hx0 => by
    refine wp_eq ?_
    unfold I12_same_84 I12_same_84_st
    rw [wp_ig, wp_ig, wp_ite, wp_ret (e125 0 (Or.inl rfl)), wp_ig, if_pos rfl, wp_ret (e125 0 (Or.inl rfl))]
    refine ⟨⟨by omega, by omega⟩, ⟨by omega, by omega⟩, ?_⟩
    by_cases c : n ≤ x
    · rw [if_pos c]
      exact ⟨rfl, rfl⟩
    · rw [if_neg c]
      exact ⟨by decide, rfl, rfl⟩
  intro d
  induction d with
  | zero =>
    intro m x hm x0 x1 h
    cases m with
    | zero => omega
    | succ m =>
      unfold I12_same_84 I12_same_84_st
      rw [wp_ig, wp_ig, wp_ite, if_pos (show n ≤ x by omega), wp_ret (e125 1 (Or.inr rfl))]
      exact ⟨⟨by omega, by omega⟩, ⟨by omega, by omega⟩, h1 fun i i0 i1 => h i i0 (by omega)⟩
  | succ d ih =>
    intro m x hm x0 x1 h
    cases m with
    | zero => omega
    | succ m =>
      unfold I12_same_84 I12_same_84_st I12_same_117
      rw [wp_ig, wp_ig, wp_ite, if_neg (show ¬ n ≤ x by omega), wp_ig, wp_ite, if_neg (show ¬ (1 : Int) = 0 by decide), wp_ib, wA38, wp_ib, wA36, wp_ig, wp_ig, wp_ite]
      refine ⟨⟨by omega, by omega⟩, ⟨by omega, by omega⟩, by decide, ⟨by omega, by omega⟩, ⟨by omega, by omega⟩, hA x x0 (by omega), hB x x0 (by omega), ?_⟩
      by_cases c : W.2 38 x = W.2 36 x
      · rw [if_pos c]
        exact ih m (x + 1) (by omega) (by omega) (by omega) fun i i0 i1 => by
          by_cases c2 : i = x
          · rw [c2]; exact c
          · exact h i i0 (by omega)
      · rw [if_neg c]
        cases m with
        | zero => omega
        | succ m =>
          rw [wp_ret (e0 m (x + 1) (by omega) (by omega))]
          exact h0 fun q => c (q x x0 (by omega))
theorem m_same61 {b : Int} (hb0 : 0 ≤ b) (hb : b < 8) (hB : BOK (mB W b)) {T : List Nat} (hT : T.length ≤ 16384) (hy : byL T) (h38 : ∀ j : Nat, j < T.length → W.2 38 j = (T.getD j 0 : Nat)) {n : Int} (hn : n = T.length) {Q : Int → IS → Prop} (h1 : Q (if T = bkT (mB W b) then 1 else 0) (iu1 (wrs (bkT (mB W b)) (iu1 W 37 0)) 2 0)) : wp (I12_same_61 b n) Q W := by
  have hl := bkT_le hB
  have hby := byL_bk hB
  have e37 : (wrs (bkT (mB W b)) (iu1 W 37 0)).1 37 = (bkT (mB W b)).length := by rw [wrs_37, iu1_1, if_pos rfl, Int.zero_add]
  have e38 : (wrs (bkT (mB W b)) (iu1 W 37 0)).2 38 = W.2 38 := by rw [wrs_2 (by omega), iu1_2]
  have e36 : ∀ j : Nat, j < (bkT (mB W b)).length → (wrs (bkT (mB W b)) (iu1 W 37 0)).2 36 j = ((bkT (mB W b)).getD j 0 : Nat) := fun j hj => by
    have := wrs_36 (bkT (mB W b)) (iu1 W 37 0) j hj
    rw [iu1_1, if_pos rfl, Int.zero_add] at this
    exact this
  unfold I12_same_61 I12_same_79
  rw [wp_ib, wp_ret (m_writeBook hb0 hb hB), wp_ib, wp_igI, e37, wp_ig, wp_ig, wp_ite]
  refine ⟨⟨by omega, by omega⟩, ⟨by omega, by omega⟩, ?_⟩
  generalize wrs (bkT (mB W b)) (iu1 W 37 0) = W2 at *
  generalize bkT (mB W b) = T2 at *
  by_cases c : (T2.length : Int) = n
  · rw [if_pos c]
    refine m_same84 ⟨by omega, by omega⟩ (fun i i0 i1 => ?_) (fun i i0 i1 => ?_) (fun q => ?_) (fun q => ?_) T.length LFU 0 (Nat.lt_of_le_of_lt hT (by decide)) (by omega) (by omega) fun i i0 i1 => by omega
    · have a := h38 i.toNat (by omega)
      have a2 := byL_g hy i.toNat
      rw [show ((i.toNat : Nat) : Int) = i by omega] at a
      rw [e38, a]
      exact ⟨by omega, by omega⟩
    · have a := e36 i.toNat (by omega)
      have a2 := byL_g hby i.toNat
      rw [show ((i.toNat : Nat) : Int) = i by omega] at a
      rw [a]
      exact ⟨by omega, by omega⟩
    · have e : T = T2 := lst_eq (by omega) fun j hj => by
        have a := q j (by omega) (by omega)
        rw [e38, h38 j hj, e36 j (by omega)] at a
        omega
      rw [if_pos e] at h1
      exact h1
    · have e : ¬ T = T2 := fun e => q fun i i0 i1 => by
        have a := h38 i.toNat (by omega)
        have a2 := e36 i.toNat (by omega)
        rw [show ((i.toNat : Nat) : Int) = i by omega] at a a2
        rw [e38, a, a2, e]
      rw [if_neg e] at h1
      exact h1
  · have e : ¬ T = T2 := fun e => c (by rw [← e]; exact hn.symm)
    rw [if_neg c]
    rw [if_neg e] at h1
    have k : ∀ m : Nat, wp (I12_same_84 (m + 1) n 0 0) Q W2 := fun m => by
      unfold I12_same_84 I12_same_84_st I12_same_125 I12_same_136
      rw [wp_ig, wp_ig, wp_ite, wp_ig, wp_ite, if_pos rfl, wp_ib, wp_ret m_fine, wp_ir, wp_ig, wp_ite, if_pos rfl, wp_ig, wp_ite, if_pos rfl, wp_ib, wp_ret m_fine, wp_ir]
      refine ⟨⟨by omega, by omega⟩, by decide, ?_⟩
      by_cases c2 : n ≤ 0
      · rw [if_pos c2]; exact ⟨by decide, h1⟩
      · rw [if_neg c2]; exact ⟨by decide, by decide, h1⟩
    exact k 19999
theorem p_same (hI : Inv W J) {a a' : Int} (ha : R32 a) (ha' : R32 a') : SQ (I12_same a a') (G11_same a a') W J := by
  have i3 := hI.2.2.1
  have i6 := hI.2.2.2.2.2.1
  unfold I12_same G11_same
  refine s_mr (m_isBook ha (by omega) (by omega)) (s_cr (c_bookAt hI ha) (s_cr (c_bookAt hI ha') (s_mg ifR ?_)))
  by_cases c : 0 ≤ a ∧ a < jB J
  · refine s_m0 (by rw [if0]; exact fun q => q (by omega)) (s_mr (m_isBook ha' (by omega) (by omega)) (s_mg ifR ?_))
    rw [if_pos c]
    by_cases c' : 0 ≤ a' ∧ a' < jB J
    · refine s_m0 (by rw [if0]; exact fun q => q (by omega)) ?_
      rw [if_pos c']
      obtain ⟨b, e⟩ : ∃ b : Nat, a = b := ⟨a.toNat, by omega⟩
      obtain ⟨b', e'⟩ : ∃ b : Nat, a' = b := ⟨a'.toNat, by omega⟩
      subst e
      subst e'
      show SQ _ (ib (jW b) fun v5 => ib (jW b') fun v6 => ib (jSq v5 v6) fun v7 => ig (R32 v7) <| if v7 = 0 then ((G11_same_49 0)) else ((G11_same_49 1))) W J
      have hB := i6 b (by omega)
      have hB' := i6 b' (by omega)
      have l1 := bkT_le hB.2.1.1
      have l2 := bkT_le hB'.2.1.1
      refine s_mr (m_writeBook (by omega) (by omega) hB.2.1.1) (s_m ?_)
      rw [wp_igI]
      have e37 : (wrs (bkT (mB W b)) (iu1 W 37 0)).1 37 = (bkT (mB W b)).length := by rw [wrs_37, iu1_1, if_pos rfl, Int.zero_add]
      have e36 : ∀ j : Nat, j < (bkT (mB W b)).length → (wrs (bkT (mB W b)) (iu1 W 37 0)).2 36 j = ((bkT (mB W b)).getD j 0 : Nat) := fun j hj => by
        have := wrs_36 (bkT (mB W b)) (iu1 W 37 0) j hj
        rw [iu1_1, if_pos rfl, Int.zero_add] at this
        exact this
      have k2 : ∀ k, k ≠ 36 → (wrs (bkT (mB W b)) (iu1 W 37 0)).2 k = W.2 k := fun k hk => by rw [wrs_2 hk, iu1_2]
      have k1 : ∀ k, k ≠ 37 → (wrs (bkT (mB W b)) (iu1 W 37 0)).1 k = W.1 k := fun k hk => by rw [wrs_1 hk, iu1_1, if_neg hk]
      obtain ⟨n, hn⟩ : ∃ n : Int, n = (bkT (mB W b)).length := ⟨_, rfl⟩
      rw [e37, ← hn]
      refine ⟨trivial, ?_⟩
      unfold Sm2
      generalize wrs (bkT (mB W b)) (iu1 W 37 0) = W2 at *
      refine m_same35 (n := n) ⟨by omega, by omega⟩ (fun W3 f1 f2 f3 => ?_) (bkT (mB W b)).length LFU 0 W2 (Nat.lt_of_le_of_lt l1 (by decide)) (by omega) (by omega) rfl (fun _ _ => rfl) fun i i0 i1 => by omega
      have em : mB W3 (b' : Int) = mB W b' := by
        unfold mB
        rw [f2 6 (by omega), f2 7 (by omega), f2 8 (by omega), f2 9 (by omega), f2 10 (by omega), k2 6 (by omega), k2 7 (by omega), k2 8 (by omega), k2 9 (by omega), k2 10 (by omega)]
      refine m_same61 (b := b') (by omega) (by omega) (by rw [em]; exact hB'.2.1.1) (T := bkT (mB W b)) (by omega) (byL_bk hB.2.1.1) (fun j hj => by rw [f3 j (by omega) (by omega), e36 j hj]) hn ?_
      rw [em, wp_ib, jp_W]
      refine ⟨by omega, ?_⟩
      rw [wp_ib, jp_W]
      refine ⟨by omega, ?_⟩
      rw [wp_ib, jp_Sq, hB.2.2.2.2, hB'.2.2.2.2]
      refine ⟨⟨hB.2.2.2.1, hB'.2.2.2.1, by omega, by omega⟩, ?_⟩
      have hW : Inv (iu1 (wrs (bkT (mB W b')) (iu1 W3 37 0)) 2 0) (ju1 J 11 0 0) := by
        refine Inv.st (Inv.w hI (fun k hk => ?_) fun k hk => ?_)
        · rw [wrs_1 (by omega), iu1_1, if_neg (by omega), f1, k1 k (by omega)]
        · rw [wrs_2 (by omega), iu1_2, f2 k (by omega), k2 k (by omega)]
      unfold G11_same_49
      rw [wp_ig, wp_ite, wp_ib, wp_ret c_answer, jp_ret, wp_ib, wp_ret c_answer, jp_ret]
      refine ⟨ifR, ?_⟩
      by_cases cc : bkT (mB W b) = bkT (mB W b')
      · rw [if_pos cc, if_neg (by decide)]
        exact ⟨rfl, hW⟩
      · rw [if_neg cc, if_pos rfl]
        exact ⟨rfl, hW⟩
    · refine s_m1 (by rw [if0]; omega) ?_
      rw [if_neg c']
      exact s_no hI
  · refine s_m1 (by rw [if0]; omega) ?_
    rw [if_neg c]
    exact s_no hI
end SAM
