/-! ===== rows of names: good or not, their entries ===== -/
def totL : List (Int × Option Int) → Int
  | [] => 0
  | q :: L => (itL q - q.1 + 1) + totL L
/-- the places that a row tells, one behind the other -/
def enF (F : Int → Int) (L : List (Int × Option Int)) : Prop := ∀ La q Lb, L = La ++ q :: Lb → ∀ i, 0 ≤ i → i ≤ itL q - q.1 → F (totL La + i) = q.1 + i
section RW3
variable {W W0 : IS} {J J0 : JS} {b C : Nat} {B : BK} {M : List (Int × Int)} {L L1 L2 : List (Int × Option Int)} {F F' : Int → Int}
theorem totL_app : ∀ (L1 : List (Int × Option Int)) {L2 : List (Int × Option Int)}, totL (L1 ++ L2) = totL L1 + totL L2
  | [], L2 => by
    show totL L2 = 0 + totL L2
    omega
  | q :: L1, L2 => by
    show (itL q - q.1 + 1) + totL (L1 ++ L2) = (itL q - q.1 + 1) + totL L1 + totL L2
    rw [totL_app L1]
    omega
theorem totL_c {q : Int × Option Int} : totL (q :: L) = (itL q - q.1 + 1) + totL L := rfl
theorem totL_s {q : Int × Option Int} : totL (L ++ [q]) = totL L + (itL q - q.1 + 1) := by
  rw [totL_app]
  show totL L + ((itL q - q.1 + 1) + 0) = _
  omega
theorem itG_le {q : Int × Option Int} (h : itG q) : 0 ≤ q.1 ∧ q.1 ≤ itL q := by
  obtain ⟨h1, h2, h3⟩ := h
  refine ⟨h1, ?_⟩
  by_cases e : q.2 = none
  · unfold itL
    rw [e]
    exact Int.le_refl _
  · have := h3 e
    omega
theorem okL_c {q : Int × Option Int} : okL (q :: L) ↔ itG q ∧ okL L := by
  constructor
  · intro h
    exact ⟨h q List.mem_cons_self, fun x hx => h x (List.mem_cons_of_mem _ hx)⟩
  · rintro ⟨h, h'⟩ x hx
    rcases List.mem_cons.mp hx with rfl | hx
    · exact h
    · exact h' x hx
theorem okL_a : okL (L1 ++ L2) ↔ okL L1 ∧ okL L2 := by
  constructor
  · intro h
    exact ⟨fun x hx => h x (List.mem_append.mpr (Or.inl hx)), fun x hx => h x (List.mem_append.mpr (Or.inr hx))⟩
  · rintro ⟨h, h'⟩ x hx
    rcases List.mem_append.mp hx with hx | hx
    · exact h x hx
    · exact h' x hx
theorem tot_nn : ∀ {L : List (Int × Option Int)}, okL L → 0 ≤ totL L
  | [], _ => Int.le_refl _
  | q :: L, h => by
    have h' := okL_c.mp h
    have := itG_le h'.1
    have := tot_nn h'.2
    rw [totL_c]
    omega
theorem tot_find : ∀ {L : List (Int × Option Int)} {k : Int}, okL L → 0 ≤ k → k < totL L → ∃ La q Lb i, L = La ++ q :: Lb ∧ (0 ≤ i ∧ i ≤ itL q - q.1) ∧ k = totL La + i
  | [], k, _, h0, h1 => by
    have : totL [] = 0 := rfl
    omega
  | q :: L, k, h, h0, h1 => by
    have h' := okL_c.mp h
    have hq := itG_le h'.1
    rw [totL_c] at h1
    by_cases c : k < itL q - q.1 + 1
    · exact ⟨[], q, L, k, rfl, ⟨h0, by omega⟩, by show k = 0 + k; omega⟩
    · obtain ⟨La, q', Lb, i, e, hi, hk⟩ := tot_find (L := L) (k := k - (itL q - q.1 + 1)) h'.2 (by omega) (by omega)
      exact ⟨q :: La, q', Lb, i, by rw [e]; rfl, hi, by rw [totL_c]; omega⟩
theorem enF_0 : enF F [] := fun La q Lb e => by
  have := congrArg List.length e
  simp at this
theorem enF_s (h : enF F L) (hL : okL L) {q : Int × Option Int} (h1 : ∀ i, 0 ≤ i → i ≤ itL q - q.1 → F' (totL L + i) = q.1 + i) (h2 : ∀ l, l < totL L → F' l = F l) : enF F' (L ++ [q]) := by
  intro La q' Lb e i i0 i1
  rcases sn_split e with ⟨e1, e2, -⟩ | ⟨L3, e1, -⟩
  · subst e1 e2
    exact h1 i i0 i1
  · have hq := okL_a.mp (e1 ▸ hL)
    have hn := tot_nn (okL_c.mp hq.2).2
    rw [h2, h La q' L3 e1 i i0 i1]
    rw [e1, totL_app, totL_c]
    omega
theorem enF_eq {G : Int → Int} (hL : okL L) (h : enF F L) (h' : enF G L) {k : Int} (k0 : 0 ≤ k) (k1 : k < totL L) : F k = G k ∧ ∃ q ∈ L, q.1 ≤ F k ∧ F k ≤ itL q := by
  obtain ⟨La, q, Lb, i, e, hi, hk⟩ := tot_find hL k0 k1
  have e1 := h La q Lb e i hi.1 hi.2
  have e2 := h' La q Lb e i hi.1 hi.2
  rw [← hk] at e1 e2
  exact ⟨e1.trans e2.symm, q, by rw [e]; exact List.mem_append.mpr (Or.inr List.mem_cons_self), by omega, by omega⟩
theorem nmL_app : nmL (L1 ++ L2) = nmL L1 ++ nmL L2 := by
  unfold nmL
  rw [List.flatMap_append]
theorem nmL_c {q : Int × Option Int} : nmL (q :: L) = itN q ++ nmL L := rfl
/-- the items' places are places -/
theorem NaR.bd (h : NaR J B (nmL L)) {q : Int × Option Int} (hq : q ∈ L) : (-1 ≤ q.1 ∧ q.1 < LC B) ∧ (-1 ≤ itL q ∧ itL q < LC B) := by
  obtain ⟨L1, L2, e⟩ := List.append_of_mem hq
  obtain ⟨p, o⟩ := q
  cases o with
  | none =>
    have e2 : nmL L = nmL L1 ++ (p, 0) :: nmL L2 := by rw [e, nmL_app]; rfl
    have := (h.2 _ _ _ e2).2.2.2.2.2
    exact ⟨this, this⟩
  | some z =>
    have e2 : nmL L = nmL L1 ++ (p, 0) :: ((z, 45) :: nmL L2) := by rw [e, nmL_app]; rfl
    have e3 : nmL L = (nmL L1 ++ [(p, 0)]) ++ (z, 45) :: nmL L2 := by rw [e2, List.append_assoc]; rfl
    exact ⟨(h.2 _ _ _ e2).2.2.2.2.2, (h.2 _ _ _ e3).2.2.2.2.2⟩
/-! the class's names, one by one -/
theorem c_amtM (hl : js J 1 9 = M.length) : G5_amount J = some ((M.length : Int), J) := by
  refine wp_eq ?_
  unfold G5_amount
  rw [wp_ib, jG1, kj_1, hl, jp_ret]
  exact ⟨Or.inl (by omega), rfl, rfl⟩
theorem c_gt {id : Nat} (hid : id ≤ 11) (hl : js J 1 id = M.length) (hM : M.length ≤ 121) {x : Int} (x0 : 0 ≤ x) (x1 : x < M.length) : G8_get id x J = some (ja J 1 id x, J) := by
  rw [c_get (J := J) (Or.inl (by omega)) ⟨by omega, by omega⟩ (by omega) (by rw [hl, show rl id = 121 from if_pos hid]; omega), hl, if_pos ⟨x0, x1⟩]
theorem c_pl (hJ : BoR J W b) (hI : BkI W (b : Int)) (hN : NaR J (mB W b) M) (hM : M.length ≤ 121) {M1 M2 : List (Int × Int)} {q : Int × Int} (e : M = M1 ++ q :: M2) : G0_placeOf b (M1.length : Nat) J = some (q.1, J) := by
  obtain ⟨⟨l8, l9, l10, l11⟩, h⟩ := hN
  obtain ⟨h8, hp, r1, r2, r3, r4⟩ := h M1 q M2 e
  have hlt : (M1.length : Int) < M.length := by rw [e, List.length_append, List.length_cons]; omega
  exact wp_eq (c_placeOf hJ hI (c_gt (by omega) l9 hM (by omega) hlt) (c_gt (by omega) l10 hM (by omega) hlt) (c_gt (by omega) l11 hM (by omega) hlt) r1 r2 r3 fun p' hp' => ⟨pnm_u hI.1 hp' hp, rfl⟩)
theorem c_jn (hN : NaR J (mB W b) M) (hM : M.length ≤ 121) {M1 M2 : List (Int × Int)} {q : Int × Int} (e : M = M1 ++ q :: M2) (hq : q.2 = 0 ∨ q.2 = 45) : G5_isJoined (M1.length : Nat) J = some (if q.2 = 45 then 1 else 0, J) := by
  obtain ⟨⟨l8, l9, l10, l11⟩, h⟩ := hN
  obtain ⟨h8, -⟩ := h M1 q M2 e
  have hlt : (M1.length : Int) < M.length := by rw [e, List.length_append, List.length_cons]; omega
  refine wp_eq ?_
  unfold G5_isJoined
  rw [wp_ib, wp_ret (c_gt (by omega) l8 hM (by omega) hlt), h8, wp_ig, wp_ite]
  refine ⟨by rcases hq with e | e <;> rw [e] <;> decide, ?_⟩
  by_cases k : q.2 = 45
  · rw [if_pos k, if_pos k, jp_ret]
    exact ⟨rfl, rfl⟩
  · rw [if_neg k, if_neg k, jp_ret]
    exact ⟨rfl, rfl⟩
theorem c_jn0 (hN : NaR J (mB W b) M) (hM : M.length ≤ 121) {M1 M2 : List (Int × Int)} {q : Int × Int} (e : M = M1 ++ q :: M2) (hq : q.2 = 0) : G5_isJoined (M1.length : Nat) J = some (0, J) := by
  rw [c_jn hN hM e (Or.inl hq), if_neg (by omega)]
theorem c_jn1 (hN : NaR J (mB W b) M) (hM : M.length ≤ 121) {M1 M2 : List (Int × Int)} {q : Int × Int} (e : M = M1 ++ q :: M2) (hq : q.2 = 45) : G5_isJoined (M1.length : Nat) J = some (1, J) := by
  rw [c_jn hN hM e (Or.inr hq), if_pos hq]
theorem itG_n {p : Int} : itG (p, none) ↔ 0 ≤ p := ⟨fun h => h.1, fun h => ⟨h, h, fun q => absurd rfl q⟩⟩
theorem itG_z {p z : Int} : itG (p, some z) ↔ 0 ≤ p ∧ 0 ≤ z ∧ p < z := ⟨fun h => ⟨h.1, h.2.1, h.2.2 fun q => by cases q⟩, fun h => ⟨h.1, h.2.1, fun _ => h.2.2⟩⟩
theorem c_ofRow2 (hJ : BoR J W b) (hI : BkI W (b : Int)) (hN : NaR J (mB W b) (nmL L)) (hM : (nmL L).length ≤ 121) : ∀ (L2 L1 : List (Int × Option Int)) (f : Nat), L = L1 ++ L2 → (nmL L2).length < f → ∃ v, G3_ofRow_2 f b ((nmL L1).length : Nat) J = some (v, J) ∧ ((v = 0 ∧ okL L2) ∨ (v = 7 ∧ ¬ okL L2)) := by
  have hb := hJ.2.1
  have hLC := hI.2.2.1
  intro L2
  induction L2 with
  | nil =>
    intro L1 f e hf
    cases f with
    | zero => omega
    | succ f =>
      have hx : (nmL L).length = (nmL L1).length := by rw [e, List.append_nil]
      refine ⟨0, wp_eq ?_, Or.inl ⟨rfl, fun q hq => by cases hq⟩⟩
      unfold G3_ofRow_2 G3_ofRow_2_st
      rw [wp_ib, wp_ret (c_amtM hN.1.2.1), wp_ig, wp_ig, wp_ite, if_pos (by omega), jp_ret]
      exact ⟨⟨by omega, by omega⟩, ⟨by omega, by omega⟩, rfl, rfl⟩
  | cons q L2 ih =>
    intro L1 f e hf
    obtain ⟨p, o⟩ := q
    cases f with
    | zero => omega
    | succ f =>
    cases o with
    | none =>
      have e1 : nmL L = nmL L1 ++ (p, 0) :: nmL L2 := by rw [e, nmL_app]; rfl
      have hl : (nmL L).length = (nmL L1).length + ((nmL L2).length + 1) := by rw [e1, List.length_append, List.length_cons]
      have hf' : (nmL L2).length < f := by
        have : (nmL ((p, none) :: L2)).length = (nmL L2).length + 1 := rfl
        omega
      have hpb := (hN.2 _ _ _ e1).2.2.2.2.2
      have ePl := c_pl hJ hI hN hM e1
      have eJn := c_jn0 hN hM e1 rfl
      obtain ⟨v, ev, hv⟩ := ih (L1 ++ [(p, none)]) f (by rw [e, List.append_assoc]; rfl) hf'
      have en : (((nmL (L1 ++ [(p, none)])).length : Nat) : Int) = (nmL L1).length + 1 := by rw [nmL_s, List.length_append]; rfl
      rw [en] at ev
      by_cases k : p = -1
      · refine ⟨7, wp_eq ?_, Or.inr ⟨rfl, fun g => by have := itG_n.mp (okL_c.mp g).1; omega⟩⟩
        unfold G3_ofRow_2 G3_ofRow_2_st
        rw [wp_ib, wp_ret (c_amtM hN.1.2.1), wp_ig, wp_ig, wp_ite, if_neg (by omega), wp_ib, jp_E, kj_3, wp_ib, wp_ret ePl, wp_ig, wp_ite]
        rw [if_pos k, jp_ret]
        exact ⟨⟨by omega, by omega⟩, ⟨by omega, by omega⟩, hb, ⟨by show -2147483648 ≤ p; omega, by show p < 2147483648; omega⟩, rfl, rfl⟩
      · refine ⟨v, wp_eq ?_, ?_⟩
        · unfold G3_ofRow_2 G3_ofRow_2_st G3_ofRow_45
          rw [wp_ib, wp_ret (c_amtM hN.1.2.1), wp_ig, wp_ig, wp_ite, if_neg (by omega), wp_ib, jp_E, kj_3, wp_ib, wp_ret ePl, wp_ig, wp_ite]
          rw [if_neg k, wp_ib, wp_ret eJn, wp_ig, wp_ite, if_pos (by decide), wp_ret ev]
          exact ⟨⟨by omega, by omega⟩, ⟨by omega, by omega⟩, hb, ⟨by show -2147483648 ≤ p; omega, by show p < 2147483648; omega⟩, by decide, rfl, rfl⟩
        · rcases hv with ⟨rfl, h⟩ | ⟨rfl, h⟩
          · exact Or.inl ⟨rfl, okL_c.mpr ⟨itG_n.mpr (by have := hpb.1; simp only at this; omega), h⟩⟩
          · exact Or.inr ⟨rfl, fun g => h (okL_c.mp g).2⟩
    | some z =>
      have e1 : nmL L = nmL L1 ++ (p, 0) :: ((z, 45) :: nmL L2) := by rw [e, nmL_app]; rfl
      have e2 : nmL L = (nmL L1 ++ [(p, 0)]) ++ (z, 45) :: nmL L2 := by rw [e1, List.append_assoc]; rfl
      have hl : (nmL L).length = (nmL L1).length + ((nmL L2).length + 1 + 1) := by rw [e1, List.length_append, List.length_cons, List.length_cons]
      have h2l : (nmL ((p, some z) :: L2)).length = (nmL L2).length + 1 + 1 := rfl
      have hpb := (hN.2 _ _ _ e1).2.2.2.2.2
      have hzb := (hN.2 _ _ _ e2).2.2.2.2.2
      have ePl := c_pl hJ hI hN hM e1
      have eJn := c_jn0 hN hM e1 rfl
      have ePz := c_pl hJ hI hN hM e2
      have eJz := c_jn1 hN hM e2 rfl
      have e11 : (((nmL L1 ++ [(p, 0)]).length : Nat) : Int) = (nmL L1).length + 1 := by rw [List.length_append]; rfl
      rw [e11] at ePz eJz
      cases f with
      | zero => omega
      | succ f =>
      obtain ⟨v, ev, hv⟩ := ih (L1 ++ [(p, some z)]) f (by rw [e, List.append_assoc]; rfl) (by omega)
      have en : (((nmL (L1 ++ [(p, some z)])).length : Nat) : Int) = (nmL L1).length + 1 + 1 := by rw [nmL_s, List.length_append]; rfl
      rw [en] at ev
      simp only at hpb hzb
      by_cases k : p = -1
      · refine ⟨7, wp_eq ?_, Or.inr ⟨rfl, fun g => by have := (itG_z.mp (okL_c.mp g).1).1; omega⟩⟩
        unfold G3_ofRow_2 G3_ofRow_2_st
        rw [wp_ib, wp_ret (c_amtM hN.1.2.1), wp_ig, wp_ig, wp_ite, if_neg (by omega), wp_ib, jp_E, kj_3, wp_ib, wp_ret ePl, wp_ig, wp_ite]
        rw [if_pos k, jp_ret]
        exact ⟨⟨by omega, by omega⟩, ⟨by omega, by omega⟩, hb, ⟨by show -2147483648 ≤ p; omega, by show p < 2147483648; omega⟩, rfl, rfl⟩
      · -- the first of the two is taken
        have step : ∀ (w : Int), G3_ofRow_2 (f + 1) b ((nmL L1).length + 1 : Int) J = some (w, J) → G3_ofRow_2 (f + 1 + 1) b ((nmL L1).length : Nat) J = some (w, J) := fun w hw => by
          refine wp_eq ?_
          rw [show G3_ofRow_2 (f + 1 + 1) b ((nmL L1).length : Nat) = G3_ofRow_2_st (G3_ofRow_2 (f + 1)) b ((nmL L1).length : Nat) from rfl]
          unfold G3_ofRow_2_st G3_ofRow_45
          rw [wp_ib, wp_ret (c_amtM hN.1.2.1), wp_ig, wp_ig, wp_ite, if_neg (by omega), wp_ib, jp_E, kj_3, wp_ib, wp_ret ePl, wp_ig, wp_ite]
          rw [if_neg k, wp_ib, wp_ret eJn, wp_ig, wp_ite, if_pos (by decide), wp_ret hw]
          exact ⟨⟨by omega, by omega⟩, ⟨by omega, by omega⟩, hb, ⟨by show -2147483648 ≤ p; omega, by show p < 2147483648; omega⟩, by decide, rfl, rfl⟩
        by_cases k2 : z = -1
        · refine ⟨7, step 7 (wp_eq ?_), Or.inr ⟨rfl, fun g => by have := (itG_z.mp (okL_c.mp g).1).2.1; omega⟩⟩
          unfold G3_ofRow_2 G3_ofRow_2_st
          rw [wp_ib, wp_ret (c_amtM hN.1.2.1), wp_ig, wp_ig, wp_ite, if_neg (by omega), wp_ib, jp_E, kj_3, wp_ib, wp_ret ePz, wp_ig, wp_ite]
          rw [if_pos k2, jp_ret]
          exact ⟨⟨by omega, by omega⟩, ⟨by omega, by omega⟩, hb, ⟨by show -2147483648 ≤ z; omega, by show z < 2147483648; omega⟩, rfl, rfl⟩
        · by_cases k3 : p < z
          · refine ⟨v, step v (wp_eq ?_), ?_⟩
            · unfold G3_ofRow_2 G3_ofRow_2_st G3_ofRow_45
              rw [wp_ib, wp_ret (c_amtM hN.1.2.1), wp_ig, wp_ig, wp_ite, if_neg (by omega), wp_ib, jp_E, kj_3, wp_ib, wp_ret ePz, wp_ig, wp_ite]
              rw [if_neg k2, wp_ib, wp_ret eJz, wp_ig, wp_ite, if_neg (by decide), wp_ib, jp_E, kj_3, wp_ib, show ((nmL L1).length + 1 - 1 : Int) = ((nmL L1).length : Nat) by omega, wp_ret ePl, wp_ig, wp_ite]
              rw [if_pos k3, wp_ret ev]
              exact ⟨⟨by omega, by omega⟩, ⟨by omega, by omega⟩, hb, ⟨by show -2147483648 ≤ z; omega, by show z < 2147483648; omega⟩, by decide, hb, ⟨by show -2147483648 ≤ p; omega, by show p < 2147483648; omega⟩, rfl, rfl⟩
            · rcases hv with ⟨rfl, h⟩ | ⟨rfl, h⟩
              · exact Or.inl ⟨rfl, okL_c.mpr ⟨itG_z.mpr ⟨by omega, by omega, k3⟩, h⟩⟩
              · exact Or.inr ⟨rfl, fun g => h (okL_c.mp g).2⟩
          · refine ⟨7, step 7 (wp_eq ?_), Or.inr ⟨rfl, fun g => k3 (itG_z.mp (okL_c.mp g).1).2.2⟩⟩
            unfold G3_ofRow_2 G3_ofRow_2_st
            rw [wp_ib, wp_ret (c_amtM hN.1.2.1), wp_ig, wp_ig, wp_ite, if_neg (by omega), wp_ib, jp_E, kj_3, wp_ib, wp_ret ePz, wp_ig, wp_ite]
            rw [if_neg k2, wp_ib, wp_ret eJz, wp_ig, wp_ite, if_neg (by decide), wp_ib, jp_E, kj_3, wp_ib, show ((nmL L1).length + 1 - 1 : Int) = ((nmL L1).length : Nat) by omega, wp_ret ePl, wp_ig, wp_ite]
            rw [if_neg k3, jp_ret]
            exact ⟨⟨by omega, by omega⟩, ⟨by omega, by omega⟩, hb, ⟨by show -2147483648 ≤ z; omega, by show z < 2147483648; omega⟩, by decide, hb, ⟨by show -2147483648 ≤ p; omega, by show p < 2147483648; omega⟩, rfl, rfl⟩
end RW3
