/-! ===== rows of names: what is read ===== -/
theorem sn_split {α : Type} {y q : α} : ∀ {L L1 L2 : List α}, L ++ [y] = L1 ++ q :: L2 → (L1 = L ∧ q = y ∧ L2 = []) ∨ ∃ L3, L = L1 ++ q :: L3 ∧ L2 = L3 ++ [y]
  | [], [], _, h => by
    cases h
    exact Or.inl ⟨rfl, rfl, rfl⟩
  | a :: L, [], L2, h => by
    cases h
    exact Or.inr ⟨L, rfl, rfl⟩
  | [], a :: L1, L2, h => by
    exfalso
    have := congrArg List.length h
    simp at this
  | a :: L, b :: L1, L2, h => by
    injection h with h1 h2
    rcases sn_split h2 with ⟨p1, p2, p3⟩ | ⟨L3, p1, p2⟩
    · exact Or.inl ⟨by rw [← h1, p1], p2, p3⟩
    · exact Or.inr ⟨L3, by rw [← h1, p1]; rfl, p2⟩
/-- one item of a row: a leaf's place, perhaps a second one; its last; how many; good or not -/
def itL (q : Int × Option Int) : Int := match q.2 with
  | none => q.1
  | some z => z
def itN (q : Int × Option Int) : List (Int × Int) := match q.2 with
  | none => [(q.1, 0)]
  | some z => [(q.1, 0), (z, 45)]
def itG (q : Int × Option Int) : Prop := 0 ≤ q.1 ∧ 0 ≤ itL q ∧ (q.2 ≠ none → q.1 < itL q)
def okL (L : List (Int × Option Int)) : Prop := ∀ q ∈ L, itG q
def nmL (L : List (Int × Option Int)) : List (Int × Int) := L.flatMap itN
/-- the class's names: their marks and places -/
def NaR (J : JS) (B : BK) (M : List (Int × Int)) : Prop := (js J 1 8 = M.length ∧ js J 1 9 = M.length ∧ js J 1 10 = M.length ∧ js J 1 11 = M.length) ∧ ∀ M1 q M2, M = M1 ++ q :: M2 → ja J 1 8 M1.length = q.2 ∧ pnm B (ja J 1 9 M1.length) (ja J 1 10 M1.length) (ja J 1 11 M1.length) q.1 ∧ (0 ≤ ja J 1 9 M1.length ∧ ja J 1 9 M1.length ≤ 70) ∧ (0 ≤ ja J 1 10 M1.length ∧ ja J 1 10 M1.length ≤ 999) ∧ (-1 ≤ ja J 1 11 M1.length ∧ ja J 1 11 M1.length ≤ 999) ∧ (-1 ≤ q.1 ∧ q.1 < LC B)
/-- the model's items -/
def MoR (W : IS) (L : List (Int × Option Int)) : Prop := ∀ L1 q L2, L = L1 ++ q :: L2 → W.2 45 L1.length = q.1 ∧ W.2 46 L1.length = itL q
def FrRw (W W' : IS) : Prop := (∀ k, k ≠ 45 → k ≠ 46 → W'.2 k = W.2 k) ∧ ∀ k, k < 19 ∨ (23 < k ∧ k < 42) ∨ 44 < k → W'.1 k = W.1 k
section ROW
variable {T : Int → Int} {n : Int} {W : IS} {J : JS} {j : Nat} {B : BK} {M : List (Int × Int)} {L : List (Int × Option Int)}
theorem nmL_s {q : Int × Option Int} : nmL (L ++ [q]) = nmL L ++ itN q := by
  unfold nmL
  rw [List.flatMap_append, List.flatMap_cons, List.flatMap_nil, List.append_nil]
theorem nmL_le : ∀ (L : List (Int × Option Int)), L.length ≤ (nmL L).length
  | [] => Nat.le_refl _
  | q :: L => by
    have := nmL_le L
    have e : nmL (q :: L) = itN q ++ nmL L := rfl
    rw [e, List.length_append, List.length_cons]
    have h1 : 1 ≤ (itN q).length := by
      unfold itN
      split <;> simp
    omega
theorem okL_s {q : Int × Option Int} : okL (L ++ [q]) ↔ okL L ∧ itG q := by
  constructor
  · intro h
    exact ⟨fun x hx => h x (List.mem_append.mpr (Or.inl hx)), h q (List.mem_append.mpr (Or.inr (List.mem_cons_self)))⟩
  · rintro ⟨h, h'⟩ x hx
    rcases List.mem_append.mp hx with hx | hx
    · exact h x hx
    · rw [List.mem_singleton.mp hx]
      exact h'
theorem FrRw.refl : FrRw W W := ⟨fun _ _ _ => rfl, fun _ _ => rfl⟩
theorem FrRw.trans {W1 W2 : IS} (h : FrRw W W1) (h' : FrRw W1 W2) : FrRw W W2 := ⟨fun k a b => (h'.1 k a b).trans (h.1 k a b), fun k a => (h'.2 k a).trans (h.2 k a)⟩
theorem FrN.rw' {W' : IS} (h : FrN W W') : FrRw W W' := ⟨fun k _ _ => by rw [h.1], h.2⟩
theorem FrY.rw' {W' : IS} (h : FrY W W') : FrRw W W' := ⟨fun k _ _ => by rw [h.1], fun k q => h.2 k (by omega)⟩
theorem FrRw.u {k : Nat} {i x : Int} (h : k = 45 ∨ k = 46) : FrRw W (iu2 W k i x) := ⟨fun k' a b => by funext l; rw [iu2_2, if_neg (by omega)], fun _ _ => rfl⟩
theorem FrRw.b {W' : IS} (h : FrRw W W') {b : Int} : mB W' b = mB W b := by
  unfold mB
  rw [h.1 6 (by omega) (by omega), h.1 7 (by omega) (by omega), h.1 8 (by omega) (by omega), h.1 9 (by omega) (by omega), h.1 10 (by omega) (by omega)]
theorem FrRw.I {W' : IS} (h : FrRw W W') {b : Int} (hI : BkI W b) : BkI W' b := by
  have e := h.b (b := b)
  unfold BkI mL at hI ⊢
  rw [e, h.1 11 (by omega) (by omega), h.1 12 (by omega) (by omega), h.1 13 (by omega) (by omega), h.1 14 (by omega) (by omega)]
  exact hI
/-- a name more -/
theorem NaR.add {J' : JS} (h : NaR J B M) {s i b p mk : Int} (hl : js J' 1 8 = M.length + 1 ∧ js J' 1 9 = M.length + 1 ∧ js J' 1 10 = M.length + 1 ∧ js J' 1 11 = M.length + 1) (h8 : ∀ l, ja J' 1 8 l = if l = M.length then mk else ja J 1 8 l) (h9 : ∀ l, ja J' 1 9 l = if l = M.length then s else ja J 1 9 l) (h10 : ∀ l, ja J' 1 10 l = if l = M.length then i else ja J 1 10 l) (h11 : ∀ l, ja J' 1 11 l = if l = M.length then b else ja J 1 11 l) (hp : pnm B s i b p) (r1 : 0 ≤ s ∧ s ≤ 70) (r2 : 0 ≤ i ∧ i ≤ 999) (r3 : -1 ≤ b ∧ b ≤ 999) (r4 : -1 ≤ p ∧ p < LC B) : NaR J' B (M ++ [(p, mk)]) := by
  refine ⟨?_, fun M1 q M2 e => ?_⟩
  · rw [List.length_append]
    exact ⟨hl.1, hl.2.1, hl.2.2.1, hl.2.2.2⟩
  · rcases sn_split e with ⟨e1, e2, -⟩ | ⟨M3, e1, -⟩
    · subst e1 e2
      rw [h8, h9, h10, h11, if_pos rfl, if_pos rfl, if_pos rfl, if_pos rfl]
      exact ⟨rfl, hp, r1, r2, r3, r4⟩
    · have hlt : (M1.length : Int) ≠ M.length := by
        have := congrArg List.length e1
        rw [List.length_append, List.length_cons] at this
        omega
      rw [h8, h9, h10, h11, if_neg hlt, if_neg hlt, if_neg hlt, if_neg hlt]
      exact h.2 M1 q M3 e1
theorem NaR.fr {J' : JS} (h : NaR J B M) (hs : ∀ i, 8 ≤ i → i ≤ 11 → js J' 1 i = js J 1 i ∧ ja J' 1 i = ja J 1 i) : NaR J' B M := by
  unfold NaR
  rw [(hs 8 (by omega) (by omega)).1, (hs 9 (by omega) (by omega)).1, (hs 10 (by omega) (by omega)).1, (hs 11 (by omega) (by omega)).1, (hs 8 (by omega) (by omega)).2, (hs 9 (by omega) (by omega)).2, (hs 10 (by omega) (by omega)).2, (hs 11 (by omega) (by omega)).2]
  exact h
/-- an item more -/
theorem MoR.add {W' : IS} (h : MoR W L) {q : Int × Option Int} (h45 : ∀ l, W'.2 45 l = if l = L.length then q.1 else W.2 45 l) (h46 : ∀ l, W'.2 46 l = if l = L.length then itL q else W.2 46 l) : MoR W' (L ++ [q]) := by
  intro L1 q' L2 e
  rcases sn_split e with ⟨e1, e2, -⟩ | ⟨L3, e1, -⟩
  · subst e1 e2
    rw [h45, h46, if_pos rfl, if_pos rfl]
    exact ⟨rfl, rfl⟩
  · have hlt : (L1.length : Int) ≠ L.length := by
      have := congrArg List.length e1
      rw [List.length_append, List.length_cons] at this
      omega
    rw [h45, h46, if_neg hlt, if_neg hlt]
    exact h L1 q' L3 e1
/-- is the row still good -/
theorem m_cp82 {k27 : Int → Int → Int → IM Int} {a r x3 x4 p z : Int} {q : Int × Option Int} (hr : 0 ≤ r ∧ r < 120) (h45 : W.2 45 r = p) (h46 : W.2 46 r = z) (hq1 : q.1 = p) (hq2 : itL q = z) (hx4 : (x4 = 0 ∧ q.2 = none) ∨ (x4 = 1 ∧ q.2 ≠ none)) (hb : (-1 ≤ p ∧ p < 400) ∧ (-1 ≤ z ∧ z < 400)) (hx3 : (x3 = 0 ∧ okL L) ∨ (x3 = 1 ∧ ¬ okL L)) {Q : Int → IS → Prop} (h : ∀ x, ((x = 0 ∧ okL (L ++ [q])) ∨ (x = 1 ∧ ¬ okL (L ++ [q]))) → wp (I12_copy_129 k27 a r x) Q W) : wp (I12_copy_82 k27 a r x3 x4) Q W := by
  have bad : ¬ (okL L ∧ itG q) → wp (I12_copy_124 k27 a r) Q W := fun g => by
    unfold I12_copy_124
    exact h 1 (Or.inr ⟨rfl, fun g' => g (okL_s.mp g')⟩)
  have good : okL L ∧ itG q → wp (I12_copy_128 k27 a r) Q W := fun g => by
    unfold I12_copy_128
    exact h 0 (Or.inl ⟨rfl, okL_s.mpr g⟩)
  have hG : itG q ↔ (0 ≤ p ∧ 0 ≤ z ∧ (q.2 ≠ none → p < z)) := by
    unfold itG
    rw [hq1, hq2]
  unfold I12_copy_82
  rw [wp_ig, wp_ite]
  refine ⟨⟨by omega, by omega⟩, ?_⟩
  rcases hx3 with ⟨rfl, hL⟩ | ⟨rfl, hL⟩
  · rw [if_pos rfl, wp_ib, wA45, h45, wp_ig, wp_ite]
    refine ⟨hr, ⟨by omega, by omega⟩, ?_⟩
    by_cases k1 : p < 0
    · rw [if_pos k1]
      exact bad fun g => by have := (hG.mp g.2).1; omega
    · rw [if_neg k1, wp_ib, wA46, h46, wp_ig, wp_ite]
      refine ⟨hr, ⟨by omega, by omega⟩, ?_⟩
      by_cases k2 : z < 0
      · rw [if_pos k2]
        exact bad fun g => by have := (hG.mp g.2).2.1; omega
      · rw [if_neg k2, wp_ig, wp_ite]
        refine ⟨by rcases hx4 with ⟨e, -⟩ | ⟨e, -⟩ <;> rw [e] <;> decide, ?_⟩
        rcases hx4 with ⟨rfl, hn⟩ | ⟨rfl, hn⟩
        · rw [if_pos rfl]
          exact good ⟨hL, hG.mpr ⟨by omega, by omega, fun g => absurd hn g⟩⟩
        · rw [if_neg (by decide), wp_ib, wA46, h46, wp_ib, wA45, h45, wp_ig, wp_ig, wp_ite]
          refine ⟨hr, hr, ⟨by omega, by omega⟩, ⟨by omega, by omega⟩, ?_⟩
          by_cases k3 : p < z
          · rw [if_pos k3]
            exact good ⟨hL, hG.mpr ⟨by omega, by omega, fun _ => k3⟩⟩
          · rw [if_neg k3]
            exact bad fun g => k3 ((hG.mp g.2).2.2 hn)
  · rw [if_neg (by decide)]
    exact bad fun g => hL g.1
end ROW
