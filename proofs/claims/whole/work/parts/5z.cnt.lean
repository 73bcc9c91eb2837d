/-! ===== the class collates a copy: rows, marks ===== -/
/-- only this Row may be written; only the marks may be -/
def FrI (id : Nat) (J J' : JS) : Prop := (∀ t i, ¬ (t = 1 ∧ i = id) → js J' t i = js J t i) ∧ (∀ t i, ¬ (t = 1 ∧ i = id) → ja J' t i = ja J t i) ∧ J'.2.2 = J.2.2
def FrMk (J J' : JS) : Prop := js J' = js J ∧ (∀ t i, ¬ (t = 8 ∧ i = 0) → ja J' t i = ja J t i) ∧ J'.2.2 = J.2.2
/-- what a Row holds -/
def RoR (J : JS) (id : Nat) (E : Int → Int) (m : Int) : Prop := js J 1 id = m ∧ ∀ i, 0 ≤ i → i < m → ja J 1 id i = E i
section CNT
variable {J : JS} {E : Int → Int} {m : Int} {id : Nat}
theorem FrI.refl : FrI id J J := ⟨fun _ _ _ => rfl, fun _ _ _ => rfl, rfl⟩
theorem FrI.trans {J1 J2 J3 : JS} (h : FrI id J1 J2) (h' : FrI id J2 J3) : FrI id J1 J3 := ⟨fun t i q => (h'.1 t i q).trans (h.1 t i q), fun t i q => (h'.2.1 t i q).trans (h.2.1 t i q), h'.2.2.trans h.2.2⟩
theorem FrA.i {J' : JS} {n v : Int} (h : FrA J J' id n v) : FrI id J J' := ⟨h.2.1, h.2.2.2.1, h.2.2.2.2⟩
theorem FrMk.refl : FrMk J J := ⟨rfl, fun _ _ _ => rfl, rfl⟩
theorem FrMk.trans {J1 J2 J3 : JS} (h : FrMk J1 J2) (h' : FrMk J2 J3) : FrMk J1 J3 := ⟨h'.1.trans h.1, fun t i q => (h'.2.1 t i q).trans (h.2.1 t i q), h'.2.2.trans h.2.2⟩
theorem rxk_r {J' : JS} (h : J'.2.2 = J.2.2) (hx : rxk J id) : rxk J' id := by
  unfold rxk at hx ⊢
  rw [jB_r h, jC_r h]
  exact hx
theorem RoR.add {J' : JS} (h : RoR J id E m) (h0 : 0 ≤ m) (hA : FrA J J' id m (E m)) : RoR J' id E (m + 1) := by
  refine ⟨hA.1, fun i i0 i1 => ?_⟩
  rw [hA.2.2.1]
  by_cases c : i = m
  · rw [if_pos c, c]
  · rw [if_neg c]
    exact h.2 i i0 (by omega)
theorem RoR.g (h : RoR J id E m) (hx : rxk J id) (hm : 0 ≤ m ∧ m ≤ rl id) {i : Int} (i0 : 0 ≤ i) (i1 : i < m) (hm4 : m ≤ 400) : G8_get id i J = some (E i, J) := by
  rw [c_get hx ⟨by omega, by omega⟩ (by rw [h.1]; exact hm.1) (by rw [h.1]; exact hm.2), h.1, if_pos ⟨i0, i1⟩, h.2 i i0 i1]
theorem RoR.fi {J' : JS} {id' : Nat} (h : RoR J id E m) (hF : FrI id' J J') (hne : id ≠ id') : RoR J' id E m := by
  unfold RoR
  rw [hF.1 1 id (by omega), hF.2.1 1 id (by omega)]
  exact h
theorem c_copyRow6 {src : Nat} {J0 : JS} (hne : src ≠ id) (hx : rxk J0 id) (hs : rxk J0 src) (hm : 0 ≤ m ∧ m ≤ 400) (hr : m ≤ rl src ∧ m ≤ rl id) (hS : RoR J0 src E m) {Q : Unit → JS → Prop} (hq : ∀ J', FrI id J0 J' → RoR J' id E m → Q () J') : ∀ (d k : Nat) (i : Int) (J : JS), d < k → 0 ≤ i → i + d = m → FrI id J0 J → RoR J id E i → wp (G8_copyFrom_6 k id src i) Q J := by
  intro d
  induction d with
  | zero =>
    intro k i J hk i0 i1 hF hR
    cases k with
    | zero => omega
    | succ k =>
      have hS' := hS.fi hF hne
      unfold G8_copyFrom_6 G8_copyFrom_6_st
      rw [wp_ib, jG1, kj_1, hS'.1, wp_ig, wp_ig, wp_ite, if_pos (show m ≤ i by omega), jp_ret]
      have ei : i = m := by omega
      rw [ei] at hR
      exact ⟨rxk_r hF.2.2 hs, ⟨by omega, by omega⟩, ⟨by omega, by omega⟩, hq J hF hR⟩
  | succ d ih =>
    intro k i J hk i0 i1 hF hR
    cases k with
    | zero => omega
    | succ k =>
      have hS' := hS.fi hF hne
      have xs := rxk_r hF.2.2 hs
      have xi := rxk_r hF.2.2 hx
      unfold G8_copyFrom_6 G8_copyFrom_6_st
      rw [wp_ib, jG1, kj_1, hS'.1, wp_ig, wp_ig, wp_ite, if_neg (show ¬ m ≤ i by omega), wp_ib, jp_E, kj_1, wp_ib, wp_ret (hS'.g xs ⟨hm.1, hr.1⟩ i0 (by omega) hm.2), wp_ib, jp_E, kj_1, wp_ib]
      refine ⟨xs, ⟨by omega, by omega⟩, ⟨by omega, by omega⟩, xs, xi, w_addA xi hR.1 ⟨i0, by omega⟩ fun J' hA => ?_⟩
      exact ih k (i + 1) J' (by omega) (by omega) (by omega) (hF.trans hA.i) (hR.add i0 hA)
theorem c_copyRow {src : Nat} (hne : src ≠ id) (hx : rxk J id) (hs : rxk J src) (hm : 0 ≤ m ∧ m ≤ 400) (hr : m ≤ rl src ∧ m ≤ rl id) (hS : RoR J src E m) {Q : Unit → JS → Prop} (hq : ∀ J', FrI id J J' → RoR J' id E m → Q () J') : wp (G8_copyFrom id src) Q J := by
  unfold G8_copyFrom
  rw [wp_ib, jp_E, kj_1, wp_ib, wp_ret (c_clear hx)]
  have hF : FrI id J (ju1 J 1 id 0) := ⟨fun t i c => by rw [ju1_s, if_neg c], fun _ _ _ => rfl, rfl⟩
  refine ⟨hx, c_copyRow6 (J0 := J) hne hx hs hm hr hS hq m.toNat LFU 0 _ (Nat.lt_of_le_of_lt (show m.toNat ≤ 400 by omega) (by decide)) (Int.le_refl _) (by omega) hF ⟨by rw [ju1_s, if_pos ⟨rfl, rfl⟩], fun i i0 i1 => by omega⟩⟩
/-! marks -/
theorem c_markAt {p : Int} (hp : R32 p) : G1_markAt p J = some (if 0 ≤ p ∧ p < 400 then ja J 8 0 p else 0, J) := by
  refine wp_eq ?_
  unfold G1_markAt
  rw [wp_ig, wp_ite]
  refine ⟨hp, ?_⟩
  by_cases c : p < 0
  · rw [if_pos c, jp_ret, if_neg (by omega)]
    exact ⟨rfl, rfl⟩
  · rw [if_neg c, wp_ib, wn8, wp_ig, wp_ite]
    refine ⟨by decide, ?_⟩
    by_cases c2 : p < 400
    · rw [if_pos c2, wp_ib, wj8, jp_ret, if_pos ⟨by omega, c2⟩]
      exact ⟨⟨by omega, c2⟩, rfl, rfl⟩
    · rw [if_neg c2, jp_ret, if_neg (by omega)]
      exact ⟨rfl, rfl⟩
theorem c_setMark {p v : Int} (h0 : 0 ≤ p) (h1 : p < 400) : G1_setMark p v J = some ((), ju2 J 8 0 p v) := by
  refine wp_eq ?_
  unfold G1_setMark
  rw [wp_ig, wp_ite, if_neg (show ¬ p < 0 by omega), wp_ib, wn8, wp_ig, wp_ite, if_neg (show ¬ 400 ≤ p by omega), wp_ib, wk8, jp_ret]
  exact ⟨⟨by omega, by omega⟩, by decide, ⟨h0, h1⟩, rfl, rfl⟩
theorem FrMk.s {p v : Int} : FrMk J (ju2 J 8 0 p v) := ⟨rfl, fun t i c => by funext l; rw [ju2_a, if_neg (fun q => c ⟨q.1, q.2.1⟩)], rfl⟩
theorem FrMk.clr {F : Int → Int} : FrMk J (juA J 8 0 F) := ⟨rfl, fun t i c => by funext l; rw [juA_a, if_neg c], rfl⟩
theorem RoR.mk {J' : JS} (h : RoR J id E m) (hF : FrMk J J') : RoR J' id E m := by
  unfold RoR
  rw [hF.1, hF.2.1 1 id (by omega)]
  exact h
theorem tmE_bd (hm : 0 ≤ m ∧ m ≤ 400) (p : Int) : 0 ≤ tmE E m p ∧ tmE E m p ≤ 400 := by
  have := smz_bd (f := fun i => if E i = p then 1 else 0) (K := 1) m.toNat 0 fun i _ _ => by
    show 0 ≤ (if E i = p then (1 : Int) else 0) ∧ (if E i = p then (1 : Int) else 0) ≤ 1
    split <;> omega
  unfold tmE
  omega
theorem tmE_s {k : Int} (h : 0 ≤ k) (p : Int) : tmE E (k + 1) p = tmE E k p + if E k = p then 1 else 0 := by
  unfold tmE
  rw [show (k + 1).toNat = k.toNat + 1 by omega, smz_sn, show (0 : Int) + (k.toNat : Int) = k by omega]
theorem c_cnt10 {J0 : JS} (hx : rxk J0 id) (hm : 0 ≤ m ∧ m ≤ 400) (hr : m ≤ rl id) (hR : RoR J0 id E m) (hE : ∀ i, 0 ≤ i → i < m → 0 ≤ E i ∧ E i < 400) {Q : Unit → JS → Prop} (hq : ∀ J', FrMk J0 J' → (∀ p, 0 ≤ p → p < 400 → ja J' 8 0 p = tmE E m p) → Q () J') : ∀ (d k : Nat) (i : Int) (J : JS), d < k → 0 ≤ i → i + d = m → FrMk J0 J → (∀ p, 0 ≤ p → p < 400 → ja J 8 0 p = tmE E i p) → wp (G1_countEntries_10 k id i) Q J := by
  intro d
  induction d with
  | zero =>
    intro k i J hk i0 i1 hF hM
    cases k with
    | zero => omega
    | succ k =>
      have hR' := hR.mk hF
      unfold G1_countEntries_10 G1_countEntries_10_st
      rw [wp_ib, jG1, kj_1, hR'.1, wp_ig, wp_ig, wp_ite, if_pos (show m ≤ i by omega), jp_ret]
      have ei : i = m := by omega
      rw [ei] at hM
      exact ⟨rxk_r hF.2.2 hx, ⟨by omega, by omega⟩, ⟨by omega, by omega⟩, hq J hF hM⟩
  | succ d ih =>
    intro k i J hk i0 i1 hF hM
    cases k with
    | zero => omega
    | succ k =>
      have hR' := hR.mk hF
      have xi := rxk_r hF.2.2 hx
      have he := hE i i0 (by omega)
      unfold G1_countEntries_10 G1_countEntries_10_st
      rw [wp_ib, jG1, kj_1, hR'.1, wp_ig, wp_ig, wp_ite, if_neg (show ¬ m ≤ i by omega), wp_ib, jp_E, kj_1, wp_ib, wp_ret (hR'.g xi ⟨hm.1, hr⟩ i0 (by omega) hm.2), wp_ib, wp_ret (c_markAt ⟨by omega, by omega⟩), if_pos he, wp_ib, wp_ret (c_setMark he.1 he.2)]
      refine ⟨xi, ⟨by omega, by omega⟩, ⟨by omega, by omega⟩, xi, ih k (i + 1) _ (by omega) (by omega) (by omega) (hF.trans FrMk.s) fun p p0 p1 => ?_⟩
      rw [tmE_s i0, ju2_a]
      by_cases c : p = E i
      · rw [if_pos ⟨rfl, rfl, c⟩, if_pos c.symm, hM (E i) he.1 he.2, c]
      · rw [if_neg (fun q => c q.2.2), if_neg (fun q => c q.symm), hM p p0 p1, Int.add_zero]
theorem c_countEntries (hx : rxk J id) (hm : 0 ≤ m ∧ m ≤ 400) (hr : m ≤ rl id) (hR : RoR J id E m) (hE : ∀ i, 0 ≤ i → i < m → 0 ≤ E i ∧ E i < 400) {Q : Unit → JS → Prop} (hq : ∀ J', FrMk J J' → (∀ p, 0 ≤ p → p < 400 → ja J' 8 0 p = tmE E m p) → Q () J') : wp (G1_countEntries id) Q J := by
  unfold G1_countEntries
  rw [wp_ib, jpFi]
  refine ⟨⟨rfl, rfl⟩, c_cnt10 (J0 := J) hx hm hr hR hE hq m.toNat LFU 0 _ (Nat.lt_of_le_of_lt (show m.toNat ≤ 400 by omega) (by decide)) (Int.le_refl _) (by omega) FrMk.clr fun p p0 p1 => ?_⟩
  rw [juA_a, if_pos ⟨rfl, rfl⟩]
  exact if_pos p1
end CNT
