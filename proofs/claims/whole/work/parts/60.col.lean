/-! ===== the class collates a copy ===== -/
/-- only the copy's rows but its entries, and what all share, may be written -/
def FrCo (c : Nat) (J J' : JS) : Prop := (∀ t i, ¬ (t = 1 ∧ 201 + 5 * c ≤ i ∧ i < 205 + 5 * c) → js J' t i = js J t i) ∧ (∀ t i, ¬ ((t = 1 ∧ 201 + 5 * c ≤ i ∧ i < 205 + 5 * c) ∨ t = 8 ∨ t = 9 ∨ t = 10) → ja J' t i = ja J t i) ∧ J'.2.2 = J.2.2
section COL
variable {W : IS} {J J' : JS} {E : Int → Int} {m n : Int} {id b c : Nat} {t : Int → Int}
theorem FrCo.refl : FrCo c J J := ⟨fun _ _ _ => rfl, fun _ _ _ => rfl, rfl⟩
theorem FrCo.trans {J1 J2 J3 : JS} (h : FrCo c J1 J2) (h' : FrCo c J2 J3) : FrCo c J1 J3 := ⟨fun t i q => (h'.1 t i q).trans (h.1 t i q), fun t i q => (h'.2.1 t i q).trans (h.2.1 t i q), h'.2.2.trans h.2.2⟩
theorem FrA.co {n v : Int} (h : FrA J J' id n v) (hi : 201 + 5 * c ≤ id ∧ id < 205 + 5 * c) : FrCo c J J' := ⟨fun t i q => h.2.1 t i (by omega), fun t i q => h.2.2.2.1 t i (by omega), h.2.2.2.2⟩
theorem FrMk.co (h : FrMk J J') : FrCo c J J' := ⟨fun t i _ => by rw [h.1], fun t i q => h.2.1 t i (by omega), h.2.2⟩
theorem FrU.co (h : FrU J J') : FrCo c J J' := ⟨fun t i _ => by rw [h.1], fun t i q => h.2.1 t i (by omega) (by omega), h.2.2⟩
theorem cnT_s {x : Int} (h : 0 ≤ x) : cnT t (x + 1) = cnT t x + t x := by
  unfold cnT
  rw [show (x + 1).toNat = x.toNat + 1 by omega, smz_sn, show (0 : Int) + (x.toNat : Int) = x by omega]
theorem cnT_0 : cnT t 0 = 0 := rfl
theorem cnT_mono (hb : b01 t) {x y : Int} (h0 : 0 ≤ x) (h : x ≤ y) : cnT t x ≤ cnT t y := by
  unfold cnT
  refine smz_mono (d := y.toNat) (fun i _ _ => ?_) x.toNat (by omega)
  rcases hb i with q | q <;> omega
theorem cnT_bd (hb : b01 t) {x : Int} (h0 : 0 ≤ x) : 0 ≤ cnT t x ∧ cnT t x ≤ x := by
  have := smz_bd (f := t) (K := 1) x.toNat 0 fun i _ _ => by rcases hb i with q | q <;> omega
  unfold cnT
  omega
theorem cnT_lt (hb : b01 t) {x y : Int} (h0 : 0 ≤ x) (h : x < y) (e : t x = 1) : cnT t x < cnT t y := by
  have := cnT_mono hb (show 0 ≤ x + 1 by omega) (show x + 1 ≤ y by omega)
  rw [cnT_s h0, e] at this
  omega
theorem LsR.one {x : Int} (hb : b01 t) (h : LsR J id t x) (x0 : 0 ≤ x) (e : t x = 1) (hA : FrA J J' id (cnT t x) x) : LsR J' id t (x + 1) := by
  refine ⟨by rw [hA.1, cnT_s x0, e], fun p p0 p1 hp => ?_⟩
  rw [hA.2.2.1]
  by_cases c : p = x
  · rw [c, if_pos rfl]
  · have := cnT_lt hb p0 (show p < x by omega) hp
    rw [if_neg (by omega)]
    exact h.2 p p0 (by omega) hp
theorem LsR.zero {x : Int} (h : LsR J id t x) (x0 : 0 ≤ x) (e : t x = 0) : LsR J id t (x + 1) := by
  refine ⟨by rw [cnT_s x0, e, Int.add_zero]; exact h.1, fun p p0 p1 hp => ?_⟩
  by_cases c : p = x
  · rw [c, e] at hp
    omega
  · exact h.2 p p0 (by omega) hp
theorem LsR.fa {id' : Nat} {x k v : Int} (h : LsR J id t x) (hA : FrA J J' id' k v) (hne : id ≠ id') : LsR J' id t x := h.eq ⟨hA.2.1 1 id (by omega), hA.2.2.2.1 1 id (by omega)⟩
theorem BoR.co (h : BoR J W b) (h8 : b < 8) (hF : FrCo c J J') : BoR J' W b := by
  obtain ⟨j1, j2, j3, j4, j5⟩ := h
  refine ⟨j1.eq (hF.1 6 _ (by omega)) fun t t0 t1 => hF.2.1 t _ (by omega), by rw [jB_r hF.2.2]; exact j2, ?_, ?_, ?_⟩
  · rw [hF.2.1 7 b (by omega)]
    exact j3
  · rw [hF.1 1 _ (by omega), hF.1 1 _ (by omega), hF.1 1 _ (by omega), hF.1 1 _ (by omega)]
    exact j4
  · rw [hF.2.1 1 _ (by omega), hF.2.1 1 _ (by omega), hF.2.1 1 _ (by omega), hF.2.1 1 _ (by omega)]
    exact j5
theorem cjg_Q {B : BK} {g i k q : Int} (h : cjg B g i k q) : q = cjQ B g i k := by
  unfold cjg at h
  unfold cjQ
  rcases h with ⟨h1, h2, h3, h4⟩ | ⟨h1, h2⟩
  · rw [if_pos ⟨h1, h2, h4⟩]
    have h5 := h3.2.2
    have h6 : cut B g (bz B g + 1 - i) = 0 := by
      unfold cut
      rw [h4]
      rfl
    omega
  · rw [if_neg h2]
    exact h1
theorem cjC_bd (hI : BkI W (b : Int)) (p : Int) : -1 ≤ cjC W b p ∧ cjC W b p < 400 := by
  unfold cjC
  split
  · rename_i q
    have hA := hI.at q.1 q.2
    have h4 := hI.2.2.1
    unfold cjQ
    split
    · rename_i k
      have hV : isV (mB W b) (W.2 12 ((b : Int) * 400 + p)) (bz (mB W b) (W.2 12 ((b : Int) * 400 + p)) + 1 - W.2 13 ((b : Int) * 400 + p)) := ⟨hA.1.1, by have := hA.1.2; omega, by have := hA.1.2; omega⟩
      have hb := ah_bd hI.1 hV
      have h0 := gsu_nn hI.1 hV.1.1 (by have := hV.1; omega)
      have h1 := gsu_mono hI.1 (show 0 ≤ W.2 12 ((b : Int) * 400 + p) + 1 by have := hV.1; omega) (show W.2 12 ((b : Int) * 400 + p) + 1 ≤ bn (mB W b) by have := hV.1; omega) (Int.le_refl _)
      have hm := (hI.1.2.2.1 _ _ hV.1.1 hV.1.2 hV.2.1 hV.2.2).2
      have hc : cnt (mB W b) (W.2 12 ((b : Int) * 400 + p)) (bz (mB W b) (W.2 12 ((b : Int) * 400 + p)) + 1 - W.2 13 ((b : Int) * 400 + p)) = bm (mB W b) (W.2 12 ((b : Int) * 400 + p)) (bz (mB W b) (W.2 12 ((b : Int) * 400 + p)) + 1 - W.2 13 ((b : Int) * 400 + p)) + 1 := by
        unfold cnt cut
        rw [k.2.2, if_neg (by decide), Int.sub_zero]
      have hL : LC (mB W b) = gsu (mB W b) (bn (mB W b)) := rfl
      omega
    · omega
  · omega
theorem b2 : b01 (t2E E m) := fun p => by unfold t2E; split <;> omega
theorem b3 : b01 (t3E E m) := fun p => by unfold t3E; split <;> omega
theorem b5 {cj : Int → Int} : b01 (t5E E cj m) := fun p => by
  unfold t5E
  split
  · omega
  · split
    · omega
    · split <;> omega
theorem b4 {R : Int → Int} {mx : Int} : b01 (t4E E R mx) := fun p => by unfold t4E; split <;> omega
theorem rl4 {i : Nat} (h : 12 ≤ i) : rl i = 400 := by unfold rl; rw [if_neg (by omega)]
theorem rx_c (hc : c < jC J) {r : Nat} (hr : r < 5) : rxk J (200 + r + 5 * c) := by unfold rxk; omega
/-- a place is listed, if it is told -/
theorem c_tell {x : Int} {r : Nat} (hb : b01 t) (hc : c < jC J) (hr : r < 5) (h : LsR J (200 + r + 5 * c) t x) (x0 : 0 ≤ x) (x4 : x < 400) (e : t x = 1) {α : Type} {f : Int → JM α} {Q : α → JS → Prop} (hq : ∀ J', FrA J J' (200 + r + 5 * c) (cnT t x) x → LsR J' (200 + r + 5 * c) t (x + 1) → wp (f 1) Q J') : wp (ib (G8_add (200 + r + 5 * c) x) f) Q J := by
  have hk := cnT_bd hb x0
  rw [wp_ib]
  exact w_addA (rx_c hc hr) h.1 ⟨hk.1, by rw [rl4 (by omega)]; omega⟩ fun J' hA => hq J' hA (h.one hb x0 e hA)
theorem c_col64 {k10 : Nat → Int → JM Unit} {x v q : Int} (hc : c < jC J) (x0 : 0 ≤ x) (x4 : x < 400) (hv : v = tmE E m x) (hm : 0 ≤ m ∧ m ≤ 400) {cj : Int → Int} (hq' : q = cj x) (hqb : -1 ≤ q ∧ q < 400) (hM : ∀ p, 0 ≤ p → p < 400 → ja J 8 0 p = tmE E m p) (h5 : LsR J (200 + 4 + 5 * c) (t5E E cj m) x) {Q : Unit → JS → Prop} (hq : ∀ J', FrCo c J J' → LsR J' (200 + 4 + 5 * c) (t5E E cj m) (x + 1) → (∀ r, r < 4 → js J' 1 (200 + r + 5 * c) = js J 1 (200 + r + 5 * c) ∧ ja J' 1 (200 + r + 5 * c) = ja J 1 (200 + r + 5 * c)) → ja J' 8 0 = ja J 8 0 → wp (k10 c (x + 1)) Q J') : wp (G1_collate_64 k10 c x v q) Q J := by
  have hb := tmE_bd (E := E) hm x
  have e5 : t5E E cj m x = if v ≤ 0 then 0 else if q < 0 then 0 else if tmE E m q = 0 then 1 else 0 := by
    unfold t5E
    rw [← hv, ← hq']
  have skip : t5E E cj m x = 0 → wp (k10 c (x + 1)) Q J := fun e => hq J FrCo.refl (h5.zero x0 e) (fun r hr => ⟨rfl, rfl⟩) rfl
  unfold G1_collate_64 G1_collate_92
  rw [wp_ig, wp_ite]
  refine ⟨⟨by omega, by omega⟩, ?_⟩
  by_cases c1 : v ≤ 0
  · rw [if_pos c1]
    exact skip (by rw [e5, if_pos c1])
  · rw [if_neg c1, wp_ig, wp_ite]
    rw [if_neg c1] at e5
    refine ⟨⟨by omega, by omega⟩, ?_⟩
    by_cases c2 : q = -1
    · rw [if_pos c2]
      exact skip (by rw [e5, if_pos (by omega)])
    · rw [if_neg (show ¬ q < 0 by omega)] at e5
      have hbq := tmE_bd (E := E) hm q
      rw [if_neg c2, wp_ib, wp_ret (c_markAt ⟨by omega, by omega⟩), if_pos ⟨by omega, hqb.2⟩, hM q (by omega) hqb.2, wp_ig, wp_ite]
      refine ⟨⟨by omega, by omega⟩, ?_⟩
      by_cases c3 : tmE E m q = 0
      · rw [if_pos c3, wp_ib, jp_E, kj_4, wp_ib, jp_E, kj_1]
        rw [if_pos c3] at e5
        refine ⟨hc, rx_c (r := 4) hc (by omega), c_tell (r := 4) b5 hc (by omega) h5 x0 x4 e5 fun J' hA hL => hq J' (hA.co (by omega)) hL (fun r hr => ⟨hA.2.1 1 _ (by omega), hA.2.2.2.1 1 _ (by omega)⟩) (hA.2.2.2.1 8 0 (by omega))⟩
      · rw [if_neg c3]
        rw [if_neg c3] at e5
        exact skip e5
theorem c_col50 {k10 : Nat → Int → JM Unit} {x v q : Int} (hc : c < jC J) (x0 : 0 ≤ x) (x4 : x < 400) (hv : v = tmE E m x) (hm : 0 ≤ m ∧ m ≤ 400) {cj : Int → Int} (hq' : q = cj x) (hqb : -1 ≤ q ∧ q < 400) (hM : ∀ p, 0 ≤ p → p < 400 → ja J 8 0 p = tmE E m p) (h3 : LsR J (200 + 2 + 5 * c) (t3E E m) x) (h5 : LsR J (200 + 4 + 5 * c) (t5E E cj m) x) {Q : Unit → JS → Prop} (hq : ∀ J', FrCo c J J' → LsR J' (200 + 2 + 5 * c) (t3E E m) (x + 1) → LsR J' (200 + 4 + 5 * c) (t5E E cj m) (x + 1) → (∀ r, r < 2 ∨ r = 3 → js J' 1 (200 + r + 5 * c) = js J 1 (200 + r + 5 * c) ∧ ja J' 1 (200 + r + 5 * c) = ja J 1 (200 + r + 5 * c)) → ja J' 8 0 = ja J 8 0 → wp (k10 c (x + 1)) Q J') : wp (G1_collate_50 k10 c x v q) Q J := by
  have hb := tmE_bd (E := E) hm x
  have e3 : t3E E m x = if v ≤ 1 then 0 else 1 := by
    unfold t3E
    rw [← hv]
  unfold G1_collate_50
  rw [wp_ig, wp_ite]
  refine ⟨⟨by omega, by omega⟩, ?_⟩
  by_cases c1 : v < 2
  · rw [if_pos c1]
    rw [if_pos (by omega)] at e3
    exact c_col64 hc x0 x4 hv hm hq' hqb hM h5 fun J' f l r k => hq J' f ((h3.zero x0 e3).eq (r 2 (by omega))) l (fun r' hr' => r r' (by omega)) k
  · rw [if_neg c1, wp_ib, jp_E, kj_4, wp_ib, jp_E, kj_1]
    rw [if_neg (by omega)] at e3
    refine ⟨hc, rx_c (r := 2) hc (by omega), c_tell (r := 2) b3 hc (by omega) h3 x0 x4 e3 fun J1 hA hL => ?_⟩
    have e8 : ja J1 8 0 = ja J 8 0 := hA.2.2.2.1 8 0 (by omega)
    exact c_col64 (by rw [jC_r hA.2.2.2.2]; exact hc) x0 x4 hv hm hq' hqb (by rw [e8]; exact hM) (h5.fa hA (by omega)) fun J' f l r k => hq J' ((hA.co (by omega)).trans f) (hL.eq (r 2 (by omega))) l (fun r' hr' => ⟨(r r' (by omega)).1.trans (hA.2.1 1 _ (by omega)), (r r' (by omega)).2.trans (hA.2.2.2.1 1 _ (by omega))⟩) (k.trans e8)
theorem c_col10 {J0 : JS} (hb8 : b < 8) (hJ0 : BoR J0 W b) (hI : BkI W (b : Int)) (hc : c < jC J0) (hr : jr J0 c = b) (hm : 0 ≤ m ∧ m ≤ 400) {Q : Unit → JS → Prop} (hq : ∀ J', FrCo c J0 J' → LsR J' (200 + 1 + 5 * c) (t2E E m) (LC (mB W b)) → LsR J' (200 + 2 + 5 * c) (t3E E m) (LC (mB W b)) → LsR J' (200 + 4 + 5 * c) (t5E E (cjC W b) m) (LC (mB W b)) → js J' 1 (200 + 3 + 5 * c) = js J0 1 (200 + 3 + 5 * c) → wp (G1_collate_98 c) Q J') : ∀ (d k : Nat) (x : Int) (J : JS), d < k → 0 ≤ x → x + d = LC (mB W b) → FrCo c J0 J → (∀ p, 0 ≤ p → p < 400 → ja J 8 0 p = tmE E m p) → LsR J (200 + 1 + 5 * c) (t2E E m) x → LsR J (200 + 2 + 5 * c) (t3E E m) x → LsR J (200 + 4 + 5 * c) (t5E E (cjC W b) m) x → js J 1 (200 + 3 + 5 * c) = js J0 1 (200 + 3 + 5 * c) → wp (G1_collate_10 k c x) Q J := by
  have h4 := hI.2.2.1
  intro d
  induction d with
  | zero =>
    intro k x J hk x0 x1 hF hM h2 h3 h5 h1
    cases k with
    | zero => omega
    | succ k =>
      have hJ := hJ0.co hb8 hF
      have ej : jr J c = b := by
        have : ∀ J : JS, jr J = (fun q : (Nat × Nat × Nat) × ((Nat → Option Nat) × (Nat → Option Nat)) × ((Nat → List Nat) × List Nat) × ((Nat → Nat) × (Nat → Nat) × (Nat → Nat)) => q.2.2.2.2.1) J.2.2 := fun _ => rfl
        rw [this J, hF.2.2, ← this J0]
        exact hr
      unfold G1_collate_10 G1_collate_10_st
      rw [wp_ib, jp_R, ej, wp_ib, jp_E, kj_3, wp_ib, wp_ret (c_leafCount hJ.2.1), hJ.2.2.2.1.1, wp_ig, wp_ig, wp_ite, if_pos (show LC (mB W b) ≤ x by omega)]
      have ex : x = LC (mB W b) := by omega
      rw [ex] at h2 h3 h5
      exact ⟨by rw [jC_r hF.2.2]; exact hc, hJ.2.1, ⟨by omega, by omega⟩, ⟨by omega, by omega⟩, hq J hF h2 h3 h5 h1⟩
  | succ d ih =>
    intro k x J hk x0 x1 hF hM h2 h3 h5 h1
    cases k with
    | zero => omega
    | succ k =>
      have hJ := hJ0.co hb8 hF
      have hc' : c < jC J := by rw [jC_r hF.2.2]; exact hc
      have ej : jr J c = b := by
        have : ∀ J : JS, jr J = (fun q : (Nat × Nat × Nat) × ((Nat → Option Nat) × (Nat → Option Nat)) × ((Nat → List Nat) × List Nat) × ((Nat → Nat) × (Nat → Nat) × (Nat → Nat)) => q.2.2.2.2.1) J.2.2 := fun _ => rfl
        rw [this J, hF.2.2, ← this J0]
        exact hr
      have hbt := tmE_bd (E := E) hm x
      have xL : x < LC (mB W b) := by omega
      unfold G1_collate_10 G1_collate_10_st
      rw [wp_ib, jp_R, ej, wp_ib, jp_E, kj_3, wp_ib, wp_ret (c_leafCount hJ.2.1), hJ.2.2.2.1.1, wp_ig, wp_ig, wp_ite, if_neg (show ¬ LC (mB W b) ≤ x by omega), wp_ib, wp_ret (c_markAt ⟨by omega, by omega⟩), if_pos ⟨x0, by omega⟩, hM x x0 (by omega), wp_ib, jp_R, ej, wp_ib, jp_E, kj_3, wp_ib]
      refine ⟨hc', hJ.2.1, ⟨by omega, by omega⟩, ⟨by omega, by omega⟩, hc', hJ.2.1, c_conjugateOf hJ hI x0 xL fun q hcj => ?_⟩
      have eq' : q = cjC W b x := by
        unfold cjC
        rw [if_pos ⟨x0, xL⟩]
        exact cjg_Q hcj
      have hqb := cjC_bd hI x
      rw [wp_ig, wp_ite]
      refine ⟨⟨by omega, by omega⟩, ?_⟩
      have e2 : t2E E m x = if tmE E m x = 0 then 1 else 0 := rfl
      by_cases c0 : tmE E m x = 0
      · rw [if_pos c0, wp_ib, jp_E, kj_4, wp_ib, jp_E, kj_1]
        rw [if_pos c0] at e2
        refine ⟨hc', rx_c (r := 1) hc' (by omega), c_tell (r := 1) b2 hc' (by omega) h2 x0 (by omega) e2 fun J1 hA hL => ?_⟩
        have e8 : ja J1 8 0 = ja J 8 0 := hA.2.2.2.1 8 0 (by omega)
        refine c_col50 (by rw [jC_r hA.2.2.2.2]; exact hc') x0 (by omega) rfl hm eq' (by omega) (by rw [e8]; exact hM) (h3.fa hA (by omega)) (h5.fa hA (by omega)) fun J2 f l3 l5 r k8 => ?_
        exact ih k (x + 1) J2 (by omega) (by omega) (by omega) ((hF.trans (hA.co (by omega))).trans f) (by rw [k8, e8]; exact hM) (hL.eq (r 1 (by omega))) l3 l5 ((r 3 (by omega)).1.trans ((hA.2.1 1 _ (by omega)).trans h1))
      · rw [if_neg c0]
        rw [if_neg c0] at e2
        refine c_col50 hc' x0 (by omega) rfl hm eq' (by omega) hM h3 h5 fun J2 f l3 l5 r k8 => ?_
        exact ih k (x + 1) J2 (by omega) (by omega) (by omega) (hF.trans f) (by rw [k8]; exact hM) ((h2.zero x0 e2).eq (r 1 (by omega))) l3 l5 ((r 3 (by omega)).1.trans h1)
end COL
