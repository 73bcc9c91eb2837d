/-! ===== a book is kept ===== -/
/-- a book was kept with the text T -/
def NbR (J J' : JS) (T : List Nat) : Prop :=
  (∀ t i, ¬ ((t = 1 ∧ 100 + 4 * jB J ≤ i ∧ i < 104 + 4 * jB J) ∨ ((t = 6 ∨ t = 7) ∧ i = jB J + 1) ∨ ((t = 2 ∨ t = 8 ∨ t = 11) ∧ i = 0)) → js J' t i = js J t i) ∧
  (∀ t i, ¬ ((t = 1 ∧ 100 + 4 * jB J ≤ i ∧ i < 104 + 4 * jB J) ∨ (t = 7 ∧ i = jB J) ∨ ((3 ≤ t ∧ t ≤ 6) ∧ i = jB J + 1)) → ja J' t i = ja J t i) ∧
  (js J' 2 0 = 0 ∧ js J' 8 0 = js J 8 0 + 1 ∧ js J' 11 0 = 0) ∧ (jB J' = jB J + 1 ∧ jC J' = jC J ∧ jT J' = jT J + 1) ∧
  (∀ i, jb J' i = if i = jB J then some (jB J) else jb J i) ∧ jd J' = jd J ∧ (∀ i, jt J' i = if i = jT J then T else jt J i) ∧ (∀ i, jw J' i = if i = jB J then jT J else jw J i) ∧ jr J' = jr J ∧ jn J' = jn J
/-- as it stands when its object is made -/
def NbS (J J' : JS) (T : List Nat) : Prop :=
  (∀ t i, ¬ ((t = 1 ∧ 100 + 4 * jB J ≤ i ∧ i < 104 + 4 * jB J) ∨ ((t = 6 ∨ t = 7) ∧ i = jB J + 1) ∨ (t = 2 ∧ i = 0)) → js J' t i = js J t i) ∧
  (∀ t i, ¬ ((t = 1 ∧ 100 + 4 * jB J ≤ i ∧ i < 104 + 4 * jB J) ∨ (t = 7 ∧ i = jB J) ∨ ((3 ≤ t ∧ t ≤ 6) ∧ i = jB J + 1)) → ja J' t i = ja J t i) ∧
  js J' 2 0 = 0 ∧ (∀ i, 100 + 4 * jB J ≤ i → i < 104 + 4 * jB J → js J' 1 i = 0) ∧ (jB J' = jB J + 1 ∧ jC J' = jC J ∧ jT J' = jT J + 1) ∧
  jb J' = jb J ∧ jd J' = jd J ∧ (∀ i, jt J' i = if i = jT J then T else jt J i) ∧ (∀ i, jw J' i = if i = jB J then jT J else jw J i) ∧ jr J' = jr J ∧ jn J' = jn J
section CLO
variable {J : JS} {B : BK}
theorem jpSB {k : Int} {b : Nat} {Q : Unit → JS → Prop} : wp (jSB k b) Q J = ((0 ≤ k ∧ k < 8 ∧ b < jB J) ∧ Q () (J.1, J.2.1, J.2.2.1, ((fun i => if i = k.toNat then some b else jb J i), jd J), J.2.2.2.2)) := wp_if rfl
theorem PlR.eq {J' : JS} {p : Nat} (hP : PlR J p B) (h6 : js J' 6 p = js J 6 p) (ha : ∀ t, 3 ≤ t → t ≤ 6 → ja J' t p = ja J t p) : PlR J' p B := by
  obtain ⟨p1, p2, p3, p4, p5⟩ := hP
  unfold PlR
  rw [h6, ha 3 (by omega) (by omega), ha 4 (by omega) (by omega), ha 5 (by omega) (by omega), ha 6 (by omega) (by omega)]
  exact ⟨p1, p2, p3, p4, p5⟩
theorem CLf.eq {J' : JS} {b : Nat} {n : Int} (h : CLf J b B n) (hs : ∀ i, 100 + 4 * b ≤ i → i < 104 + 4 * b → js J' 1 i = js J 1 i ∧ ja J' 1 i = ja J 1 i) : CLf J' b B n := by
  unfold CLf
  rw [(hs (100 + 4 * b) (by omega) (by omega)).1, (hs (101 + 4 * b) (by omega) (by omega)).1, (hs (102 + 4 * b) (by omega) (by omega)).1, (hs (103 + 4 * b) (by omega) (by omega)).1, (hs (100 + 4 * b) (by omega) (by omega)).2, (hs (101 + 4 * b) (by omega) (by omega)).2, (hs (102 + 4 * b) (by omega) (by omega)).2, (hs (103 + 4 * b) (by omega) (by omega)).2]
  exact h
theorem AhL.eq {J' : JS} {b : Nat} {g i : Int} (h : AhL J b B g i) (e : ja J' 7 b = ja J 7 b) : AhL J' b B g i := by
  unfold AhL
  rw [e]
  exact h
theorem NbS.of {T : List Nat} : NbS J (juB (juT (jux (ju1 J 2 0 0) T)) (jT J)) T := by
  refine ⟨fun t i c => ?_, fun t i c => ?_, ?_, fun i i0 i1 => ?_, ⟨rfl, rfl, rfl⟩, rfl, rfl, fun i => rfl, fun i => rfl, rfl, rfl⟩
  · show (if t = 1 ∧ 100 + 4 * jB J ≤ i ∧ i < 104 + 4 * jB J then 0 else if t = 6 ∧ i = jB J + 1 then 0 else if t = 7 ∧ i = jB J + 1 then -1 else if t = 2 ∧ i = 0 then 0 else js J t i) = js J t i
    rw [if_neg (by omega), if_neg (by omega), if_neg (by omega), if_neg (by omega)]
  · funext l
    show (if (t = 1 ∧ 100 + 4 * jB J ≤ i ∧ i < 104 + 4 * jB J) ∨ ((t = 3 ∨ t = 4 ∨ t = 5 ∨ t = 6) ∧ i = jB J + 1) ∨ (t = 7 ∧ i = jB J) then 0 else ja J t i l) = ja J t i l
    rw [if_neg (by omega)]
  · show (if 2 = 1 ∧ 100 + 4 * jB J ≤ 0 ∧ 0 < 104 + 4 * jB J then (0 : Int) else if 2 = 6 ∧ 0 = jB J + 1 then 0 else if 2 = 7 ∧ 0 = jB J + 1 then -1 else if 2 = 2 ∧ 0 = 0 then 0 else js J 2 0) = 0
    rw [if_neg (by omega), if_neg (by omega), if_neg (by omega), if_pos ⟨rfl, rfl⟩]
  · show (if 1 = 1 ∧ 100 + 4 * jB J ≤ i ∧ i < 104 + 4 * jB J then (0 : Int) else if 1 = 6 ∧ i = jB J + 1 then 0 else if 1 = 7 ∧ i = jB J + 1 then -1 else if 1 = 2 ∧ i = 0 then 0 else js J 1 i) = 0
    rw [if_pos ⟨rfl, i0, i1⟩]
theorem c_close2 {J2 : JS} {T : List Nat} (hN : NbS J J2 T) (h8 : js J 8 0 = jB J) (hb : jB J < 8) (hP : PlR J 0 B) (hB : BOK B) (hT : LC B ≤ 400) {Q : Int → JS → Prop} {v6 : Int} (hv : v6 = jB J) {b : Nat} (eb : b = jB J)
    (hk : ∀ J', NbR J J' T → PlR J' (jB J + 1) B → CLf J' (jB J) B (LC B) → AhL J' (jB J) B (bn B) 1 → Q (jB J : Int) J') : wp (ib (G0_init2 b) fun _ => ib (jSB v6 b) fun _ => ib (jG 8 0) fun v12 => ib (jP 8 0 (v12 + 1)) fun _ => ib (G11_answer v12) fun v13 => (jg9 v13)) Q J2 := by
  obtain ⟨n1, n2, n3, n4, ⟨n5, n5', n5''⟩, n6, n7, n8, n9, n10, n11⟩ := hN
  subst eb
  rw [wp_ib]
  refine c_bookInit (by omega) (hP.eq (n1 6 0 (by omega)) fun t t0 t1 => n2 t 0 (by omega)) hB hT ⟨n4 _ (by omega) (by omega), n4 _ (by omega) (by omega), n4 _ (by omega) (by omega), n4 _ (by omega) (by omega)⟩ fun J3 f3 P3 L3 A3 => ?_
  obtain ⟨f1, f2, f4⟩ := f3
  have eB : jB J3 = jB J + 1 := (jB_r f4).trans n5
  have e8 : js J3 8 0 = jB J := by rw [f1 8 0 (by omega), n1 8 0 (by omega), h8]
  have rr : ∀ {α : Type} (F : JS → α) (G : (Nat × Nat × Nat) × ((Nat → Option Nat) × (Nat → Option Nat)) × ((Nat → List Nat) × List Nat) × ((Nat → Nat) × (Nat → Nat) × (Nat → Nat)) → α), (∀ J, F J = G J.2.2) → F J3 = F J2 := fun F G h => by rw [h, h, f4]
  rw [wp_ib, jpSB]
  refine ⟨⟨by omega, by omega, by omega⟩, ?_⟩
  rw [wp_ib, jG8, wp_ib, jP8, wp_ib]
  unfold G11_answer
  rw [wp_ib, jP11, jp_ret, jp_g9]
  have e8' : js (J3.1, J3.2.1, J3.2.2.1, ((fun i => if i = v6.toNat then some (jB J) else jb J3 i), jd J3), J3.2.2.2.2) 8 0 = jB J := e8
  rw [e8']
  refine ⟨⟨⟨by omega, by omega⟩, by omega⟩, hk _ ⟨fun t i c => ?_, fun t i c => ?_, ⟨?_, ?_, ?_⟩, ⟨eB, (rr jC (fun q => q.1.2.1) fun _ => rfl).trans n5', (rr jT (fun q => q.1.2.2) fun _ => rfl).trans n5''⟩, fun i => ?_, (rr jd (fun q => q.2.1.2) fun _ => rfl).trans n7, fun i => ?_, fun i => ?_, (rr jr (fun q => q.2.2.2.2.1) fun _ => rfl).trans n10, (rr jn (fun q => q.2.2.2.2.2) fun _ => rfl).trans n11⟩ (P3.eq ?_ fun t t0 t1 => rfl) (L3.eq fun i i0 i1 => ⟨?_, rfl⟩) (A3.eq rfl)⟩
  · rw [ju1_s, if_neg (by omega), ju1_s, if_neg (by omega)]
    show js J3 t i = _
    rw [f1 t i (by omega), n1 t i (by omega)]
  · show ja J3 t i = _
    rw [f2 t i (by omega), n2 t i (by omega)]
  · rw [ju1_s, if_neg (by omega), ju1_s, if_neg (by omega)]
    show js J3 2 0 = _
    rw [f1 2 0 (by omega), n3]
  · rw [ju1_s, if_neg (by omega), ju1_s, if_pos ⟨rfl, rfl⟩, h8]
  · rw [ju1_s, if_pos ⟨rfl, rfl⟩]
  · show (if i = v6.toNat then some (jB J) else jb J3 i) = _
    rw [rr jb (fun q => q.2.1.1) (fun _ => rfl), n6, show v6.toNat = jB J by omega]
  · show jt J3 i = _
    rw [rr jt (fun q => q.2.2.1.1) (fun _ => rfl), n8]
  · show jw J3 i = _
    rw [rr jw (fun q => q.2.2.2.1) (fun _ => rfl), n9]
  · rw [ju1_s, if_neg (by omega), ju1_s, if_neg (by omega)]
    rfl
  · rw [ju1_s, if_neg (by omega), ju1_s, if_neg (by omega)]
    rfl
theorem c_closeBook (hC : CT J) (h8 : js J 8 0 = jB J) (hb : jB J < 8) (hP : PlR J 0 B) (hB : BOK B) (hT : LC B ≤ 400) {Q : Int → JS → Prop} (hk : ∀ J', NbR J J' (bkT B) → PlR J' (jB J + 1) B → CLf J' (jB J) B (LC B) → AhL J' (jB J) B (bn B) 1 → Q (jB J : Int) J') : wp (G11_closeBook 0) Q J := by
  unfold G11_closeBook
  rw [wp_ib]
  unfold G10_cutTo
  rw [wp_ib, jP2, jp_ret, wp_ig, wp_ite, if_pos rfl, wp_ib, jG8, wp_ig, wp_ite]
  have e8 : js (ju1 J 2 0 0) 8 0 = jB J := by rw [ju1_s, if_neg (by omega), h8]
  rw [e8, if_pos (by omega)]
  refine ⟨by decide, ⟨by omega, by omega⟩, ?_⟩
  rw [wp_ib, jG8, wp_ib, wp_ret (c_formulaText (J := ju1 J 2 0 0) (hC.r rfl) (Nat.zero_le _) (hP.eq (by rw [ju1_s, if_neg (by omega)]) fun t t0 t1 => rfl) hB), wp_ib, jp_NB, e8]
  refine ⟨⟨?_, Nat.lt_succ_self _⟩, ?_⟩
  · show jB J ≤ 24
    omega
  · have hN : NbS J (juB (juT (jux (ju1 J 2 0 0) (bkT B))) (jT (ju1 J 2 0 0))) (bkT B) := NbS.of
    have ej : jB (juT (jux (ju1 J 2 0 0) (bkT B))) = jB J := rfl
    rw [ej]
    revert hN
    generalize juB (juT (jux (ju1 J 2 0 0) (bkT B))) (jT (ju1 J 2 0 0)) = J2
    intro hN
    exact c_close2 hN h8 hb hP hB hT rfl rfl hk
theorem c_closeNo {r : Int} (hr : 1 ≤ r ∧ r ≤ 9) : G11_closeBook r J = some (-9, ju1 (ju1 J 2 0 0) 11 0 r) := by
  refine wp_eq ?_
  unfold G11_closeBook G10_cutTo G11_refuse
  rw [wp_ib, wp_ib, jP2, jp_ret, wp_ig, wp_ite, if_neg (by omega), wp_ib, wp_ib, jP11, jp_ret, jp_ret]
  exact ⟨⟨by omega, by omega⟩, rfl, rfl⟩
/-- a book as it was made is the model's -/
theorem BoR.of {W : IS} {b : Nat} (hb : b < jB J) (hI : BkI W (b : Int)) (hP : PlR J (b + 1) (mB W b)) (hL : CLf J b (mB W b) (LC (mB W b))) (hA : AhL J b (mB W b) (bn (mB W b)) 1) : BoR J W b := by
  refine ⟨hP, hb, fun g i hV => hA g i hV (Or.inl hV.1.2), hL.1, fun p p0 p1 => ?_⟩
  obtain ⟨q1, q2⟩ := hL.2 p p0 p1
  obtain ⟨e1, e2, e3⟩ := isAt_u hI.1 q1 (hI.at p0 p1)
  rw [q2, e1, e2, e3]
  exact ⟨rfl, rfl, rfl, rfl⟩
end CLO
