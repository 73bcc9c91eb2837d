/-! ===== a copy is kept ===== -/
/-- a copy was kept: what the class's state is then -/
def NcR (J J' : JS) (b : Nat) : Prop :=
  (∀ t i, ¬ ((t = 1 ∧ 200 + 5 * jC J ≤ i ∧ i < 205 + 5 * jC J) ∨ (t = 12 ∧ i = jC J) ∨ ((t = 9 ∨ t = 11) ∧ i = 0)) → js J' t i = js J t i) ∧
  (∀ t i, ¬ ((t = 1 ∧ 200 + 5 * jC J ≤ i ∧ i < 205 + 5 * jC J) ∨ t = 8 ∨ t = 9 ∨ t = 10) → ja J' t i = ja J t i) ∧
  (js J' 9 0 = js J 9 0 + 1 ∧ js J' 11 0 = 0) ∧ (jB J' = jB J ∧ jC J' = jC J + 1 ∧ jT J ≤ jT J') ∧ jb J' = jb J ∧ (∀ i, jd J' i = if i = jC J then some (jC J) else jd J i) ∧ (∀ i, i < jT J → jt J' i = jt J i) ∧ jw J' = jw J ∧ (∀ i, jr J' i = if i = jC J then b else jr J i) ∧ (∀ i, i ≠ jC J → jn J' i = jn J i)
section KP2
variable {W : IS} {J J' : JS} {E : Int → Int} {m : Int} {b : Nat}
theorem jpPN {c s : Nat} {Q : Unit → JS → Prop} : wp (jPN c s) Q J = ((c < jC J ∧ s < jT J) ∧ Q () (J.1, J.2.1, J.2.2.1, J.2.2.2.1, J.2.2.2.2.1, (jw J, jr J, fun i => if i = c then s else jn J i))) := wp_if rfl
theorem jpSC {k : Int} {c : Nat} {Q : Unit → JS → Prop} : wp (jSC k c) Q J = ((0 ≤ k ∧ k < 16 ∧ c < jC J) ∧ Q () (J.1, J.2.1, J.2.2.1, (jb J, (fun i => if i = k.toNat then some c else jd J i)), J.2.2.2.2)) := wp_if rfl
theorem BoR.fr (h : BoR J W b) (hB : jB J' = jB J) (h6 : js J' 6 (b + 1) = js J 6 (b + 1)) (ha : ∀ t, 3 ≤ t → t ≤ 6 → ja J' t (b + 1) = ja J t (b + 1)) (h7 : ja J' 7 b = ja J 7 b) (hr : ∀ i, 100 + 4 * b ≤ i → i < 104 + 4 * b → js J' 1 i = js J 1 i ∧ ja J' 1 i = ja J 1 i) : BoR J' W b := by
  obtain ⟨j1, j2, j3, j4, j5⟩ := h
  refine ⟨j1.eq h6 ha, by rw [hB]; exact j2, ?_, ?_, ?_⟩
  · rw [h7]
    exact j3
  · rw [(hr _ (by omega) (by omega)).1, (hr (101 + 4 * b) (by omega) (by omega)).1, (hr (102 + 4 * b) (by omega) (by omega)).1, (hr (103 + 4 * b) (by omega) (by omega)).1]
    exact j4
  · rw [(hr (100 + 4 * b) (by omega) (by omega)).2, (hr (101 + 4 * b) (by omega) (by omega)).2, (hr (102 + 4 * b) (by omega) (by omega)).2, (hr (103 + 4 * b) (by omega) (by omega)).2]
    exact j5
/-- when its object is made -/
def NcS (J J' : JS) (n : Int) (b : Nat) : Prop :=
  (∀ t i, ¬ ((t = 1 ∧ 200 + 5 * jC J ≤ i ∧ i < 205 + 5 * jC J) ∨ (t = 12 ∧ i = jC J)) → js J' t i = js J t i) ∧
  (∀ t i, ¬ (t = 1 ∧ 200 + 5 * jC J ≤ i ∧ i < 205 + 5 * jC J) → ja J' t i = ja J t i) ∧
  (∀ i, 200 + 5 * jC J ≤ i → i < 205 + 5 * jC J → js J' 1 i = 0) ∧ js J' 12 (jC J) = n ∧ (jB J' = jB J ∧ jC J' = jC J + 1 ∧ jT J' = jT J) ∧ jb J' = jb J ∧ jd J' = jd J ∧ jt J' = jt J ∧ jw J' = jw J ∧ (∀ i, jr J' i = if i = jC J then b else jr J i) ∧ (∀ i, i ≠ jC J → jn J' i = jn J i)
theorem NcS.of {n : Int} {s : Nat} : NcS J (juC J n b s) n b := by
  refine ⟨fun t i h => ?_, fun t i h => ?_, fun i h0 h1 => ?_, ?_, ⟨rfl, rfl, rfl⟩, rfl, rfl, rfl, rfl, fun i => rfl, fun i h => ?_⟩
  · show (if t = 1 ∧ 200 + 5 * jC J ≤ i ∧ i < 205 + 5 * jC J then 0 else if t = 12 ∧ i = jC J then n else js J t i) = js J t i
    rw [if_neg (by omega), if_neg (by omega)]
  · funext l
    show (if t = 1 ∧ 200 + 5 * jC J ≤ i ∧ i < 205 + 5 * jC J then 0 else ja J t i l) = ja J t i l
    rw [if_neg h]
  · show (if 1 = 1 ∧ 200 + 5 * jC J ≤ i ∧ i < 205 + 5 * jC J then 0 else if 1 = 12 ∧ i = jC J then n else js J 1 i) = 0
    rw [if_pos ⟨rfl, h0, h1⟩]
  · show (if 12 = 1 ∧ 200 + 5 * jC J ≤ jC J ∧ jC J < 205 + 5 * jC J then 0 else if 12 = 12 ∧ jC J = jC J then n else js J 12 (jC J)) = n
    rw [if_neg (by omega), if_pos ⟨rfl, rfl⟩]
  · show (if i = jC J then s else jn J i) = jn J i
    rw [if_neg h]
theorem c_keepCopy (hC : CT J) (hJ : BoR J W b) (hI : BkI W (b : Int)) (h8 : jB J ≤ 8) (h9 : js J 9 0 = jC J) (hc : jC J < 16) (hm : 0 ≤ m ∧ m ≤ 400) (hRo : RoR J 12 E m) (hE : ∀ i, 0 ≤ i → i < m → 0 ≤ E i ∧ E i < LC (mB W b)) {n : Int} {Q : Int → JS → Prop} (hq : ∀ J', NcR J J' b → js J' 12 (jC J) = n → CpQ J' (jC J) b (LC (mB W b)) m E (cjC W b) (nmC W b) ∨ n ≠ b → Q (jC J : Int) J') : wp (G11_keepCopy n b) Q J := by
  have hb8 : b < 8 := by have := hJ.2.1; omega
  have hL4 := hI.2.2.1
  unfold G11_keepCopy
  rw [wp_ib, jG9, h9, wp_ig, wp_ite, if_neg (show ¬ (16 : Int) ≤ jC J by omega), wp_ib, jp_NC]
  refine ⟨⟨by omega, by omega⟩, ⟨by omega, hJ.2.1, by have := hC.1; omega⟩, ?_⟩
  have hN : NcS J (juC J n b 4) n b := NcS.of
  revert hN
  generalize juC J n b 4 = J1
  intro hN
  obtain ⟨n1, n2, n3, n4, ⟨n5, n5', n5''⟩, n6, n7, n8, n9, n10, n11⟩ := hN
  obtain ⟨c, ec⟩ : ∃ c, c = jC J := ⟨_, rfl⟩
  rw [← ec] at n1 n2 n3 n4 n5' n10 n11 hq hc h9 ⊢
  have hc1 : c < jC J1 := by omega
  have hC1 : CT J1 := ⟨by rw [n5'']; exact hC.1, fun i hi => by rw [n8]; exact hC.2 i hi⟩
  have hJ1 : BoR J1 W b := hJ.fr n5 (n1 6 _ (by omega)) (fun t t0 t1 => n2 t _ (by omega)) (n2 7 b (by omega)) fun i i0 i1 => ⟨n1 1 i (by omega), n2 1 i (by omega)⟩
  have hr1 : jr J1 c = b := by rw [n10, if_pos rfl]
  have hRo1 : RoR J1 12 E m := by
    unfold RoR
    rw [n1 1 12 (by omega), n2 1 12 (by omega)]
    exact hRo
  rw [wp_ib]
  unfold G2_init2
  rw [wp_ib, jp_E, kj_4, wp_ib, jp_E, kj_1, wp_ib]
  refine ⟨hc1, rx_c (r := 0) hc1 (by omega), c_copyRow (id := 200 + 5 * c) (src := 12) (by omega) (rx_c (r := 0) hc1 (by omega)) (Or.inl (by omega)) hm ⟨by rw [rl4 (by omega)]; omega, by rw [rl4 (by omega)]; omega⟩ hRo1 fun J2 f2 hRo2 => ?_⟩
  rw [jp_ret, wp_ib]
  have hc2 : c < jC J2 := by rw [jC_r f2.2.2]; exact hc1
  have hJ2 : BoR J2 W b := hJ1.fr (jB_r f2.2.2) (f2.1 6 _ (by omega)) (fun t t0 t1 => f2.2.1 t _ (by omega)) (f2.2.1 7 b (by omega)) fun i i0 i1 => ⟨f2.1 1 i (by omega), f2.2.1 1 i (by omega)⟩
  refine c_collate hb8 hJ2 hI hc2 (by rw [jr_r f2.2.2]; exact hr1) hm hRo2 hE (fun r r0 r1 => by rw [f2.1 1 _ (by omega)]; exact n3 _ (by omega) (by omega)) fun J3 f3 l2 l3 l5 hex => ?_
  obtain ⟨R, mx, hR, hmx, l4⟩ := hex
  have r31 : J3.2.2 = J1.2.2 := f3.2.2.trans f2.2.2
  have hc3 : c < jC J3 := by rw [jC_r r31]; exact hc1
  have hRo3 : RoR J3 (200 + 5 * c) E m := by
    unfold RoR
    rw [f3.1 1 _ (by omega), f3.2.1 1 _ (by omega)]
    exact hRo2
  obtain ⟨eT, -⟩ := c_noteText (hC1.r r31) (hJ2.co hb8 f3) hI hc3 (by rw [jr_r r31]; exact hr1) hm b2 b3 b4 l2 l3 l4 hRo3 hE
  rw [wp_ib, wp_ret eT, wp_ib, jpPN]
  refine ⟨⟨hc3, Nat.lt_succ_self _⟩, ?_⟩
  -- all behind one name
  obtain ⟨T, hT⟩ : ∃ T, T = noT (nmC W b) E (t2E E m) (t3E E m) (t4E E R mx) (LC (mB W b)) m := ⟨_, rfl⟩
  rw [← hT]
  have e9 : js J3 9 0 = c := by rw [f3.1 9 0 (by omega), f2.1 9 0 (by omega), n1 9 0 (by omega), h9]
  have e9' : ∀ (x : (Nat × Nat × Nat) × ((Nat → Option Nat) × (Nat → Option Nat)) × ((Nat → List Nat) × List Nat) × ((Nat → Nat) × (Nat → Nat) × (Nat → Nat))), js ((J3.1, J3.2.1, x) : JS) 9 0 = c := fun x => e9
  rw [wp_ib, jG9]
  rw [show js ((juT (jux J3 T)).1, (juT (jux J3 T)).2.1, (juT (jux J3 T)).2.2.1, (juT (jux J3 T)).2.2.2.1, (juT (jux J3 T)).2.2.2.2.1, (jw (juT (jux J3 T)), jr (juT (jux J3 T)), fun i => if i = c then jT J3 else jn (juT (jux J3 T)) i)) 9 0 = c from e9]
  rw [wp_ib, jpSC]
  refine ⟨⟨by omega, by omega, hc3⟩, ?_⟩
  have key : ∀ J4 : JS, J4 = (J3.1, J3.2.1, (jB J3, jC J3, jT J3 + 1), ((jb J3), (fun i => if i = ((c : Int)).toNat then some c else jd J3 i)), ((fun j => if j = jT J3 then T else jt J3 j), T), (jw J3, jr J3, fun i => if i = c then jT J3 else jn J3 i)) → wp (ib (jG 9 0) fun v11 => ib (jP 9 0 (v11 + 1)) fun _ => ib (G11_answer v11) fun v => jg9 v) Q J4 := fun J4 h4 => by
    have e94 : js J4 9 0 = c := by rw [h4]; exact e9
    rw [wp_ib, jG9, e94, wp_ib, jP9, wp_ib, wp_ret c_answer, jp_g9]
    refine ⟨⟨⟨by omega, by omega⟩, by omega⟩, ?_⟩
    subst h4
    refine hq _ ⟨fun t i h => ?_, fun t i h => ?_, ⟨?_, ?_⟩, ⟨?_, ?_, ?_⟩, ?_, fun i => ?_, fun i hi => ?_, ?_, fun i => ?_, fun i hi => ?_⟩ ?_ ?_
    · rw [ju1_s, if_neg (by omega), ju1_s, if_neg (by omega)]
      show js J3 t i = _
      rw [f3.1 t i (by omega), f2.1 t i (by omega), n1 t i (by omega)]
    · show ja J3 t i = _
      rw [f3.2.1 t i (by omega), f2.2.1 t i (by omega), n2 t i (by omega)]
    · rw [ju1_s, if_neg (by omega), ju1_s, if_pos ⟨rfl, rfl⟩, h9]
    · rw [ju1_s, if_pos ⟨rfl, rfl⟩]
    · show jB J3 = _
      rw [jB_r r31, n5]
    · show jC J3 = _
      rw [jC_r r31, n5', ec]
    · show jT J ≤ jT J3 + 1
      rw [jT_r r31, n5'']
      omega
    · show jb J3 = _
      rw [jb_r r31, n6]
    · show (if i = ((c : Int)).toNat then some c else jd J3 i) = _
      rw [show ((c : Int)).toNat = jC J by omega, jd_r r31, n7, ec]
    · show (if i = jT J3 then T else jt J3 i) = _
      rw [jT_r r31, n5'', if_neg (by omega), jt_r r31, n8]
    · show jw J3 = _
      rw [jw_r r31, n9]
    · show jr J3 i = _
      rw [jr_r r31, n10, ec]
    · show (if i = c then jT J3 else jn J3 i) = _
      rw [if_neg (by omega), jn_r r31, n11 i (by omega)]
    · rw [ju1_s, if_neg (by omega), ju1_s, if_neg (by omega)]
      show js J3 12 c = _
      rw [f3.1 12 c (by omega), f2.1 12 c (by omega), n4]
    · by_cases hn : n = b
      · refine Or.inl ⟨?_, ?_, ?_, hm, ?_, fun i i0 i1 => ⟨?_, hE i i0 i1⟩, l2.eq ⟨?_, rfl⟩, l3.eq ⟨?_, rfl⟩, l5.eq ⟨?_, rfl⟩, R, mx, hR, hmx, l4.eq ⟨?_, rfl⟩, ?_, ?_⟩
        · show (if c = ((c : Int)).toNat then some c else jd J3 c) = some c
          rw [if_pos (by omega)]
        · rw [ju1_s, if_neg (by omega), ju1_s, if_neg (by omega)]
          show js J3 12 c = _
          rw [f3.1 12 c (by omega), f2.1 12 c (by omega), n4, hn]
        · show jr J3 c = b
          rw [jr_r r31, hr1]
        · rw [ju1_s, if_neg (by omega), ju1_s, if_neg (by omega)]
          exact hRo3.1
        · exact hRo3.2 i i0 i1
        · rw [ju1_s, if_neg (by omega), ju1_s, if_neg (by omega)]
          rfl
        · rw [ju1_s, if_neg (by omega), ju1_s, if_neg (by omega)]
          rfl
        · rw [ju1_s, if_neg (by omega), ju1_s, if_neg (by omega)]
          rfl
        · rw [ju1_s, if_neg (by omega), ju1_s, if_neg (by omega)]
          rfl
        · show (if c = c then jT J3 else jn J3 c) < jT J3 + 1
          rw [if_pos rfl]
          omega
        · show (if (if c = c then jT J3 else jn J3 c) = jT J3 then T else jt J3 (if c = c then jT J3 else jn J3 c)) = _
          rw [if_pos rfl, if_pos rfl, hT]
      · exact Or.inr hn
  exact key _ rfl
end KP2
