/-! ===== both read a row ===== -/
/-- how the reading of a row ends -/
def RwE (T : Int → Int) (n : Int) (B : BK) (W0 : IS) (J0 : JS) (b : Nat) (X : IM Int) (W : IS) (Y : JM Int) (J : JS) : Prop := ∃ W' J' v r x, (∀ Q : Int → IS → Prop, wp (I12_copy_147 (b : Int) r x) Q W' → wp X Q W) ∧ Y J = some (v, J') ∧ FrRw W0 W' ∧ FrD J0 J' ∧ ((v = 1 ∧ ∃ (j' : Nat) (L' : List (Int × Option Int)), r = (L'.length : Int) ∧ Mst W' T n 1 j' ∧ kdP T n (tkP T n j') = 0 ∧ NaR J' B (nmL L') ∧ MoR W' L' ∧ 2 * (nmL L').length ≤ 120 ∧ ((x = 0 ∧ okL L') ∨ (x = 1 ∧ ¬ okL L'))) ∨ (v = 0 ∧ ∃ j' : Nat, Mst W' T n 0 j' ∧ js J' 5 0 = tkP T n j'))
section RW2
variable {T : Int → Int} {n : Int} {W W0 : IS} {J J0 : JS} {j b : Nat} {B : BK} {M : List (Int × Int)} {L : List (Int × Option Int)}
theorem RwE.m {X X' : IM Int} {W1 : IS} {Y : JM Int} (h : ∀ Q : Int → IS → Prop, wp X Q W → wp X' Q W1) (h2 : RwE T n B W0 J0 b X W Y J) : RwE T n B W0 J0 b X' W1 Y J := by
  obtain ⟨W', J', v, r, x, q1, q2⟩ := h2
  exact ⟨W', J', v, r, x, fun Q q => h Q (q1 Q q), q2⟩
theorem RwE.c {X : IM Int} {Y Y' : JM Int} {J1 : JS} (h : Y' J1 = Y J) (h2 : RwE T n B W0 J0 b X W Y J) : RwE T n B W0 J0 b X W Y' J1 := by
  obtain ⟨W', J', v, r, x, q1, q2, q3⟩ := h2
  exact ⟨W', J', v, r, x, q1, h.trans q2, q3⟩
theorem g_yes {c : Int} (hT : byt T n) (hc : 40 ≤ c ∧ c ≤ 61) (h : Mst W T n 1 j) (hk : kdP T n (tkP T n j) = c) : ∃ W', I12_goes c W = some (1, W') ∧ FrY W W' ∧ Mst W' T n 1 (j + 1) := by
  obtain ⟨v, W', e, q1, q2, q3⟩ := wp_ex (m_goes (Q := fun v W' => v = 1 ∧ FrY W W' ∧ Mst W' T n 1 (j + 1)) hT hc h (fun _ W' a b => ⟨rfl, a, b⟩) (fun q => absurd hk q))
  subst q1
  exact ⟨W', e, q2, q3⟩
theorem g_no {c : Int} (hT : byt T n) (hc : 40 ≤ c ∧ c ≤ 61) (h : Mst W T n 1 j) (hk : kdP T n (tkP T n j) ≠ c) : I12_goes c W = some (0, W) :=
  wp_eq (m_goes (Q := fun v W' => v = 0 ∧ W' = W) hT hc h (fun q => absurd q hk) (fun _ => ⟨rfl, rfl⟩))
theorem sk_yes {k : Int} (hT : byt T n) (hk : R32 k) (h : Cst J T n j) (e : kdP T n (tkP T n j) = k) : ∃ J', G7_skips k J = some (1, J') ∧ FrD J J' ∧ (∀ t i, t ≠ 3 → js J' t i = js J t i) ∧ (∀ t i, ja J' t i = ja J t i) ∧ (k ≠ 0 → Cst J' T n (j + 1)) := by
  obtain ⟨v, J', e', q1, q2, q3, q4, q5⟩ := wp_ex (c_skipV (Q := fun v J' => v = 1 ∧ FrD J J' ∧ (∀ t i, t ≠ 3 → js J' t i = js J t i) ∧ (∀ t i, ja J' t i = ja J t i) ∧ (k ≠ 0 → Cst J' T n (j + 1))) hT hk h (fun _ J' a c => ⟨rfl, by rw [a]; exact FrD.u (by omega), fun t i q => by rw [a, ju1_s, if_neg (by omega)], fun t i => by rw [a]; rfl, c⟩) (fun q => absurd e q))
  subst q1
  exact ⟨J', e', q2, q3, q4, q5⟩
theorem sk_no {k : Int} (hT : byt T n) (hk : R32 k) (h : Cst J T n j) (e : kdP T n (tkP T n j) ≠ k) : G7_skips k J = some (0, J) :=
  wp_eq (c_skips (Q := fun v J' => v = 0 ∧ J' = J) hT hk h (fun q => absurd q e) (fun _ => ⟨rfl, rfl⟩))
theorem m_nam (hb : b < 8) (hI : BkI W (b : Int)) {s i k : Int} (hn : nmB W s i k) : ∃ p, I12_named b W = some (p, W) ∧ pnm (mB W b) s i k p := by
  obtain ⟨p, W', e, q1, q2⟩ := wp_ex (m_named (Q := fun p W' => W' = W ∧ pnm (mB W b) s i k p) (by omega) (by omega) hI hn fun p hp => ⟨rfl, hp⟩)
  subst q1
  exact ⟨p, e, q2⟩
theorem m_cp82x {k27 : Int → Int → Int → IM Int} {a r x3 x4 p z : Int} {q : Int × Option Int} (hr : 0 ≤ r ∧ r < 120) (h45 : W.2 45 r = p) (h46 : W.2 46 r = z) (hq1 : q.1 = p) (hq2 : itL q = z) (hx4 : (x4 = 0 ∧ q.2 = none) ∨ (x4 = 1 ∧ q.2 ≠ none)) (hb : (-1 ≤ p ∧ p < 400) ∧ (-1 ≤ z ∧ z < 400)) (hx3 : (x3 = 0 ∧ okL L) ∨ (x3 = 1 ∧ ¬ okL L)) : ∃ x, ((x = 0 ∧ okL (L ++ [q])) ∨ (x = 1 ∧ ¬ okL (L ++ [q]))) ∧ ∀ Q : Int → IS → Prop, wp (I12_copy_129 k27 a r x) Q W → wp (I12_copy_82 k27 a r x3 x4) Q W := by
  by_cases g : okL (L ++ [q])
  · refine ⟨0, Or.inl ⟨rfl, g⟩, fun Q h => m_cp82 (L := L) (q := q) hr h45 h46 hq1 hq2 hx4 hb hx3 fun x hx => ?_⟩
    rcases hx with ⟨rfl, -⟩ | ⟨-, g'⟩
    · exact h
    · exact absurd g g'
  · refine ⟨1, Or.inr ⟨rfl, g⟩, fun Q h => m_cp82 (L := L) (q := q) hr h45 h46 hq1 hq2 hx4 hb hx3 fun x hx => ?_⟩
    rcases hx with ⟨-, g'⟩ | ⟨rfl, -⟩
    · exact absurd g' g
    · exact h
theorem m_129w {k27 : Int → Int → Int → IM Int} {a r x : Int} (hM : Mst W T n 0 j) {Q : Int → IS → Prop} (h : wp (I12_copy_147 a (r + 1) x) Q W) : wp (I12_copy_129 k27 a r x) Q W := by
  unfold I12_copy_129
  rw [wp_ib, wp_igI, hM.2.2.1, wp_ig, wp_ite, if_pos rfl]
  exact ⟨by decide, h⟩
/-- behind an item: the end, or one more -/
theorem row_next (hT : byt T n) {m m' : Nat} {r x : Int} (hr : r = (L.length : Int)) (hM : Mst W T n 1 j) (hJ : Cst J T n j) (hF : FrRw W0 W) (hD : FrD J0 J) {q : Int × Option Int} (hN : NaR J B (nmL (L ++ [q]))) (hR : MoR W (L ++ [q])) (hl : 2 * (nmL (L ++ [q])).length ≤ j) (hx : (x = 0 ∧ okL (L ++ [q])) ∨ (x = 1 ∧ ¬ okL (L ++ [q]))) (ih : RwE T n B W0 J0 b (I12_copy_27 m b ((L ++ [q]).length : Nat) x) W (G7_readsRow_6 m' ((L ++ [q]).length : Nat)) J) : RwE T n B W0 J0 b (I12_copy_129 (I12_copy_27 m) b r x) W (G7_readsRow_40 (G7_readsRow_6 m') r) J := by
  subst hr
  have hle := (Cst.le hT hJ).1
  have hb := tkP_bd (T := T) (n := n) hT.1.1 j
  have hk := kdP_bd hT hb.1
  have hk2 := tkR hk.1 hk.2
  have h21 : W.1 21 = tkM (kdP T n (tkP T n j)) := (hM.2.2.2.kd hM.1 hM.2.1).1
  have hlen : (((L ++ [q]).length : Nat) : Int) = L.length + 1 := by rw [List.length_append]; rfl
  by_cases k0 : kdP T n (tkP T n j) = 0
  · obtain ⟨J1, e1, f1, s1, a1, -⟩ := sk_yes hT (by decide) hJ k0
    refine ⟨W, J1, 1, ((L ++ [q]).length : Nat), x, fun Q h => ?_, ?_, hF, hD.trans f1, Or.inl ⟨rfl, j, L ++ [q], rfl, hM, k0, hN.fr fun i _ _ => ⟨s1 1 i (by omega), a1 1 i⟩, hR, by omega, hx⟩⟩
    · unfold I12_copy_129
      rw [wp_ib, wp_igI, hM.2.2.1, wp_ig, wp_ite, if_neg (by decide), wp_ib, wp_igI, h21, wp_ig, wp_ite, if_pos ((tkM0 hk.1).mpr k0), ← hlen]
      exact ⟨by decide, hk2, h⟩
    · refine wp_eq ?_
      unfold G7_readsRow_40
      rw [wp_ib, wp_ret e1, wp_ig, wp_ite, if_neg (by decide), jp_ret]
      exact ⟨by decide, rfl, rfl⟩
  · have e0 := sk_no hT (show R32 0 by decide) hJ k0
    refine RwE.m (X := I12_copy_27 m b ((L ++ [q]).length : Nat) x) (W := W) (fun Q h => ?_) (RwE.c (Y := G7_readsRow_6 m' ((L ++ [q]).length : Nat)) (J := J) ?_ ih)
    · unfold I12_copy_129
      rw [wp_ib, wp_igI, hM.2.2.1, wp_ig, wp_ite, if_neg (by decide), wp_ib, wp_igI, h21, wp_ig, wp_ite, if_neg (fun g => k0 ((tkM0 hk.1).mp g)), ← hlen]
      exact ⟨by decide, hk2, h⟩
    · unfold G7_readsRow_40
      show ib (G7_skips 0) _ J = _
      unfold ib
      rw [e0, hlen]
      show ig (R32 0) _ J = _
      unfold ig
      rw [if_pos (by decide), if_pos rfl]
theorem b_row (hT : byt T n) (hb8 : b < 8) (hI0 : BkI W0 (b : Int)) (hB : B = mB W0 b) : ∀ (d : Nat) (W : IS) (J : JS) (j m m' : Nat) (L : List (Int × Option Int)) (x3 : Int), 120 - j < d → d ≤ m → d ≤ m' → FrRw W0 W → FrD J0 J → Mst W T n 1 j → Cst J T n j → NaR J B (nmL L) → MoR W L → 2 * (nmL L).length ≤ j → ((x3 = 0 ∧ okL L) ∨ (x3 = 1 ∧ ¬ okL L)) → RwE T n B W0 J0 b (I12_copy_27 m b (L.length : Nat) x3) W (G7_readsRow_6 m' (L.length : Nat)) J := by
  have hBk : BOK B := by rw [hB]; exact hI0.1
  have hBL : LC B ≤ 400 := by rw [hB]; exact hI0.2.2.1
  intro d
  induction d with
  | zero => intro W J j m m' L x3 hd; omega
  | succ d ih =>
    intro W J j m m' L x3 hd hm hm' hF hD hM hJ hN hR hlen hx
    cases m with
    | zero => omega
    | succ m =>
    cases m' with
    | zero => omega
    | succ m' =>
    have hle := (Cst.le hT hJ).1
    have hLl := nmL_le L
    have hr : 0 ≤ (L.length : Int) ∧ (L.length : Int) < 120 := ⟨by omega, by omega⟩
    obtain ⟨W1, v, J1, e1, e2, fN, fD, s, i, k, hn, hv⟩ := b_name (c := ((nmL L).length : Nat)) (mk := 0) hT (Or.inl rfl) ⟨by omega, by omega⟩ hM hJ hN.1
    have hF1 := hF.trans fN.rw'
    have hD1 := hD.trans fD
    obtain ⟨p, ep, hp⟩ := m_nam hb8 (hF1.I hI0) hn
    rw [hF1.b, ← hB] at hp
    have hpb := pnm_bd hBk hBL hp
    obtain ⟨W2, hW2⟩ : ∃ W2, W2 = iu2 (iu2 W1 45 (L.length : Nat) p) 46 (L.length : Nat) p := ⟨_, rfl⟩
    have run : ∀ Q : Int → IS → Prop, wp (ib (I12_goes 45) fun v3 => ig (R32 v3) <| if v3 = 0 then (I12_copy_82 (I12_copy_27 m) b (L.length : Nat) x3 v3) else (ib I12_readName fun _ => ib (I12_named b) fun v4 => ib (isI 46 (L.length : Nat) v4) fun _ => I12_copy_82 (I12_copy_27 m) b (L.length : Nat) x3 v3)) Q W2 → wp (I12_copy_27 (m + 1) b (L.length : Nat) x3) Q W := fun Q h => by
      unfold I12_copy_27 I12_copy_27_st
      rw [wp_ib, wp_ret e1, wp_ib, wp_ret ep, wp_ib, wS45, wp_ib, wA45, iu2_2, if_pos ⟨rfl, rfl⟩, wp_ib, wS46, ← hW2]
      exact ⟨hr, hr, hr, h⟩
    have hF2 : FrRw W0 W2 := by rw [hW2]; exact (hF1.trans (FrRw.u (Or.inl rfl))).trans (FrRw.u (Or.inr rfl))
    have w45 : ∀ l, W2.2 45 l = if l = (L.length : Int) then p else W.2 45 l := fun l => by
      rw [hW2, iu2_2, if_neg (by omega), iu2_2, fN.1]
      by_cases e : l = (L.length : Int)
      · rw [if_pos ⟨rfl, e⟩, if_pos e]
      · rw [if_neg (fun q => e q.2), if_neg e]
    have w46 : ∀ l, W2.2 46 l = if l = (L.length : Int) then p else W.2 46 l := fun l => by
      rw [hW2, iu2_2]
      by_cases e : l = (L.length : Int)
      · rw [if_pos ⟨rfl, e⟩, if_pos e]
      · rw [if_neg (fun q => e q.2), if_neg e, iu2_2, if_neg (by omega), fN.1]
    have hM2 : ∀ {g j'}, Mst W1 T n g j' → Mst W2 T n g j' := fun h => by rw [hW2]; exact (h.a (by omega)).a (by omega)
    have c82 := m_cp82x (W := W2) (k27 := I12_copy_27 m) (a := b) (L := L) (q := (p, none)) (x4 := 0) (p := p) (z := p) hr (by rw [w45, if_pos rfl]) (by rw [w46, if_pos rfl]) rfl rfl (Or.inl ⟨rfl, rfl⟩) ⟨⟨hpb.1, hpb.2.2⟩, ⟨hpb.1, hpb.2.2⟩⟩ hx
    obtain ⟨x, hxx, hx82⟩ := c82
    rcases hv with ⟨hv, j1, hMa, hJ1, hj1, hl, h8, h9, h10, h11⟩ | ⟨hv, j1, hMa, h5⟩
    · have hMb := hM2 hMa
      have hle1 := (Cst.le hT hJ1).1
      have hN1 : NaR J1 B (nmL L ++ [(p, 0)]) := hN.add hl h8 h9 h10 h11 hp hn.2.1 hn.2.2.1 hn.2.2.2 ⟨hpb.1, hpb.2.1⟩
      by_cases k45 : kdP T n (tkP T n j1) = 45
      · obtain ⟨W3, e3, fY, hM3⟩ := g_yes hT (by decide) hMb k45
        obtain ⟨J2, e4, fD2, s2, a2, hJ2⟩ := sk_yes hT (show R32 45 by decide) hJ1 k45
        have hJ2 := hJ2 (by decide)
        have hN2 : NaR J2 B (nmL L ++ [(p, 0)]) := hN1.fr fun i _ _ => ⟨s2 1 i (by omega), a2 1 i⟩
        have hl2 : js J2 1 8 = ((nmL L).length + 1 : Nat) ∧ js J2 1 9 = ((nmL L).length + 1 : Nat) ∧ js J2 1 10 = ((nmL L).length + 1 : Nat) ∧ js J2 1 11 = ((nmL L).length + 1 : Nat) := by
          have := hN2.1
          rw [List.length_append] at this
          exact this
        obtain ⟨W4, v4, J4, e5, e6, fN4, fD4, s4, i4, k4, hn4, hv4⟩ := b_name (c := ((nmL L).length + 1 : Nat)) (mk := 45) hT (Or.inr rfl) ⟨by omega, by omega⟩ hM3 hJ2 hl2
        have hF4 := (hF2.trans fY.rw').trans fN4.rw'
        have hD4 := (hD1.trans fD2).trans fD4
        obtain ⟨z, ez, hz⟩ := m_nam hb8 (hF4.I hI0) hn4
        rw [hF4.b, ← hB] at hz
        have hzb := pnm_bd hBk hBL hz
        obtain ⟨W5, hW5⟩ : ∃ W5, W5 = iu2 W4 46 (L.length : Nat) z := ⟨_, rfl⟩
        have run2 : ∀ Q : Int → IS → Prop, wp (I12_copy_82 (I12_copy_27 m) b (L.length : Nat) x3 1) Q W5 → wp (I12_copy_27 (m + 1) b (L.length : Nat) x3) Q W := fun Q h => by
          refine run Q ?_
          rw [wp_ib, wp_ret e3, wp_ig, wp_ite, if_neg (by decide), wp_ib, wp_ret e5, wp_ib, wp_ret ez, wp_ib, wS46, ← hW5]
          exact ⟨by decide, hr, h⟩
        have hF5 : FrRw W0 W5 := by rw [hW5]; exact hF4.trans (FrRw.u (Or.inr rfl))
        have v45 : ∀ l, W5.2 45 l = if l = (L.length : Int) then p else W.2 45 l := fun l => by
          rw [hW5, iu2_2, if_neg (by omega), fN4.1, fY.1, w45]
        have v46 : ∀ l, W5.2 46 l = if l = (L.length : Int) then z else W.2 46 l := fun l => by
          rw [hW5, iu2_2]
          by_cases e : l = (L.length : Int)
          · rw [if_pos ⟨rfl, e⟩, if_pos e]
          · rw [if_neg (fun q => e q.2), if_neg e, fN4.1, fY.1, w46, if_neg e]
        have hM5 : ∀ {g j'}, Mst W4 T n g j' → Mst W5 T n g j' := fun h => by rw [hW5]; exact h.a (by omega)
        obtain ⟨y, hyy, hy82⟩ := m_cp82x (W := W5) (k27 := I12_copy_27 m) (a := b) (L := L) (q := (p, some z)) (x4 := 1) (p := p) (z := z) hr (by rw [v45, if_pos rfl]) (by rw [v46, if_pos rfl]) rfl rfl (Or.inr ⟨rfl, fun h => by cases h⟩) ⟨⟨hpb.1, hpb.2.2⟩, ⟨hzb.1, hzb.2.2⟩⟩ hx
        have cls : ∀ (u : Int) (J' : JS), (v4 = 0 → u = 0 ∧ J' = J4) → (v4 = 1 → G7_readsRow_40 (G7_readsRow_6 m') (L.length : Nat) J4 = some (u, J')) → (v4 = 0 ∨ v4 = 1) → G7_readsRow_6 (m' + 1) (L.length : Nat) J = some (u, J') := fun u J' h0 h1 h01 => by
          refine wp_eq ?_
          unfold G7_readsRow_6 G7_readsRow_6_st
          rw [wp_ig, wp_ite, if_neg (show ¬ (121 : Int) ≤ (L.length : Nat) by omega), wp_ib, wp_ret e2, hv, wp_ig, wp_ite, if_neg (by decide), wp_ib, wp_ret e4, wp_ig, wp_ite, if_neg (by decide), wp_ib, wp_ret e6, wp_ig, wp_ite]
          refine ⟨⟨by omega, by omega⟩, by decide, by decide, by rcases h01 with e | e <;> rw [e] <;> decide, ?_⟩
          rcases h01 with e | e
          · rw [if_pos e, jp_ret]
            exact ⟨(h0 e).1.symm, (h0 e).2.symm⟩
          · rw [if_neg (by omega), wp_ret (h1 e)]
            exact ⟨rfl, rfl⟩
        rcases hv4 with ⟨hv4, j4, hMc, hJ4, hj4, hl4, g8, g9, g10, g11⟩ | ⟨hv4, j4, hMc, h54⟩
        · have hMd := hM5 hMc
          have hN4 : NaR J4 B (nmL (L ++ [(p, some z)])) := by
            have e := hN2.add (J' := J4) (mk := 45) (p := z) (s := s4) (i := i4) (b := k4) (by rw [List.length_append]; exact hl4) (by rw [List.length_append]; exact g8) (by rw [List.length_append]; exact g9) (by rw [List.length_append]; exact g10) (by rw [List.length_append]; exact g11) hz hn4.2.1 hn4.2.2.1 hn4.2.2.2 ⟨hzb.1, hzb.2.1⟩
            rw [nmL_s]
            rw [List.append_assoc] at e
            exact e
          have hR5 : MoR W5 (L ++ [(p, some z)]) := hR.add v45 v46
          have hl5 : 2 * (nmL (L ++ [(p, some z)])).length ≤ j4 := by
            rw [nmL_s, List.length_append]
            show 2 * ((nmL L).length + 2) ≤ j4
            omega
          have nx := row_next (m := m) (m' := m') (r := (L.length : Nat)) hT rfl hMd hJ4 hF5 hD4 hN4 hR5 hl5 hyy (ih W5 J4 j4 m m' (L ++ [(p, some z)]) y (by omega) (by omega) (by omega) hF5 hD4 hMd hJ4 hN4 hR5 hl5 hyy)
          obtain ⟨W', J', u, r, x', q1, q2, q3⟩ := nx
          exact ⟨W', J', u, r, x', fun Q q => run2 Q (hy82 Q (q1 Q q)), cls u J' (fun e => by omega) (fun _ => q2) (Or.inr hv4), q3⟩
        · have hMd := hM5 hMc
          exact ⟨W5, J4, 0, (L.length : Nat) + 1, y, fun Q q => run2 Q (hy82 Q (m_129w hMd q)), cls 0 J4 (fun _ => ⟨rfl, rfl⟩) (fun e => by omega) (Or.inl hv4), hF5, hD4, Or.inr ⟨rfl, j4, hMd, h54⟩⟩
      · have eg := g_no hT (by decide) hMb k45
        have es := sk_no hT (show R32 45 by decide) hJ1 k45
        have hN2 : NaR J1 B (nmL (L ++ [(p, none)])) := by rw [nmL_s]; exact hN1
        have hR2 : MoR W2 (L ++ [(p, none)]) := hR.add w45 w46
        have hl2 : 2 * (nmL (L ++ [(p, none)])).length ≤ j1 := by
          rw [nmL_s, List.length_append]
          show 2 * ((nmL L).length + 1) ≤ j1
          omega
        have nx := row_next (m := m) (m' := m') (r := (L.length : Nat)) hT rfl hMb hJ1 hF2 hD1 hN2 hR2 hl2 hxx (ih W2 J1 j1 m m' (L ++ [(p, none)]) x (by omega) (by omega) (by omega) hF2 hD1 hMb hJ1 hN2 hR2 hl2 hxx)
        obtain ⟨W', J', u, r, x', q1, q2, q3⟩ := nx
        refine ⟨W', J', u, r, x', fun Q q => run Q ?_, ?_, q3⟩
        · rw [wp_ib, wp_ret eg, wp_ig, wp_ite, if_pos rfl]
          exact ⟨by decide, hx82 Q (q1 Q q)⟩
        · refine wp_eq ?_
          unfold G7_readsRow_6 G7_readsRow_6_st
          rw [wp_ig, wp_ite, if_neg (show ¬ (121 : Int) ≤ (L.length : Nat) by omega), wp_ib, wp_ret e2, hv, wp_ig, wp_ite, if_neg (by decide), wp_ib, wp_ret es, wp_ig, wp_ite, if_pos rfl, wp_ret q2]
          exact ⟨⟨by omega, by omega⟩, by decide, by decide, rfl, rfl⟩
    · have hMb := hM2 hMa
      refine ⟨W2, J1, 0, (L.length : Nat) + 1, x, fun Q q => run Q ?_, ?_, hF2, hD1, Or.inr ⟨rfl, j1, hMb, h5⟩⟩
      · rw [wp_ib]
        refine m_goes0 hMb ?_
        rw [wp_ig, wp_ite, if_pos rfl]
        exact ⟨by decide, hx82 Q (m_129w hMb q)⟩
      · refine wp_eq ?_
        unfold G7_readsRow_6 G7_readsRow_6_st
        rw [wp_ig, wp_ite, if_neg (show ¬ (121 : Int) ≤ (L.length : Nat) by omega), wp_ib, wp_ret e2, hv, wp_ig, wp_ite, if_pos rfl, jp_ret]
        exact ⟨⟨by omega, by omega⟩, by decide, rfl, rfl⟩
end RW2
