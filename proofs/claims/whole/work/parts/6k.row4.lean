/-! ===== rows of names: both list the entries ===== -/
section RW4
variable {W W0 W1 : IS} {J J0 : JS} {b C : Nat} {B : BK} {L L1 L2 : List (Int × Option Int)}
theorem c_addFull {id : Nat} (hx : rxk J id) {v : Int} (h : js J 1 id = rl id) : G8_add id v J = some (0, J) := by
  have hr := rl_le id
  refine wp_eq ?_
  unfold G8_add
  rw [wp_ib, jG1, kj_1, h, wp_ib, jp_E, kj_1, wp_ib, jpN1, kj_1, wp_ig, wp_ig, wp_ite, if_neg (by omega), jp_ret]
  exact ⟨hx, hx, hx, ⟨by omega, by omega⟩, ⟨by omega, by omega⟩, rfl, rfl⟩
theorem c_le51 {k6 : Nat → Nat → Int → JM Int} {x3 hi : Int} (hhi : -1 ≤ hi ∧ hi < 400) {Q : Int → JS → Prop} : ∀ (d f : Nat) (lo c0 : Int) (J : JS), d < f → lo + d = hi + 1 → 0 ≤ lo → (0 ≤ c0 ∧ c0 ≤ 400) → js J 1 12 = c0 → (c0 + d ≤ 400 → ∀ J', FrI 12 J J' → js J' 1 12 = c0 + d → (∀ i : Int, 0 ≤ i → i < d → ja J' 1 12 (c0 + i) = lo + i) → (∀ l, l < c0 → ja J' 1 12 l = ja J 1 12 l) → wp (k6 b 12 (x3 + 1)) Q J') → (400 < c0 + d → ∀ J', FrI 12 J J' → Q 0 J') → wp (G0_listsEntries_51 k6 f b 12 x3 hi lo) Q J := by
  intro d
  induction d with
  | zero =>
    intro f lo c0 J hf he h0 hc hj hs hn
    cases f with
    | zero => omega
    | succ f =>
      unfold G0_listsEntries_51 G0_listsEntries_51_st G0_listsEntries_75
      rw [wp_ig, wp_ig, wp_ite, if_pos (show hi < lo by omega)]
      exact ⟨⟨by omega, by omega⟩, ⟨by omega, by omega⟩, hs (by omega) J FrI.refl (by omega) (fun i i0 i1 => by omega) fun _ _ => rfl⟩
  | succ d ih =>
    intro f lo c0 J hf he h0 hc hj hs hn
    cases f with
    | zero => omega
    | succ f =>
      unfold G0_listsEntries_51 G0_listsEntries_51_st
      rw [wp_ig, wp_ig, wp_ite, if_neg (show ¬ hi < lo by omega), wp_ib, jp_E, kj_1, wp_ib]
      refine ⟨⟨by omega, by omega⟩, ⟨by omega, by omega⟩, Or.inl (by omega), ?_⟩
      by_cases k : c0 < 400
      · refine w_addA (n := c0) (Or.inl (by omega)) hj ⟨hc.1, by rw [rl4 (by omega)]; exact k⟩ fun J1 hA => ?_
        rw [wp_ig, wp_ite, if_neg (by decide)]
        refine ⟨by decide, ih f (lo + 1) (c0 + 1) J1 (by omega) (by omega) (by omega) (by omega) hA.1 (fun q J' f' s' a' o' => ?_) fun q J' f' => hn (by omega) J' (hA.i.trans f')⟩
        refine hs (by omega) J' (hA.i.trans f') (by omega) (fun i i0 i1 => ?_) fun l hl => ?_
        · by_cases e : i = 0
          · rw [e, Int.add_zero, Int.add_zero, o' c0 (by omega), hA.2.2.1, if_pos rfl]
          · have := a' (i - 1) (by omega) (by omega)
            rw [show c0 + 1 + (i - 1) = c0 + i by omega] at this
            omega
        · rw [o' l (by omega), hA.2.2.1, if_neg (by omega)]
      · rw [wp_ret (c_addFull (Or.inl (by omega)) (by rw [hj, rl4 (by omega)]; omega)), wp_ig, wp_ite, if_pos rfl, jp_ret]
        exact ⟨by decide, hn (by omega) J FrI.refl⟩
theorem c_le6 (hJ : BoR J0 W b) (hI : BkI W (b : Int)) (hN : NaR J0 (mB W b) (nmL L)) (hM : (nmL L).length ≤ 121) (hok : okL L) {Q : Int → JS → Prop} (hs : totL L ≤ 400 → ∀ J', FrI 12 J0 J' → js J' 1 12 = totL L → enF (ja J' 1 12) L → Q 1 J') (hn : 400 < totL L → ∀ J', FrI 12 J0 J' → Q 0 J') : ∀ (L2 L1 : List (Int × Option Int)) (f : Nat) (J : JS), L = L1 ++ L2 → (nmL L2).length < f → FrI 12 J0 J → js J 1 12 = totL L1 → totL L1 ≤ 400 → enF (ja J 1 12) L1 → wp (G0_listsEntries_6 f b 12 ((nmL L1).length : Nat)) Q J := by
  have hLC := hI.2.2.1
  intro L2
  induction L2 with
  | nil =>
    intro L1 f J e hf hF hj ht hE
    cases f with
    | zero => omega
    | succ f =>
      rw [List.append_nil] at e
      subst e
      have hN' : NaR J (mB W b) (nmL L) := hN.fr fun i _ _ => ⟨hF.1 1 i (by omega), hF.2.1 1 i (by omega)⟩
      unfold G0_listsEntries_6 G0_listsEntries_6_st
      rw [wp_ib, wp_ret (c_amtM hN'.1.2.1), wp_ig, wp_ig, wp_ite, if_pos (by omega), jp_ret]
      exact ⟨⟨by omega, by omega⟩, ⟨by omega, by omega⟩, hs ht J hF hj hE⟩
  | cons q L2 ih =>
    intro L1 f J e hf hF hj ht hE
    have hokA := okL_a.mp (e ▸ hok)
    have hok1 := hokA.1
    have hokq := okL_c.mp hokA.2
    have hq := itG_le hokq.1
    have ht1 := tot_nn hok1
    have ht2 := tot_nn hokq.2
    have hte : totL L = totL L1 + ((itL q - q.1 + 1) + totL L2) := by rw [e, totL_app, totL_c]
    have hJJ : ∀ {J' : JS}, FrI 12 J0 J' → BoR J' W b := fun hF => hJ.fr (jB_r hF.2.2) (hF.1 6 _ (by omega)) (fun t t0 t1 => hF.2.1 t _ (by omega)) (hF.2.1 7 b (by omega)) fun i i0 i1 => ⟨hF.1 1 i (by omega), hF.2.1 1 i (by omega)⟩
    have hNN : ∀ {J' : JS}, FrI 12 J0 J' → NaR J' (mB W b) (nmL L) := fun hF => hN.fr fun i _ _ => ⟨hF.1 1 i (by omega), hF.2.1 1 i (by omega)⟩
    have hb := (hJJ hF).2.1
    have hN' := hNN hF
    -- behind the item
    have nx : ∀ (f' : Nat) (J' : JS), (nmL L2).length < f' → FrI 12 J J' → totL L1 + (itL q - q.1 + 1) ≤ 400 → js J' 1 12 = totL L1 + (itL q - q.1 + 1) → (∀ i, 0 ≤ i → i ≤ itL q - q.1 → ja J' 1 12 (totL L1 + i) = q.1 + i) → (∀ l, l < totL L1 → ja J' 1 12 l = ja J 1 12 l) → wp (G0_listsEntries_6 f' b 12 ((nmL (L1 ++ [q])).length : Nat)) Q J' := fun f' J' hf' hF' hle hj' h1 h2 => ih (L1 ++ [q]) f' J' (by rw [e, List.append_assoc]; rfl) hf' (hF.trans hF') (by rw [totL_s]; exact hj') (by rw [totL_s]; exact hle) (enF_s hE hok1 h1 h2)
    obtain ⟨p, o⟩ := q
    cases f with
    | zero => omega
    | succ f =>
    cases o with
    | none =>
      have e1 : nmL L = nmL L1 ++ (p, 0) :: nmL L2 := by rw [e, nmL_app]; rfl
      have hl : (nmL L).length = (nmL L1).length + ((nmL L2).length + 1) := by rw [e1, List.length_append, List.length_cons]
      have h2l : (nmL ((p, none) :: L2)).length = (nmL L2).length + 1 := rfl
      have hpb := (hN.2 _ _ _ e1).2.2.2.2.2
      have ePl := c_pl (hJJ hF) hI hN' hM e1
      have eJn := c_jn0 hN' hM e1 rfl
      have en : (((nmL (L1 ++ [(p, none)])).length : Nat) : Int) = (nmL L1).length + 1 := by rw [nmL_s, List.length_append]; rfl
      have ez : itL (p, none) = p := rfl
      simp only [ez] at hq hte hpb nx
      rw [en] at nx
      unfold G0_listsEntries_6 G0_listsEntries_6_st G0_listsEntries_45
      rw [wp_ib, wp_ret (c_amtM hN'.1.2.1), wp_ig, wp_ig, wp_ite, if_neg (by omega), wp_ib, jp_E, kj_3, wp_ib, wp_ret ePl, wp_ib, wp_ret eJn, wp_ig, wp_ite, if_pos (by decide)]
      refine ⟨⟨by omega, by omega⟩, ⟨by omega, by omega⟩, hb, by decide, c_le51 (hi := p) ⟨by omega, by omega⟩ 1 LFU p (totL L1) J (by decide) (by omega) hq.1 ⟨ht1, ht⟩ hj (fun h J' f' s' a' o' => nx f J' (by omega) f' (by omega) (by omega) (fun i i0 i1 => a' i i0 (by omega)) o') fun h J' f' => hn (by omega) J' (hF.trans f')⟩
    | some z =>
      have e1 : nmL L = nmL L1 ++ (p, 0) :: ((z, 45) :: nmL L2) := by rw [e, nmL_app]; rfl
      have e2 : nmL L = (nmL L1 ++ [(p, 0)]) ++ (z, 45) :: nmL L2 := by rw [e1, List.append_assoc]; rfl
      have hl : (nmL L).length = (nmL L1).length + ((nmL L2).length + 1 + 1) := by rw [e1, List.length_append, List.length_cons, List.length_cons]
      have h2l : (nmL ((p, some z) :: L2)).length = (nmL L2).length + 1 + 1 := rfl
      have hpb := (hN.2 _ _ _ e1).2.2.2.2.2
      have hzb := (hN.2 _ _ _ e2).2.2.2.2.2
      have hlt := (itG_z.mp hokq.1).2.2
      have ePl := c_pl (hJJ hF) hI hN' hM e1
      have eJn := c_jn0 hN' hM e1 rfl
      have e11 : (((nmL L1 ++ [(p, 0)]).length : Nat) : Int) = (nmL L1).length + 1 := by rw [List.length_append]; rfl
      have en : (((nmL (L1 ++ [(p, some z)])).length : Nat) : Int) = (nmL L1).length + 1 + 1 := by rw [nmL_s, List.length_append]; rfl
      have ez : itL (p, some z) = z := rfl
      simp only [ez] at hq hte hpb hzb nx
      rw [en] at nx
      cases f with
      | zero => omega
      | succ f =>
      rw [show G0_listsEntries_6 (f + 1 + 1) b 12 ((nmL L1).length : Nat) = G0_listsEntries_6_st (G0_listsEntries_6 (f + 1)) b 12 ((nmL L1).length : Nat) from rfl]
      unfold G0_listsEntries_6_st G0_listsEntries_45
      rw [wp_ib, wp_ret (c_amtM hN'.1.2.1), wp_ig, wp_ig, wp_ite, if_neg (by omega), wp_ib, jp_E, kj_3, wp_ib, wp_ret ePl, wp_ib, wp_ret eJn, wp_ig, wp_ite, if_pos (by decide)]
      refine ⟨⟨by omega, by omega⟩, ⟨by omega, by omega⟩, hb, by decide, c_le51 (hi := p) ⟨by omega, by omega⟩ 1 LFU p (totL L1) J (by decide) (by omega) hq.1 ⟨ht1, ht⟩ hj (fun h J1 f1 s1 a1 o1 => ?_) fun h J' f' => hn (by omega) J' (hF.trans f')⟩
      have hF1 := hF.trans f1
      have hN1 := hNN hF1
      have hb1 := (hJJ hF1).2.1
      have ePz := c_pl (hJJ hF1) hI hN1 hM e2
      have eJz := c_jn1 hN1 hM e2 rfl
      have ePp := c_pl (hJJ hF1) hI hN1 hM e1
      rw [e11] at ePz eJz
      rw [show G0_listsEntries_6 (f + 1) b 12 ((nmL L1).length + 1 : Int) = G0_listsEntries_6_st (G0_listsEntries_6 f) b 12 ((nmL L1).length + 1 : Int) from rfl]
      unfold G0_listsEntries_6_st G0_listsEntries_45
      rw [wp_ib, wp_ret (c_amtM hN1.1.2.1), wp_ig, wp_ig, wp_ite, if_neg (by omega), wp_ib, jp_E, kj_3, wp_ib, wp_ret ePz, wp_ib, wp_ret eJz, wp_ig, wp_ite, if_neg (by decide), wp_ib, jp_E, kj_3, wp_ib, show ((nmL L1).length + 1 - 1 : Int) = ((nmL L1).length : Nat) by omega, wp_ret ePp]
      refine ⟨⟨by omega, by omega⟩, ⟨by omega, by omega⟩, hb1, by decide, hb1, c_le51 (hi := z) ⟨by omega, by omega⟩ (z - p).toNat LFU (p + 1) (totL L1 + 1) J1 (Nat.lt_of_le_of_lt (show (z - p).toNat ≤ 400 by omega) (by decide)) (by omega) (by omega) ⟨by omega, by omega⟩ (by omega) (fun h2 J2 f2 s2 a2 o2 => ?_) fun h2 J2 f2 => hn (by omega) J2 (hF1.trans f2)⟩
      refine nx f J2 (by omega) (f1.trans f2) (by omega) (by omega) (fun i i0 i1 => ?_) fun l hl => by rw [o2 l (by omega), o1 l hl]
      by_cases i00 : i = 0
      · have := a1 0 (by omega) (by decide)
        rw [i00, o2 _ (by omega)]
        exact this
      · have := a2 (i - 1) (by omega) (by omega)
        rw [show totL L1 + 1 + (i - 1) = totL L1 + i by omega] at this
        omega
theorem c_listsEntries (hJ : BoR J W b) (hI : BkI W (b : Int)) (hN : NaR J (mB W b) (nmL L)) (hM : (nmL L).length ≤ 121) (hok : okL L) : ∃ v J', G0_listsEntries b 12 J = some (v, J') ∧ FrI 12 J J' ∧ ((v = 1 ∧ totL L ≤ 400 ∧ js J' 1 12 = totL L ∧ enF (ja J' 1 12) L) ∨ (v = 0 ∧ 400 < totL L)) := by
  have h : wp (G0_listsEntries b 12) (fun v J' => FrI 12 J J' ∧ ((v = 1 ∧ totL L ≤ 400 ∧ js J' 1 12 = totL L ∧ enF (ja J' 1 12) L) ∨ (v = 0 ∧ 400 < totL L))) J := by
    unfold G0_listsEntries
    rw [wp_ib, jp_E, kj_1, wp_ib, wp_ret (c_clear (Or.inl (by omega)))]
    have hF : FrI 12 J (ju1 J 1 12 0) := ⟨fun t i q => by rw [ju1_s, if_neg q], fun _ _ _ => rfl, rfl⟩
    exact ⟨Or.inl (by omega), c_le6 (J0 := J) hJ hI hN hM hok (fun h J' f s e => ⟨f, Or.inl ⟨rfl, h, s, e⟩⟩) (fun h J' f => ⟨f, Or.inr ⟨rfl, h⟩⟩) L [] LFU _ rfl (Nat.lt_of_le_of_lt hM (by decide)) hF (by rw [ju1_s, if_pos ⟨rfl, rfl⟩]; rfl) (by decide) enF_0⟩
  obtain ⟨v, J', e, q⟩ := wp_ex h
  exact ⟨v, J', e, q⟩
/-! the model -/
theorem tot_ub (h : ∀ q ∈ L, itL q - q.1 + 1 ≤ 401) : totL L ≤ 401 * L.length := by
  induction L with
  | nil => exact Int.le_refl _
  | cons q L ih =>
    have h1 := h q List.mem_cons_self
    have h2 := ih fun x hx => h x (List.mem_cons_of_mem _ hx)
    rw [totL_c, List.length_cons]
    omega
theorem m_cp190 (hR : MoR W L) (hl : L.length ≤ 60) {a r : Int} (hr : r = ((L.length : Nat) : Int)) {Q : Int → IS → Prop} (hq : wp (I12_copy_224 a r (totL L)) Q W) : ∀ (L2 L1 : List (Int × Option Int)) (f : Nat) (x x5 : Int), L = L1 ++ L2 → x5 = ((L1.length : Nat) : Int) → L2.length < f → x = totL L1 → wp (I12_copy_190 f a r x x5) Q W := by
  intro L2
  induction L2 with
  | nil =>
    intro L1 f x x5 e h5 hf hx
    cases f with
    | zero => omega
    | succ f =>
      rw [List.append_nil] at e
      subst e hx
      unfold I12_copy_190 I12_copy_190_st
      rw [wp_ig, wp_ig, wp_ite, if_pos (show r ≤ x5 by omega)]
      exact ⟨⟨by omega, by omega⟩, ⟨by omega, by omega⟩, hq⟩
  | cons q L2 ih =>
    intro L1 f x x5 e h5 hf hx
    cases f with
    | zero => omega
    | succ f =>
      have hlen : L.length = L1.length + (L2.length + 1) := by rw [e, List.length_append, List.length_cons]
      have h2l : (q :: L2).length = L2.length + 1 := rfl
      have hq' := hR L1 q L2 e
      rw [← h5] at hq'
      have en : (((L1 ++ [q]).length : Nat) : Int) = L1.length + 1 := by rw [List.length_append]; rfl
      have nx := ih (L1 ++ [q]) f (x + ((itL q - q.1) + 1)) (x5 + 1) (by rw [e, List.append_assoc]; rfl) (by omega) (by omega) (by rw [totL_s, hx])
      unfold I12_copy_190 I12_copy_190_st
      rw [wp_ig, wp_ig, wp_ite, if_neg (show ¬ r ≤ x5 by omega), wp_ib, wA46, hq'.2, wp_ib, wA45, hq'.1]
      exact ⟨⟨by omega, by omega⟩, ⟨by omega, by omega⟩, ⟨by omega, by omega⟩, ⟨by omega, by omega⟩, nx⟩
theorem m_cp275 (hC : C < 16) {k260 : Int → Int → Int → Int → Int → IM Int} {a r x6 hi : Int} (h6 : 0 ≤ x6 ∧ x6 < 120) (h46 : W0.2 46 x6 = hi) (hhi : -1 ≤ hi ∧ hi < 400) {Q : Int → IS → Prop} : ∀ (d f : Nat) (lo c0 : Int) (W : IS), d < f → lo + d = hi + 1 → 0 ≤ lo → 0 ≤ c0 → c0 + d ≤ 400 → FrE C W0 W → (∀ W', FrE C W0 W' → (∀ i : Int, 0 ≤ i → i < d → W'.2 18 ((C : Int) * 400 + (c0 + i)) = lo + i) → (∀ l, l < c0 → W'.2 18 ((C : Int) * 400 + l) = W.2 18 ((C : Int) * 400 + l)) → wp (k260 a r (c0 + d) C (x6 + 1)) Q W') → wp (I12_copy_275 k260 f a r c0 C x6 lo) Q W := by
  intro d
  induction d with
  | zero =>
    intro f lo c0 W hf he h0 hc hc4 hF hs
    cases f with
    | zero => omega
    | succ f =>
      unfold I12_copy_275 I12_copy_275_st I12_copy_312
      rw [wp_ib, wA46, hF.2.1 46 (by decide), h46, wp_ig, wp_ig, wp_ite, if_pos (show hi < lo by omega)]
      have := hs W hF (fun i i0 i1 => by omega) fun _ _ => rfl
      rw [show c0 + ((0 : Nat) : Int) = c0 by omega] at this
      exact ⟨h6, ⟨by omega, by omega⟩, ⟨by omega, by omega⟩, this⟩
  | succ d ih =>
    intro f lo c0 W hf he h0 hc hc4 hF hs
    cases f with
    | zero => omega
    | succ f =>
      unfold I12_copy_275 I12_copy_275_st
      rw [wp_ib, wA46, hF.2.1 46 (by decide), h46, wp_ig, wp_ig, wp_ite, if_neg (show ¬ hi < lo by omega), wp_ib, wS18]
      refine ⟨h6, ⟨by omega, by omega⟩, ⟨by omega, by omega⟩, ⟨by omega, by omega⟩, ih f (lo + 1) (c0 + 1) _ (by omega) (by omega) (by omega) (by omega) (by omega) (hF.trans (FrE.u (by omega))) fun W' hF' h1 h2 => ?_⟩
      have := hs W' hF' (fun i i0 i1 => ?_) fun l hl => ?_
      · rw [show c0 + 1 + (d : Int) = c0 + ((d + 1 : Nat) : Int) by omega]
        exact this
      · by_cases e : i = 0
        · rw [e, Int.add_zero, h2 c0 (by omega), iu2_2, if_pos ⟨rfl, rfl⟩, Int.add_zero]
        · have := h1 (i - 1) (by omega) (by omega)
          rw [show c0 + 1 + (i - 1) = c0 + i by omega] at this
          omega
      · rw [h2 l (by omega), iu2_2, if_neg (by omega)]
theorem m_cp260s (hC : C < 16) {f : Nat} {a r x6 p z x : Int} (h6 : 0 ≤ x6 ∧ x6 < 120) (hr : x6 < r ∧ r ≤ 120) (h45 : W.2 45 x6 = p) (h46 : W0.2 46 x6 = z) (hF : FrE C W0 W) (hp : 0 ≤ p ∧ p ≤ z ∧ z < 400) (hx : 0 ≤ x ∧ x + (z - p + 1) ≤ 400) {Q : Int → IS → Prop} (nx : ∀ W', FrE C W0 W' → (∀ i, 0 ≤ i → i ≤ z - p → W'.2 18 ((C : Int) * 400 + (x + i)) = p + i) → (∀ l, l < x → W'.2 18 ((C : Int) * 400 + l) = W.2 18 ((C : Int) * 400 + l)) → wp (I12_copy_260 f a r (x + (z - p + 1)) C (x6 + 1)) Q W') : wp (I12_copy_260 (f + 1) a r x C x6) Q W := by
  unfold I12_copy_260 I12_copy_260_st
  rw [wp_ig, wp_ig, wp_ite, if_neg (by omega), wp_ib, wA45, h45]
  refine ⟨⟨by omega, by omega⟩, ⟨by omega, by omega⟩, ⟨by omega, by omega⟩, ?_⟩
  refine m_cp275 (W0 := W0) (C := C) hC h6 h46 ⟨by omega, hp.2.2⟩ (z - p + 1).toNat LFU p x W (Nat.lt_of_le_of_lt (show (z - p + 1).toNat ≤ 401 by omega) (by decide)) (by omega) hp.1 hx.1 (by omega) hF ?_
  intro W' hF' h1 h2
  rw [show (((z - p + 1).toNat : Nat) : Int) = z - p + 1 by omega]
  exact nx W' hF' (fun i i0 i1 => h1 i i0 (by omega)) h2
theorem m_cp260 (hC : C < 16) (hR : MoR W0 L) (hl : L.length ≤ 60) (hok : okL L) (hbd : ∀ q ∈ L, q.1 < 400 ∧ itL q < 400) (ht : totL L ≤ 400) {a r : Int} (hr : r = ((L.length : Nat) : Int)) {Q : Int → IS → Prop} (hq : ∀ W', FrE C W0 W' → enF (fun i => W'.2 18 ((C : Int) * 400 + i)) L → wp (I12_copy_318 a (totL L) C) Q W') : ∀ (L2 L1 : List (Int × Option Int)) (f : Nat) (x x6 : Int) (W : IS), L = L1 ++ L2 → x6 = ((L1.length : Nat) : Int) → L2.length < f → x = totL L1 → FrE C W0 W → enF (fun i => W.2 18 ((C : Int) * 400 + i)) L1 → wp (I12_copy_260 f a r x C x6) Q W := by
  intro L2
  induction L2 with
  | nil =>
    intro L1 f x x6 W e h6 hf hx hF hE
    cases f with
    | zero => omega
    | succ f =>
      rw [List.append_nil] at e
      subst e hx
      unfold I12_copy_260 I12_copy_260_st
      rw [wp_ig, wp_ig, wp_ite, if_pos (show r ≤ x6 by omega)]
      exact ⟨⟨by omega, by omega⟩, ⟨by omega, by omega⟩, hq W hF hE⟩
  | cons q L2 ih =>
    intro L1 f x x6 W e h6 hf hx hF hE
    cases f with
    | zero => omega
    | succ f =>
      have hlen : L.length = L1.length + (L2.length + 1) := by rw [e, List.length_append, List.length_cons]
      have h2l : (q :: L2).length = L2.length + 1 := rfl
      have hq' := hR L1 q L2 e
      rw [← h6] at hq'
      have hokA := okL_a.mp (e ▸ hok)
      have hokq := okL_c.mp hokA.2
      have hle := itG_le hokq.1
      have hb := hbd q (by rw [e]; exact List.mem_append.mpr (Or.inr List.mem_cons_self))
      have ht1 := tot_nn hokA.1
      have ht2 := tot_nn hokq.2
      have hte : totL L = totL L1 + ((itL q - q.1 + 1) + totL L2) := by rw [e, totL_app, totL_c]
      have en : (((L1 ++ [q]).length : Nat) : Int) = L1.length + 1 := by rw [List.length_append]; rfl
      have e45 : W.2 45 x6 = q.1 := by rw [hF.2.1 45 (by decide)]; exact hq'.1
      refine m_cp260s hC ⟨by omega, by omega⟩ ⟨by omega, by omega⟩ e45 hq'.2 hF ⟨hle.1, hle.2, hb.2⟩ ⟨by omega, by omega⟩ fun W' hF' h1 h2 => ?_
      exact ih (L1 ++ [q]) f (x + (itL q - q.1 + 1)) (x6 + 1) W' (by rw [e, List.append_assoc]; rfl) (by omega) (by omega) (by rw [totL_s, hx]) hF' (enF_s (F := fun i => W.2 18 ((C : Int) * 400 + i)) hE hokA.1 (fun i i0 i1 => by rw [← hx]; exact h1 i i0 i1) fun l hl => h2 l (by omega))
end RW4
