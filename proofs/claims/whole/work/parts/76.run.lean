/-! ===== a call of both sides ===== -/
/-- what holds between two calls, of the whole heap: the class's objects from x on, the model's from x + 46 on, the script at b -/
def LwS (x b L : Nat) (xs : Nat → Int32) (rf : Nat → Option Nat) (b1 b2 : Nat) (W : IS) (h : AH) : Prop := ∃ (am : AM) (S : CS) (J : JS), am.1 = x ∧ (∀ a, aSp am a = none) ∧ RC am b1 b2 S h ∧ RS S J ∧ RMo (x + 46) rf (wI W) h ∧ KCs rf x h ∧ Inv W J ∧ ce h b = .inl (10, L, .inl xs) ∧ b < x
def cn (W : IS) : Int := W.1 5 + W.1 15
def KG (k : Int32 → Nat × Nat) (i : IM Int) : Prop := ∀ W v W', i W = some (v, W') → cn W ≤ cn W' ∧ ((k (iI v)).1 : Int) ≤ 17 * (cn W' - cn W) + 2 ∧ ((k (iI v)).2 : Int) ≤ 20707 * (cn W' - cn W) + 104
section RUN
variable {x b L b1 b2 p m : Nat} {xs : Nat → Int32} {rf : Nat → Option Nat} {W : IS} {h h' : AH} {am : AM} {S : CS} {w : MS}
theorem RC.noSp (hR : RC am b1 b2 S h) : RC (am.1, aRo am, aPl am, aBo am, aLe am, aCo am, aSt am, fun _ => none) b1 b2 S h := by
  obtain ⟨own, v, cap, gr, fb, q1, hT, o1, o2, v1, v2, v3, hst, r1, r2, r3, r4, r5, r6, r7, hW⟩ := hR
  exact ⟨own, v, cap, gr, fb, q1, hT, o1, o2, v1, v2, v3, hst, r1, r2, r3, r4, r5, r6, fun a e he => (by cases he), hW⟩
theorem oM_ex : ∀ j, j < 32 → isA (arM.getD j 0) = true ∧ oM (arM.getD j 0) = j + 1 := by decide +kernel
theorem band_r {a cc : Nat} {w1 : Value} {rest : List Value} (hM : RMo m rf w h) (he : ce h a = .inr (cc, w1 :: rest)) (hc : okc 0 cc = true) : a < m ∨ m + 33 ≤ a := by
  by_cases q : a < m ∨ m + 33 ≤ a
  · exact q
  · exfalso
    obtain ⟨j, rfl⟩ : ∃ j, a = m + j := ⟨a - m, by omega⟩
    cases j with
    | zero =>
      have := he.symm.trans hM.1
      injection this with this
      have e := congrArg Prod.fst this
      have e : cc = 13 := e
      subst e
      cases hc
    | succ j =>
      obtain ⟨k1, k2⟩ := oM_ex j (by omega)
      have := hM.2.1 _ k1
      rw [k2, he] at this
      cases this
theorem band_l {a t n : Nat} {f : Nat → Int32} (hM : RMo m rf w h) (he : ce h a = .inl (t, n, .inl f)) (hc : t = 1 ∨ t = 11) : a < m ∨ m + 33 ≤ a := by
  by_cases q : a < m ∨ m + 33 ≤ a
  · exact q
  · exfalso
    obtain ⟨j, rfl⟩ : ∃ j, a = m + j := ⟨a - m, by omega⟩
    cases j with
    | zero =>
      have := he.symm.trans hM.1
      cases this
    | succ j =>
      obtain ⟨k1, k2⟩ := oM_ex j (by omega)
      have := hM.2.1 _ k1
      rw [k2, he] at this
      injection this with this
      have e : t = if isZ (arM.getD j 0) = true then 2 else 0 := congrArg Prod.fst this
      split at e <;> omega
theorem RC.frM (hR : RC am b1 b2 S h) (hM : RMo (am.1 + 46) rf w h) (hF : FrM (am.1 + 46) h h') (hsp : ∀ a, aSp am a = none) : RC am b1 b2 S h' := by
  obtain ⟨own, v, cap, gr, fb, q1, ⟨z, t1, t2, t3, t4⟩, o1, o2, v1, v2, v3, hst, r1, r2, r3, r4, r5, r6, r7, hW⟩ := hR
  obtain ⟨f1, f2, f3, f4⟩ := hF
  have fe : ∀ a, (a < am.1 + 46 ∨ am.1 + 79 ≤ a) → ce h' a = ce h a := fun a ha => f4 a (by omega)
  refine ⟨own, v, cap, gr, fb, fun q hq => ?_, ⟨z, ?_, t2, ?_, t4⟩, o1, o2, ?_, v2, v3, fun i hi => ?_, ?_, ?_, ?_, ?_, r5, ?_, ?_, hW⟩
  · obtain ⟨c1, c2, c3, c4, c5⟩ := q1 q hq
    exact ⟨(fe _ c4).trans c1, c2, by rw [f1]; exact c3, c4, c5⟩
  · rw [fe _ (by omega)]; exact t1
  · rw [fe _ v2]; exact t3
  · rw [f1]; exact v1
  · obtain ⟨c, w2, j0, s1, s2, s8, s9, s3, s4, s5, cc, t, f, rest, u1, u2, u3, u4, u5⟩ := hst i hi
    have n1 := band_r hM u1 u2
    have n2 := band_l hM u3 u4
    exact ⟨c, w2, j0, s1, s2, s8, s9, s3, by rw [f1]; exact s4, by rw [f1]; exact s5, cc, t, f, rest, (fe _ (by omega)).trans u1, u2, (fe _ (by omega)).trans u3, u4, u5⟩
  · rw [f1]; exact r1
  · rw [f2]; exact r2
  · rw [f1]; exact r3
  · rw [f3]; exact r4
  · exact r6.fr f3 fun a ha => fe a (by omega)
  · intro a e he
    rw [hsp a] at he
    cases he
theorem KCs.fr {c : Nat} (hk : KCs rf c h) (h1 : h'.2.2.2 = h.2.2.2) (h2 : ∀ a, a < c → ce h' a = ce h a) : KCs rf c h' := by
  refine ⟨h1.trans hk.1, fun i hi => ?_⟩
  obtain ⟨a, v, f, e1, l1, l2, c1, c2, r⟩ := hk.2 i hi
  exact ⟨a, v, f, e1, l1, l2, by rw [h2 a l1]; exact c1, by rw [h2 v l2]; exact c2, r⟩
theorem KCs.up {c d : Nat} (hk : KCs rf c h) (hcd : c ≤ d) : KCs rf d h := by
  refine ⟨hk.1, fun i hi => ?_⟩
  obtain ⟨a, v, f, e1, l1, l2, r⟩ := hk.2 i hi
  exact ⟨a, v, f, e1, by omega, by omega, r⟩
theorem kg_5 {k : Int32 → Nat × Nat} {i : IM Int} (hi : K5 i) (hk : ∀ v, (k v).1 ≤ 2 ∧ (k v).2 ≤ 104) : KG k i := fun W v W' e => by
  obtain ⟨a1, a2⟩ := hi W v W' e
  have := hk (iI v)
  unfold cn
  rw [a1, a2]
  omega
theorem kg_x {k : Int32 → Nat × Nat} {i : IM Int} (hi : KX i) (hk : ∀ v, (k v).1 ≤ 17 ∧ (k v).2 ≤ 20707) (h9 : k (iI (-9)) = (0, 0)) : KG k i := fun W v W' e => by
  have hh := hk (iI v)
  rcases hi W v W' e with ⟨rfl, q⟩ | q
  · have q : cn W' = cn W := q
    rw [h9, q]
    simp only
    omega
  · have q : cn W < cn W' := q
    omega
theorem kB_le (v : Int32) : (kB v).1 ≤ 17 ∧ (kB v).2 ≤ 20707 := by
  unfold kB
  split
  · exact ⟨by decide, by decide⟩
  · exact ⟨Nat.le_refl _, Nat.le_refl _⟩
theorem kC_le (v : Int32) : (kC v).1 ≤ 17 ∧ (kC v).2 ≤ 20707 := by
  unfold kC
  split
  · exact ⟨by decide, by decide⟩
  · exact ⟨by decide, by decide⟩
theorem LwS.sc (hL : LwS x b L xs rf b1 b2 W h) : ce h b = .inl (10, L, .inl xs) := by
  obtain ⟨am, S, J, -, -, -, -, -, -, -, q, -⟩ := hL
  exact q
theorem st_call {k : Int32 → Nat × Nat} {X Y : Nat → MM Int32} {c : CM Int32} {g : JM Int} {n : NM Int32} {i : IM Int} (hX : ∀ am : AM, So am k (X am.1) c) (hg : Sj iI c g) (hY : Sm (x + 46) rf (Y (x + 46)) n) (hi : Si iI n i) (hp : ∀ {W : IS} {J : JS}, Inv W J → Sm2 i g W J) (hk : KG k i) (hL : LwS x b L xs rf b1 b2 W h) : ∃ (r : Int) (W' : IS) (h1 h2 : AH) (c1 c2 : Nat), X x h = some (iI r, h1) ∧ Y (x + 46) h1 = some (iI r, h2) ∧ (∃ fs, ce h x = .inr (12, fs)) ∧ (∃ fs, ce h1 (x + 46) = .inr (13, fs)) ∧ ce h1 b = .inl (10, L, .inl xs) ∧ LwS x b L xs rf (b1 + c1) (b2 + c2) W' h2 ∧ (cn W ≤ cn W' ∧ (c1 : Int) ≤ 17 * (cn W' - cn W) + 2 ∧ (c2 : Int) ≤ 20707 * (cn W' - cn W) + 104) := by
  obtain ⟨am, S, J, rfl, hsp, hR, hS, hM, hK, hI, hs, hb⟩ := hL
  have hp := hp hI
  unfold Sm2 at hp
  obtain ⟨r, W', ei, hp⟩ := wp_ex hp
  obtain ⟨r', J', eg, hr, hI'⟩ := wp_ex hp
  subst hr
  obtain ⟨S', ec, hS'⟩ := hg J r' J' eg S hS
  obtain ⟨am', h1, c1, c2, eX, ea, hR1, f1, k1, k2⟩ := hX am S (iI r') S' ec b1 b2 h hR
  have en := hi W r' W' ei
  have hM1 : RMo (am.1 + 46) rf (wI W) h1 := by
    refine ⟨?_, fun k hk => ?_, (hK.fr f1.2.1 fun a ha => f1.2.2 a (Or.inl ha)).up (by omega)⟩
    · rw [f1.2.2 _ (by omega)]
      exact hM.1
    · have := oM_in k hk
      rw [f1.2.2 _ (by omega)]
      exact hM.2.1 k hk
  obtain ⟨h2, eY, hM2, f2⟩ := hY (wI W) (iI r') (wI W') en h1 hM1
  have hR2 := hR1.noSp.frM (am := (am'.1, aRo am', aPl am', aBo am', aLe am', aCo am', aSt am', fun _ => none)) (rf := rf) (w := wI W) (h' := h2) (by show RMo (am'.1 + 46) rf (wI W) h1; rw [ea]; exact hM1) (by show FrM (am'.1 + 46) h1 h2; rw [ea]; exact f2) (fun _ => rfl)
  have hs1 : ce h1 b = .inl (10, L, .inl xs) := by rw [f1.2.2 b (Or.inl hb)]; exact hs
  have hc := hk W r' W' ei
  refine ⟨r', W', h1, h2, c1, c2, eX, eY, ⟨_, hR.at (q := (5, 0)) rfl⟩, ⟨_, hM1.1⟩, hs1, ⟨(am'.1, aRo am', aPl am', aBo am', aLe am', aCo am', aSt am', fun _ => none), S', J', ea, fun _ => rfl, hR2, hS', hM2, ?_, hI', ?_, hb⟩, hc.1, by omega, by omega⟩
  · exact (hK.fr f1.2.1 fun a ha => f1.2.2 a (Or.inl ha)).fr f2.2.2.1 fun a ha => f2.2.2.2 a (by omega)
  · rw [f2.2.2.2 b (by omega)]
    exact hs1
theorem r_aI {F : Int32 → MM Int32} {i : Int32} {j : Nat} (hs : ce h b = .inl (10, L, .inl xs)) (e : i = nI j) (hj : j < L) (hL : L ≤ 3072) : mb (aI (some b) i) F h = F (xs j) h := by
  subst e
  have hcl : (nI j).toNatClampNeg = j := nI_clamp (by omega)
  have hin : inb (nI j) L := by
    rintro (q | q)
    · exact nI_pos (by omega) q
    · rw [hcl] at q; omega
  have e1 : aI (some b) (nI j) h = some (xs j, h) := by
    unfold aI
    simp only [hs]
    rw [if_pos ⟨Or.inr trivial, hin⟩, hcl]
  rw [mb_s e1]
theorem r_cl {F : Int32 → MM Int32} {f : Nat → MM Int32} {ci t : Nat} {v : Int32} {h1 : AH} {fs : List Value} (hc : ce h t = .inr (ci, fs)) (hok : okc ci ci = true) (e : f t h = some (v, h1)) : mb (wc ci (some t) f) F h = F v h1 := by
  have e1 : wc ci (some t) f h = some (v, h1) := by
    unfold wc
    simp only [hc, hok]
    exact e
  rw [mb_s e1]
theorem nA_1 : nI p + (1 : Int32) = nI (p + 1) := by rw [nI_iI, show (1 : Int32) = iI 1 from rfl, iI_add, nI_iI]; rfl
theorem nA_2 : nI p + (2 : Int32) = nI (p + 2) := by rw [nI_iI, show (2 : Int32) = iI 2 from rfl, iI_add, nI_iI]; rfl
theorem nA_3 : nI p + (3 : Int32) = nI (p + 3) := by rw [nI_iI, show (3 : Int32) = iI 3 from rfl, iI_add, nI_iI]; rfl
theorem nA_4 : nI p + (4 : Int32) = nI (p + 4) := by rw [nI_iI, show (4 : Int32) = iI 4 from rfl, iI_add, nI_iI]; rfl
theorem nA_5 : nI p + (5 : Int32) = nI (p + 5) := by rw [nI_iI, show (5 : Int32) = iI 5 from rfl, iI_add, nI_iI]; rfl
theorem nA_6 : nI p + (6 : Int32) = nI (p + 6) := by rw [nI_iI, show (6 : Int32) = iI 6 from rfl, iI_add, nI_iI]; rfl
theorem r32 (z : Int32) : R32 z.toInt := ⟨Int32.le_toInt _, Int32.toInt_lt _⟩
end RUN
