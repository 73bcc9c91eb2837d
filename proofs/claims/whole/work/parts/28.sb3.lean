/-! ===== an int is appended; rows are filled; texts are compared ===== -/
section SB
variable {α β γ δ : Type} {am : AM} {x : MM β} {n : CM α} {g : α → β} {b1 b2 : Nat} {S : CS} {h : AH} {own : Nat → Nat × Nat} {v cap gr : Nat} {fb : Nat → Int32}
theorem ng_le {k : Nat} (hk : k < 100) (m : Nat) (hm : m < 1000) : (-(nI k) ≤ (-(nI m) : Int32)) ↔ m ≤ k := by
  rw [nI_iI, nI_iI, iI_neg, iI_neg, iI_le (by omega) (by omega) (by omega) (by omega)]
  omega
theorem ng_lt {k : Nat} (hk : k < 100) (m : Nat) (hm : m < 1000) : ((-(nI m) : Int32) < -(nI k)) ↔ k < m := by
  rw [nI_iI, nI_iI, iI_neg, iI_neg, iI_lt (by omega) (by omega) (by omega) (by omega)]
  omega
theorem dgs_len (k : Nat) : (dgs k).length = if k < 10 then 1 else 2 := by
  unfold dgs
  split <;> rfl
theorem st_size {k : Nat} (hk : k < 100) : J6_stringSize_0f7a4 (nI k) h = some (nI (dgs k).length, h) := by
  unfold J6_stringSize_0f7a4
  rw [if_neg (nI_pos (by omega))]
  unfold J6_stringSize_0f7a4_11
  show J6_stringSize_0f7a4_16_st (J6_stringSize_0f7a4_16 19999) _ _ _ _ h = _
  unfold J6_stringSize_0f7a4_16_st
  rw [if_neg (by decide), dgs_len]
  have h10 : (-(nI k) ≤ (-10 : Int32)) ↔ 10 ≤ k := ng_le hk 10 (by omega)
  by_cases h9 : k < 10
  · rw [if_neg (fun q => by have := h10.mp q; omega), if_pos h9]
    rfl
  · rw [if_pos (h10.mpr (by omega)), if_neg h9]
    show J6_stringSize_0f7a4_16_st (J6_stringSize_0f7a4_16 19998) _ _ _ _ h = _
    unfold J6_stringSize_0f7a4_16_st
    have h100 : (-(nI k) ≤ ((10 : Int32) * -10)) ↔ 100 ≤ k := ng_le hk 100 (by omega)
    rw [if_neg (by decide), if_neg (fun q => by have := h100.mp q; omega)]
    rfl
theorem nI_m1 (a : Nat) : nI (a + 1) + (-1 : Int32) = nI a := by
  rw [nI_iI, nI_iI, show (-1 : Int32) = iI (-1) from rfl, iI_add]
  exact congrArg iI (by omega)
/-- the digits are set -/
theorem gt_ch (hD : DGs am h) {k : Nat} (hk : k < 100) {len : Nat} (hl : len + (dgs k).length ≤ cap) (hc9 : cap ≤ 40000) (t3 : ce h v = .inl (1, cap, .inl fb)) (hv : am.1 ≤ v) : ∃ (G : Nat → Int32) (o : Nat), J6_getChars_ba4f3 (nI k) (nI (len + (dgs k).length)) (some v) h = some (nI o, hs h v (.inl (1, cap, .inl G))) ∧ (∀ j, j < len → G j = fb j) ∧ (∀ j, j < (dgs k).length → G (len + j) = sb_b ((dgs k).getD j 0)) ∧ ((∀ j, fb j = (fb j).toInt8.toInt32) → ∀ j, G j = (G j).toInt8.toInt32) := by
  obtain ⟨d1, d2, y1, y2, f1, f2, e1, e2, l1, l2, c1, c2, ty1, ty2, r⟩ := hD
  have hn : (-(-(nI k)) : Int32) = nI k := Int32.neg_neg
  have ht1 : y1 = 1 ∨ y1 = 2 ∨ y1 = 11 := by omega
  have ht2 : y2 = 1 ∨ y2 = 2 ∨ y2 = 11 := by omega
  have hcl : (nI k).toNatClampNeg = k := nI_clamp (by omega)
  have bb : ∀ c, c < 128 → vp_nar .byte (nI c) = sb_b c := fun c _ => rfl
  unfold J6_getChars_ba4f3
  rw [if_pos (nI_pos' (by omega))]
  unfold J6_getChars_ba4f3_12
  rw [if_pos rfl]
  have g100 : ((-100 : Int32) < -(nI k)) ↔ k < 100 := ng_lt hk 100 (by omega)
  have g9 : ((-9 : Int32) ≤ -(nI k)) ↔ k ≤ 9 := by
    rw [nI_iI, iI_neg, show (-9 : Int32) = iI (-9) from rfl, iI_le (by omega) (by omega) (by omega) (by omega)]
    omega
  have s0 : J6_getChars_ba4f3_22 LFU (-(nI k)) (some v) (nI (len + (dgs k).length)) 0 h = J6_getChars_ba4f3_72 (-(nI k)) (some v) (nI (len + (dgs k).length)) 0 h := by
    show J6_getChars_ba4f3_22_st (J6_getChars_ba4f3_22 19999) _ _ _ _ h = _
    unfold J6_getChars_ba4f3_22_st
    rw [if_pos (g100.mpr hk)]
  rw [s0]
  unfold J6_getChars_ba4f3_72
  rw [mb_s (v := some d1) (h1 := h) (by unfold kR; rw [e1]), hn]
  rw [mb_s (v := nI (48 + k % 10)) (h1 := h) (by
    unfold aB
    simp only [c1]
    rw [if_pos ⟨ht1, inb_nI hk (by omega)⟩, hcl, (r k hk).1])]
  by_cases h9 : k < 10
  · have hd : dgs k = [48 + k] := by unfold dgs; rw [if_pos h9]
    rw [hd] at hl ⊢
    have hl : len + 1 ≤ cap := hl
    rw [show len + [48 + k].length = len + 1 from rfl, nI_m1]
    have hx : (nI len).toNatClampNeg = len := nI_clamp (by omega)
    rw [mb_s (v := ()) (h1 := hs h v (.inl (1, cap, .inl (upd fb len (sb_b (48 + k)))))) (by
      unfold sB
      simp only [t3]
      rw [if_pos ⟨trivial, inb_nI (by omega) (by omega)⟩, hx, bb _ (by omega), Nat.mod_eq_of_lt h9])]
    rw [if_pos (g9.mpr (by omega))]
    unfold J6_getChars_ba4f3_104
    rw [if_pos rfl]
    refine ⟨_, len, rfl, fun j hj => by unfold upd; rw [if_neg (by omega)], fun j hj => ?_, fun hb j => ?_⟩
    · have hj0 : j = 0 := by simp at hj; exact hj
      subst hj0
      unfold upd
      rw [if_pos (by omega)]
      rfl
    · unfold upd
      split
      · exact (sb_b_bb _).symm
      · exact hb j
  · have hd : dgs k = [48 + k / 10, 48 + k % 10] := by unfold dgs; rw [if_neg h9]
    rw [hd] at hl ⊢
    have hl : len + 2 ≤ cap := hl
    rw [show len + [48 + k / 10, 48 + k % 10].length = (len + 1) + 1 from rfl, nI_m1]
    have hx : (nI len).toNatClampNeg = len := nI_clamp (by omega)
    have hx1 : (nI (len + 1)).toNatClampNeg = len + 1 := nI_clamp (by omega)
    rw [mb_s (v := ()) (h1 := hs h v (.inl (1, cap, .inl (upd fb (len + 1) (sb_b (48 + k % 10)))))) (by
      unfold sB
      simp only [t3]
      rw [if_pos ⟨trivial, inb_nI (by omega) (by omega)⟩, hx1, bb _ (by omega)])]
    rw [if_neg (fun q => by have := g9.mp q; omega)]
    have c2' : ce (hs h v (.inl (1, cap, .inl (upd fb (len + 1) (sb_b (48 + k % 10)))))) d2 = .inl (y2, 100, .inl f2) := by rw [ce_hs, if_neg (by omega)]; exact c2
    have t3' : ce (hs h v (.inl (1, cap, .inl (upd fb (len + 1) (sb_b (48 + k % 10)))))) v = .inl (1, cap, .inl (upd fb (len + 1) (sb_b (48 + k % 10)))) := by rw [ce_hs, if_pos rfl]
    rw [mb_s (v := some d2) (h1 := hs h v (.inl (1, cap, .inl (upd fb (len + 1) (sb_b (48 + k % 10)))))) (by unfold kR; show some (h.2.2.2 21, _) = _; rw [e2])]
    rw [mb_s (v := nI (48 + k / 10)) (h1 := hs h v (.inl (1, cap, .inl (upd fb (len + 1) (sb_b (48 + k % 10)))))) (by
      unfold aB
      simp only [c2']
      rw [if_pos ⟨ht2, inb_nI hk (by omega)⟩, hcl, (r k hk).2])]
    rw [nI_m1]
    rw [mb_s (v := ()) (h1 := hs h v (.inl (1, cap, .inl (upd (upd fb (len + 1) (sb_b (48 + k % 10))) len (sb_b (48 + k / 10)))))) (by
      unfold sB
      simp only [t3']
      rw [if_pos ⟨trivial, inb_nI (by omega) (by omega)⟩, hx, bb _ (by omega), hs_hs])]
    unfold J6_getChars_ba4f3_104
    rw [if_pos rfl]
    refine ⟨_, len, rfl, fun j hj => by unfold upd; rw [if_neg (by omega), if_neg (by omega)], fun j hj => ?_, fun hb j => ?_⟩
    · have hj2 : j = 0 ∨ j = 1 := by simp at hj; omega
      rcases hj2 with rfl | rfl
      · unfold upd
        rw [if_pos (by omega)]
        rfl
      · unfold upd
        rw [if_neg (by omega), if_pos (by omega)]
        rfl
    · unfold upd
      split
      · exact (sb_b_bb _).symm
      · split
        · exact (sb_b_bb _).symm
        · exact hb j
theorem wb_int (hR : RC am b1 b2 S h) {k : Nat} (hk : k < 100) (hl : (zx S).length + 2 ≤ 16384) : ∃ h', wc 1 (some (am.1 + 42)) (fun t => J4_append_bf812 t (nI k)) h = some (some (am.1 + 42), h') ∧ RC am b1 b2 (uxS S (zx S ++ dgs k)) h' ∧ FrC am h h' := by
  obtain ⟨own, v, cap, gr, fb, hR⟩ := hR
  have hd2 : (dgs k).length ≤ 2 := by rw [dgs_len]; split <;> omega
  have hd9 : ∀ j, j < (dgs k).length → (dgs k).getD j 0 < 256 := by
    have key : ∀ k, k < 100 → ∀ j, j < (dgs k).length → (dgs k).getD j 0 < 256 := by decide +kernel
    exact key k hk
  obtain ⟨h1, own1, v1, cap1, gr1, fb1, e1, hR1, f1, hc⟩ := wb_ens (n := (zx S).length + (dgs k).length) (by omega) hR
  have hT := hR.tx
  have hT1 := hR1.tx
  obtain ⟨hne, hv⟩ := hR1.hv
  obtain ⟨z, t1, -⟩ := id hT
  obtain ⟨z1, t11, t12, t13, t14, t15, t16, t17, t18, t19⟩ := id hT1
  have hD : DGs am h1 := by
    obtain ⟨-, -, -, -, -, -, -, -, -, -, -, -, -, r6, -⟩ := hR1
    exact r6
  have hva : am.1 ≤ v1 := by
    obtain ⟨-, -, -, -, -, -, q, -⟩ := hR1
    exact q
  obtain ⟨G, o, g1, g2, g3, g4⟩ := gt_ch hD hk hc t18 t13 hva
  have hc2 : ce (hs h1 v1 (.inl (1, cap1, .inl G))) (am.1 + 42) = .inr (1, [.ref v1, .int 0, .int z1, .int (nI (zx S).length)]) := by rw [ce_hs, if_neg hne]; exact t11
  obtain ⟨r, f2⟩ := RCb.app hR1 (s := dgs k) (G := G) t12 hc (by omega) (g4 t15) g2 (fun j hj => ⟨hd9 j hj, g3 j hj⟩) (h' := hs (hs h1 v1 (.inl (1, cap1, .inl G))) (am.1 + 42) (.inr (1, [.ref v1, .int 0, .int z1, .int (nI ((zx S).length + (dgs k).length))]))) (by rw [ce_hs, if_pos rfl]) (by rw [ce_hs, if_neg (Ne.symm hne), ce_hs, if_pos rfl]) (fun a a1 a2 => by rw [ce_hs, if_neg a1, ce_hs, if_neg a2]) ⟨rfl, rfl, rfl⟩
  refine ⟨_, ?_, r, f1.trans f2⟩
  rw [wc_sb hT]
  unfold J4_append_bf812
  have e9 : wc 1 (some (am.1 + 42)) (fun t => J5_append_c97b9 t (nI k)) h = some (some (am.1 + 42), hs (hs h1 v1 (.inl (1, cap1, .inl G))) (am.1 + 42) (.inr (1, [.ref v1, .int 0, .int z1, .int (nI ((zx S).length + (dgs k).length))]))) := by
    rw [wc_sb hT]
    unfold J5_append_c97b9
    rw [mb_s (v := nI (zx S).length) (h1 := h) (by simp [gI, gV, t1, okc])]
    rw [mb_s (st_size hk), nI_add]
    rw [mb_s (v := ()) (h1 := h1) (by rw [wc_sb hT]; exact e1)]
    rw [mb_s (wb_lat hT1), if_neg (by decide)]
    rw [mb_s (v := some v1) (h1 := h1) (by simp [gR, gV, t11, okc])]
    rw [mb_s g1]
    rw [mb_s (v := ()) (h1 := hs (hs h1 v1 (.inl (1, cap1, .inl G))) (am.1 + 42) (.inr (1, [.ref v1, .int 0, .int z1, .int (nI ((zx S).length + (dgs k).length))]))) (by unfold pI pV; simp only [hc2]; rfl)]
    rfl
  rw [mb_s e9]
  rfl
theorem sc_Xi {c : Int32} {F : Option Nat → MM β} {f : Unit → CM α} (h2 : Sc am g (F (some (am.1 + 42))) (f ())) : Sc am g (mb (wc 1 (some (am.1 + 42)) fun t => J4_append_bf812 t c) F) (cb (cXi c) f) :=
  sc_cal (k := fun _ => some (am.1 + 42)) (fun S u S' e b1 b2 h hR => by
    unfold cXi at e
    split at e
    · rename_i hq
      obtain ⟨hi, hl⟩ := hq
      obtain ⟨k, hk, rfl⟩ := inb_of hi
      cases e
      rw [nI_clamp (by omega)]
      obtain ⟨h', e1, r, f⟩ := wb_int hR hk hl
      exact ⟨h', e1, r, f⟩
    · cases e) (fun _ => h2)
/-- rows are filled -/
theorem fill_I {a L : Nat} {w : Int32} : ∀ (n j : Nat) (h : AH) (F : Nat → Int32), L < 20000 → j ≤ L → L - j < n → ce h a = .inl (0, L, .inl F) → J7_fill_53178_5 n (some a) w (nI j) (nI L) h = some ((), hs h a (.inl (0, L, .inl (fun k => if j ≤ k ∧ k < L then w else F k)))) := by
  intro n
  induction n with
  | zero => intro j h F _ _ hn _; omega
  | succ n ih =>
    intro j h F hL hj hn hc
    show J7_fill_53178_5_st (J7_fill_53178_5 n) _ _ _ _ h = _
    unfold J7_fill_53178_5_st
    by_cases hjl : j = L
    · subst hjl
      rw [if_pos (nI_le (Nat.le_refl _) (by omega))]
      have : (fun k => if j ≤ k ∧ k < j then w else F k) = F := funext fun k => if_neg (by omega)
      rw [this, hs_self h a _ hc]
      rfl
    · rw [if_neg (nI_ge (by omega) (by omega))]
      have hx : (nI j).toNatClampNeg = j := nI_clamp (by omega)
      rw [mb_s (v := ()) (h1 := hs h a (.inl (0, L, .inl (upd F j w)))) (by
        unfold sI
        simp only [hc]
        rw [if_pos ⟨trivial, inb_nI (by omega) (by omega)⟩, hx]), nI_1]
      rw [ih (j + 1) _ (upd F j w) hL (by omega) (by omega) (by rw [ce_hs, if_pos rfl]), hs_hs]
      have : (fun k => if j + 1 ≤ k ∧ k < L then w else upd F j w k) = fun k => if j ≤ k ∧ k < L then w else F k := funext fun k => by
        unfold upd
        split
        · rw [if_pos (by omega)]
        · split
          · rw [if_pos (by omega)]
          · rw [if_neg (by omega)]
      rw [this]
theorem fill_B {a L : Nat} {w : Int32} : ∀ (n j : Nat) (h : AH) (F : Nat → Int32), L < 20000 → j ≤ L → L - j < n → ce h a = .inl (1, L, .inl F) → J7_fill_031fb_5 n (some a) w (nI j) (nI L) h = some ((), hs h a (.inl (1, L, .inl (fun k => if j ≤ k ∧ k < L then vp_nar .byte w else F k)))) := by
  intro n
  induction n with
  | zero => intro j h F _ _ hn _; omega
  | succ n ih =>
    intro j h F hL hj hn hc
    show J7_fill_031fb_5_st (J7_fill_031fb_5 n) _ _ _ _ h = _
    unfold J7_fill_031fb_5_st
    by_cases hjl : j = L
    · subst hjl
      rw [if_pos (nI_le (Nat.le_refl _) (by omega))]
      have : (fun k => if j ≤ k ∧ k < j then vp_nar .byte w else F k) = F := funext fun k => if_neg (by omega)
      rw [this, hs_self h a _ hc]
      rfl
    · rw [if_neg (nI_ge (by omega) (by omega))]
      have hx : (nI j).toNatClampNeg = j := nI_clamp (by omega)
      rw [mb_s (v := ()) (h1 := hs h a (.inl (1, L, .inl (upd F j (vp_nar .byte w))))) (by
        unfold sB
        simp only [hc]
        rw [if_pos ⟨trivial, inb_nI (by omega) (by omega)⟩, hx]), nI_1]
      rw [ih (j + 1) _ (upd F j (vp_nar .byte w)) hL (by omega) (by omega) (by rw [ce_hs, if_pos rfl]), hs_hs]
      have : (fun k => if j + 1 ≤ k ∧ k < L then vp_nar .byte w else upd F j (vp_nar .byte w) k) = fun k => if j ≤ k ∧ k < L then vp_nar .byte w else F k := funext fun k => by
        unfold upd
        split
        · rw [if_pos (by omega)]
        · split
          · rw [if_pos (by omega)]
          · rw [if_neg (by omega)]
      rw [this]
theorem sc_fiI {t i : Nat} {w : Int32} {F : Unit → MM β} {f : Unit → CM α} (h2 : Sc am g (F ()) (f ())) : Sc am g (mb (J7_fill_53178 (some (aAr am t i)) w) F) (cb (cFi t i false w) f) :=
  sc_cal (k := id) (fun S u S' e b1 b2 h hR => by
    unfold cFi at e
    split at e
    · rename_i hq
      obtain ⟨hq, hb, hi⟩ := hq
      cases e
      have hc := hR.ar hq
      obtain ⟨r, f2⟩ := hR.putA hq (fun j => if j < zl S t i then (if false = true then vp_nar .byte w else w) else za S t i j)
      rw [hb] at hc r f2
      refine ⟨_, ?_, r, f2⟩
      unfold J7_fill_53178
      rw [mb_s (v := nI (zl S t i)) (h1 := h) (by unfold aN; simp only [hc]; rfl)]
      have hf := fill_I (w := w) LFU 0 h (za S t i) (by omega) (Nat.zero_le _) (by show zl S t i - 0 < 20000; omega) hc
      refine hf.trans ?_
      have : (fun k => if 0 ≤ k ∧ k < zl S t i then w else za S t i k) = (fun j => if j < zl S t i then (if false = true then vp_nar .byte w else w) else za S t i j) := funext fun k => by
        by_cases hk : k < zl S t i
        · rw [if_pos ⟨Nat.zero_le _, hk⟩, if_pos hk]; rfl
        · rw [if_neg (fun q => hk q.2), if_neg hk]
      rw [this]
      rfl
    · cases e) (fun _ => h2)
theorem sc_fiB {t i : Nat} {w : Int32} {F : Unit → MM β} {f : Unit → CM α} (h2 : Sc am g (F ()) (f ())) : Sc am g (mb (J7_fill_031fb (some (aAr am t i)) w) F) (cb (cFi t i true w) f) :=
  sc_cal (k := id) (fun S u S' e b1 b2 h hR => by
    unfold cFi at e
    split at e
    · rename_i hq
      obtain ⟨hq, hb, hi⟩ := hq
      cases e
      have hc := hR.ar hq
      obtain ⟨r, f2⟩ := hR.putA hq (fun j => if j < zl S t i then (if true = true then vp_nar .byte w else w) else za S t i j)
      rw [hb] at hc r f2
      refine ⟨_, ?_, r, f2⟩
      unfold J7_fill_031fb
      rw [mb_s (v := nI (zl S t i)) (h1 := h) (by unfold aN; simp only [hc]; rfl)]
      have hf := fill_B (w := w) LFU 0 h (za S t i) (by omega) (Nat.zero_le _) (by show zl S t i - 0 < 20000; omega) hc
      refine hf.trans ?_
      have : (fun k => if 0 ≤ k ∧ k < zl S t i then vp_nar .byte w else za S t i k) = (fun j => if j < zl S t i then (if true = true then vp_nar .byte w else w) else za S t i j) := funext fun k => by
        by_cases hk : k < zl S t i
        · rw [if_pos ⟨Nat.zero_le _, hk⟩, if_pos hk]; rfl
        · rw [if_neg (fun q => hk q.2), if_neg hk]
      rw [this]
      rfl
    · cases e) (fun _ => h2)
end SB
