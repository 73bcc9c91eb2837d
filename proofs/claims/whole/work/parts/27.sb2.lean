/-! ===== what is appended ===== -/
def cXl : CM Int32 := fun S => some (nI (zx S).length, S)
def cX0 : CM Unit := fun S => some ((), uxS S [])
def cXc (c : Int32) : CM Unit := fun S => if inb c 256 ∧ (zx S).length + 1 ≤ 16384 then some ((), uxS S (zx S ++ [c.toNatClampNeg])) else none
def cXs (i : Nat) : CM Unit := fun S => if i < zT S ∧ (zx S).length + (zt S i).length ≤ 16384 then some ((), uxS S (zx S ++ zt S i)) else none
def dgs (n : Nat) : List Nat := if n < 10 then [48 + n] else [48 + n / 10, 48 + n % 10]
def cXi (v : Int32) : CM Unit := fun S => if inb v 100 ∧ (zx S).length + 2 ≤ 16384 then some ((), uxS S (zx S ++ dgs v.toNatClampNeg)) else none
section SB
variable {α β γ δ : Type} {am : AM} {x : MM β} {n : CM α} {g : α → β} {b1 b2 : Nat} {S : CS} {h : AH} {own : Nat → Nat × Nat} {v cap gr : Nat} {fb : Nat → Int32}
theorem gD_l {s t : List Nat} {j : Nat} (h : j < s.length) : (s ++ t).getD j 0 = s.getD j 0 := by
  unfold List.getD
  rw [List.getElem?_append_left h]
theorem gD_r {s t : List Nat} {j : Nat} (h : s.length ≤ j) : (s ++ t).getD j 0 = t.getD (j - s.length) 0 := by
  unfold List.getD
  rw [List.getElem?_append_right h]
theorem nar_bb (x : Int32) : vp_nar .byte (x.toInt8.toInt32) = x.toInt8.toInt32 := by
  show (x.toInt8.toInt32).toInt8.toInt32 = _
  rw [Int8.toInt8_toInt32]
theorem sb_b_bb (c : Nat) : (sb_b c).toInt8.toInt32 = sb_b c := by
  unfold sb_b
  rw [Int8.toInt8_toInt32]
theorem wc_sb {β : Type} {F : Nat → MM β} {l : List Nat} (hT : RTx am l v cap gr fb h) : wc 1 (some (am.1 + 42)) F h = F (am.1 + 42) h := by
  obtain ⟨z, t1, -⟩ := hT
  unfold wc
  simp only [t1]
  exact if_pos (okc_self _)
theorem RCb.tx (hR : RCb am b1 b2 S h own v cap gr fb) : RTx am (zx S) v cap gr fb h := hR.2.1
theorem RCb.hv (hR : RCb am b1 b2 S h own v cap gr fb) : am.1 + 42 ≠ v ∧ v < h.1 := by
  obtain ⟨q1, hT, o1, o2, v1, -⟩ := hR
  refine ⟨fun e => ?_, v1⟩
  rw [← e, o1] at o2
  exact absurd (congrArg Prod.fst o2) (by decide)
/-- the end of each append: the row takes G, the length grows -/
theorem RCb.app (hR : RCb am b1 b2 S h own v cap gr fb) {s : List Nat} {G : Nat → Int32} {z : Int32} (hz : z = 0 ∨ z = 1) (h1 : (zx S).length + s.length ≤ cap) (h2 : (zx S).length + s.length ≤ 16384) (h3 : ∀ j, G j = (G j).toInt8.toInt32) (h4 : ∀ j, j < (zx S).length → G j = fb j) (h5 : ∀ j, j < s.length → s.getD j 0 < 256 ∧ G ((zx S).length + j) = sb_b (s.getD j 0)) {h' : AH} (e1 : ce h' (am.1 + 42) = .inr (1, [.ref v, .int 0, .int z, .int (nI ((zx S).length + s.length))])) (e2 : ce h' v = .inl (1, cap, .inl G)) (e3 : ∀ a, a ≠ am.1 + 42 → a ≠ v → ce h' a = ce h a) (e4 : h'.1 = h.1 ∧ h'.2.1 = h.2.1 ∧ h'.2.2.2 = h.2.2.2) : RC am b1 b2 (uxS S (zx S ++ s)) h' ∧ FrC am h h' := by
  have hR0 := hR
  obtain ⟨q1, hT, o1, o2, v1, v2, v3, hst, r1, r2, r3, r4, r5, r6, r7, r8⟩ := hR
  obtain ⟨z0, t1, t2, t3, t4, t5, t6, t7, t8, t9⟩ := hT
  obtain ⟨⟨own', r⟩, f⟩ := RCb.move (h' := h') (l' := zx S ++ s) (v' := v) (cap' := cap) (gr' := gr) (fb' := G) hR0 (fun a a1 a2 _ => e3 a a1 a2) ⟨z, by rw [List.length_append]; exact e1, hz, e2, by rw [List.length_append]; exact h1, h3, fun j hj => by
    rw [List.length_append] at hj
    by_cases hl : j < (zx S).length
    · rw [gD_l hl, h4 j hl]; exact t6 j hl
    · rw [gD_r (by omega)]
      have := h5 (j - (zx S).length) (by omega)
      rw [show (zx S).length + (j - (zx S).length) = j by omega] at this
      exact this, by rw [List.length_append]; exact h2, t8, t9⟩ (Or.inl rfl) (by omega) (by omega) (by omega) e4.2.2
  exact ⟨⟨own', v, cap, gr, G, r⟩, f⟩
theorem wb_len (hR : RCb am b1 b2 S h own v cap gr fb) : wc 1 (some (am.1 + 42)) (fun t => J4_length_8abf5 t) h = some (nI (zx S).length, h) := by
  have hT := hR.tx
  rw [wc_sb hT]
  obtain ⟨z, t1, -⟩ := id hT
  unfold J4_length_8abf5
  rw [mb_s (v := nI (zx S).length) (h1 := h) (by rw [wc_sb hT]; unfold J5_length_8abf5; rw [mb_s (v := nI (zx S).length) (h1 := h) (by simp [gI, gV, t1, okc])]; rfl)]
  rfl
theorem wb_lat (hT : RTx am (zx S) v cap gr fb h) : wc 1 (some (am.1 + 42)) (fun t => J5_isLatin1_aae02 t) h = some (1, h) := by
  rw [wc_sb hT]
  obtain ⟨z, t1, -⟩ := hT
  unfold J5_isLatin1_aae02
  rw [if_neg (by decide)]
  rw [mb_s (v := (0 : Int32)) (h1 := h) (by simp [gI, gV, t1, okc])]
  rfl
theorem wb_chr (hR : RC am b1 b2 S h) {k : Nat} (hk : k < 256) (hl : (zx S).length + 1 ≤ 16384) : ∃ h', wc 1 (some (am.1 + 42)) (fun t => J4_append_cf468 t (nI k)) h = some (some (am.1 + 42), h') ∧ RC am b1 b2 (uxS S (zx S ++ [k])) h' ∧ FrC am h h' := by
  obtain ⟨own, v, cap, gr, fb, hR⟩ := hR
  obtain ⟨h1, own1, v1, cap1, gr1, fb1, e1, hR1, f1, hc⟩ := wb_ens hl hR
  have hT := hR.tx
  have hT1 := hR1.tx
  obtain ⟨hne, hv⟩ := hR1.hv
  obtain ⟨z, t1, -⟩ := id hT
  obtain ⟨z1, t11, t12, t13, t14, t15, t16, t17, t18, t19⟩ := id hT1
  have hs1 : ce (hs h1 (am.1 + 42) (.inr (1, [.ref v1, .int 0, .int z1, .int (nI ((zx S).length + 1))]))) v1 = .inl (1, cap1, .inl fb1) := by rw [ce_hs, if_neg (Ne.symm hne)]; exact t13
  have hx : (nI (zx S).length).toNatClampNeg = (zx S).length := nI_clamp (by omega)
  obtain ⟨r, f2⟩ := RCb.app hR1 (s := [k]) (G := upd fb1 (zx S).length (sb_b k)) t12 hc hl (fun j => by
      unfold upd
      split
      · exact (sb_b_bb k).symm
      · exact t15 j) (fun j hj => by unfold upd; rw [if_neg (by omega)]) (fun j hj => by
      have hj0 : j = 0 := by simp at hj; exact hj
      subst hj0
      exact ⟨hk, by unfold upd; rw [if_pos (by omega)]; rfl⟩) (h' := hs (hs h1 (am.1 + 42) (.inr (1, [.ref v1, .int 0, .int z1, .int (nI ((zx S).length + 1))]))) v1 (.inl (1, cap1, .inl (upd fb1 (zx S).length (sb_b k))))) (by rw [ce_hs, if_neg hne, ce_hs, if_pos rfl]; rfl) (by rw [ce_hs, if_pos rfl]) (fun a a1 a2 => by rw [ce_hs, if_neg a2, ce_hs, if_neg a1]) ⟨rfl, rfl, rfl⟩
  refine ⟨_, ?_, r, f1.trans f2⟩
  rw [wc_sb hT]
  unfold J4_append_cf468
  have e9 : wc 1 (some (am.1 + 42)) (fun t => J5_append_3fe6f t (nI k)) h = some (some (am.1 + 42), hs (hs h1 (am.1 + 42) (.inr (1, [.ref v1, .int 0, .int z1, .int (nI ((zx S).length + 1))]))) v1 (.inl (1, cap1, .inl (upd fb1 (zx S).length (sb_b k))))) := by
    rw [wc_sb hT]
    unfold J5_append_3fe6f
    rw [mb_s (v := nI (zx S).length) (h1 := h) (by simp [gI, gV, t1, okc]), nI_1]
    rw [mb_s (v := ()) (h1 := h1) (by rw [wc_sb hT]; exact e1)]
    rw [mb_s (wb_lat hT1), if_neg (by decide)]
    rw [mb_s (v := (1 : Int32)) (h1 := h1) (by
      unfold J1_canEncode_fc78d
      have b2 : ¬ (255 : Int32) < nI k := nI_nlt (a := 255) (by omega) (by omega)
      rw [if_neg b2]; rfl), if_neg (by decide)]
    rw [mb_s (v := some v1) (h1 := h1) (by simp [gR, gV, t11, okc])]
    rw [mb_s (v := nI (zx S).length) (h1 := h1) (by simp [gI, gV, t11, okc]), nI_1]
    rw [mb_s (v := ()) (h1 := hs h1 (am.1 + 42) (.inr (1, [.ref v1, .int 0, .int z1, .int (nI ((zx S).length + 1))]))) (by unfold pI pV; simp only [t11]; rfl)]
    rw [mb_s (v := ()) (h1 := hs (hs h1 (am.1 + 42) (.inr (1, [.ref v1, .int 0, .int z1, .int (nI ((zx S).length + 1))]))) v1 (.inl (1, cap1, .inl (upd fb1 (zx S).length (sb_b k))))) (by
      unfold sB
      simp only [hs1]
      rw [if_pos ⟨trivial, inb_nI (by omega) (by omega)⟩, nar_bb, hx]
      rfl)]
    rfl
  rw [mb_s e9]
  rfl
theorem sc_Xc {c : Int32} {F : Option Nat → MM β} {f : Unit → CM α} (h2 : Sc am g (F (some (am.1 + 42))) (f ())) : Sc am g (mb (wc 1 (some (am.1 + 42)) fun t => J4_append_cf468 t c) F) (cb (cXc c) f) :=
  sc_cal (k := fun _ => some (am.1 + 42)) (fun S u S' e b1 b2 h hR => by
    unfold cXc at e
    split at e
    · rename_i hq
      obtain ⟨hi, hl⟩ := hq
      obtain ⟨k, hk, rfl⟩ := inb_of hi
      cases e
      rw [nI_clamp (by omega)]
      obtain ⟨h', e1, r, f⟩ := wb_chr hR hk hl
      exact ⟨h', e1, r, f⟩
    · cases e) (fun _ => h2)
theorem sc_Xl {F : Int32 → MM β} {f : Int32 → CM α} (h2 : ∀ v, Sc am g (F v) (f v)) : Sc am g (mb (wc 1 (some (am.1 + 42)) fun t => J4_length_8abf5 t) F) (cb cXl f) :=
  sc_rd (k := id) (fun S v S' e => by
    cases e
    refine ⟨rfl, fun b1 b2 h hR => ?_⟩
    obtain ⟨own, v, cap, gr, fb, hR⟩ := hR
    exact wb_len hR) h2
theorem str_len {a : Nat} {l : List Nat} (hs : Str h a l) : l.length < 2 ^ 30 := by
  obtain ⟨_, _, _, _, _, _, _, _, _, _, q⟩ := hs
  exact q
theorem wb_str (hR : RC am b1 b2 S h) {i : Nat} (hi : i < zT S) (hl : (zx S).length + (zt S i).length ≤ 16384) : ∃ h', wc 1 (some (am.1 + 42)) (fun t => J4_append_15ec4 t (some (aSt am i))) h = some (some (am.1 + 42), h') ∧ RC am b1 b2 (uxS S (zx S ++ zt S i)) h' ∧ FrC am h h' := by
  have hs0 := hR.str hi
  obtain ⟨own, v, cap, gr, fb, hR⟩ := hR
  obtain ⟨h1, own1, v1, cap1, gr1, fb1, e1, hR1, f1, hc⟩ := wb_ens hl hR
  have hs1 : Str h1 (aSt am i) (zt S i) := RC.str ⟨own1, v1, cap1, gr1, fb1, hR1⟩ hi
  have hT := hR.tx
  have hT1 := hR1.tx
  obtain ⟨hne, hv⟩ := hR1.hv
  obtain ⟨z, t1, -⟩ := id hT
  obtain ⟨z1, t11, t12, t13, t14, t15, t16, t17, t18, t19⟩ := id hT1
  obtain ⟨cc, w, t, f, rest, u1, u2, u3, u4, u5, u6⟩ := id hs1
  have hx : (nI (zx S).length).toNatClampNeg = (zx S).length := nI_clamp (by omega)
  have hx2 : (nI (zt S i).length).toNatClampNeg = (zt S i).length := nI_clamp (by omega)
  have hc2 : ce (hs h1 v1 (.inl (1, cap1, .inl (va_cpy f fb1 0 (zx S).length (zt S i).length)))) (am.1 + 42) = .inr (1, [.ref v1, .int 0, .int z1, .int (nI (zx S).length)]) := by rw [ce_hs, if_neg hne]; exact t11
  obtain ⟨r, f2⟩ := RCb.app hR1 (s := zt S i) (G := va_cpy f fb1 0 (zx S).length (zt S i).length) t12 hc hl (fun j => by
      by_cases hj : (zx S).length ≤ j ∧ j < (zx S).length + (zt S i).length
      · rw [cpy_in _ _ _ _ _ hj.1 hj.2, (u5 (j - (zx S).length) (by omega)).2]
        exact (sb_b_bb _).symm
      · rw [cpy_out _ _ _ _ _ hj]
        exact t15 j) (fun j hj => cpy_out _ _ _ _ _ (by omega)) (fun j hj => by
      rw [cpy_in _ _ _ _ _ (by omega) (by omega), Nat.add_sub_cancel_left]
      exact u5 j hj) (h' := hs (hs h1 v1 (.inl (1, cap1, .inl (va_cpy f fb1 0 (zx S).length (zt S i).length)))) (am.1 + 42) (.inr (1, [.ref v1, .int 0, .int z1, .int (nI ((zx S).length + (zt S i).length))]))) (by rw [ce_hs, if_pos rfl]) (by rw [ce_hs, if_neg (Ne.symm hne), ce_hs, if_pos rfl]) (fun a a1 a2 => by rw [ce_hs, if_neg a1, ce_hs, if_neg a2]) ⟨rfl, rfl, rfl⟩
  refine ⟨_, ?_, r, f1.trans f2⟩
  rw [wc_sb hT]
  unfold J4_append_15ec4
  have e7 : wc 0 (some (aSt am i)) (fun t => J0_getBytes_840e7 t (some v1) (nI (zx S).length) 0) h1 = some ((), hs h1 v1 (.inl (1, cap1, .inl (va_cpy f fb1 0 (zx S).length (zt S i).length)))) := by
    rw [wc_str hs1]
    unfold J0_getBytes_840e7
    rw [mb_s (v := (0 : Int32)) (h1 := h1) (by rw [wc_str hs1]; exact str_coder hs1), if_pos rfl]
    rw [mb_s (v := some w) (h1 := h1) (by simp [gR, gV, u1, u2])]
    rw [mb_s (v := some w) (h1 := h1) (by simp [gR, gV, u1, u2])]
    rw [mb_s (v := nI (zt S i).length) (h1 := h1) (aN_at u3 u4), shl0]
    have e2 : cpy (some w) 0 (some v1) (nI (zx S).length) (nI (zt S i).length) h1 = some ((), hs h1 v1 (.inl (1, cap1, .inl (va_cpy f fb1 0 (zx S).length (zt S i).length)))) := by
      unfold cpy
      simp only [u3, t13, hx2, hx]
      rw [if_pos]
      · rfl
      · refine ⟨?_, by decide, nI_pos (by omega), nI_pos (by omega), by show 0 + (zt S i).length ≤ _; omega, by omega⟩
        rcases u4 with e | e
        · refine Or.inr (Or.inl ⟨e, trivial, fun j hj => ?_⟩)
          have : f ((0 : Int32).toNatClampNeg + j) = sb_b ((zt S i).getD j 0) := by
            rw [show (0 : Int32).toNatClampNeg + j = j from Nat.zero_add j]
            exact (u5 j hj).2
          rw [this]
          exact sb_b_bb _
        · exact Or.inr (Or.inr ⟨e, trivial⟩)
    rw [mb_s e2]
    rfl
  have e8 : wc 1 (some (am.1 + 42)) (fun t => J5_putStringAt_47b60 t (nI (zx S).length) (some (aSt am i))) h1 = some ((), hs h1 v1 (.inl (1, cap1, .inl (va_cpy f fb1 0 (zx S).length (zt S i).length)))) := by
    rw [wc_sb hT1]
    unfold J5_putStringAt_47b60
    rw [mb_s (v := ()) (h1 := h1) (by
      rw [wc_sb hT1]
      unfold J5_inflateIfNeededFor_a7421
      rw [if_neg (by decide)]
      rw [mb_s (v := (0 : Int32)) (h1 := h1) (by simp [gI, gV, t11, okc])]
      rw [mb_s (v := (0 : Int32)) (h1 := h1) (by rw [wc_str hs1]; exact str_coder hs1), if_pos rfl]
      rfl)]
    rw [mb_s (v := some v1) (h1 := h1) (by simp [gR, gV, t11, okc])]
    rw [mb_s (v := (0 : Int32)) (h1 := h1) (by simp [gI, gV, t11, okc])]
    rw [mb_s e7]
    rfl
  have e9 : wc 1 (some (am.1 + 42)) (fun t => J5_append_cf1ce t (some (aSt am i))) h = some (some (am.1 + 42), hs (hs h1 v1 (.inl (1, cap1, .inl (va_cpy f fb1 0 (zx S).length (zt S i).length)))) (am.1 + 42) (.inr (1, [.ref v1, .int 0, .int z1, .int (nI ((zx S).length + (zt S i).length))]))) := by
    rw [wc_sb hT]
    unfold J5_append_cf1ce
    rw [if_neg (by intro q; cases q)]
    rw [mb_s (v := nI (zt S i).length) (h1 := h) (by rw [wc_str hs0]; exact str_length hs0)]
    rw [mb_s (v := nI (zx S).length) (h1 := h) (by simp [gI, gV, t1, okc]), nI_add]
    rw [mb_s (v := ()) (h1 := h1) (by rw [wc_sb hT]; exact e1)]
    rw [mb_s (v := nI (zx S).length) (h1 := h1) (by simp [gI, gV, t11, okc])]
    rw [mb_s e8]
    rw [mb_s (v := nI (zx S).length) (h1 := hs h1 v1 (.inl (1, cap1, .inl (va_cpy f fb1 0 (zx S).length (zt S i).length)))) (by simp [gI, gV, hc2, okc]), nI_add]
    rw [mb_s (v := ()) (h1 := hs (hs h1 v1 (.inl (1, cap1, .inl (va_cpy f fb1 0 (zx S).length (zt S i).length)))) (am.1 + 42) (.inr (1, [.ref v1, .int 0, .int z1, .int (nI ((zx S).length + (zt S i).length))]))) (by unfold pI pV; simp only [hc2]; rfl)]
    rfl
  rw [mb_s e9]
  rfl
theorem sc_Xs {i : Nat} {F : Option Nat → MM β} {f : Unit → CM α} (h2 : Sc am g (F (some (am.1 + 42))) (f ())) : Sc am g (mb (wc 1 (some (am.1 + 42)) fun t => J4_append_15ec4 t (some (aSt am i))) F) (cb (cXs i) f) :=
  sc_cal (k := fun _ => some (am.1 + 42)) (fun S u S' e b1 b2 h hR => by
    unfold cXs at e
    split at e
    · rename_i hq
      cases e
      obtain ⟨h', e1, r, f⟩ := wb_str hR hq.1 hq.2
      exact ⟨h', e1, r, f⟩
    · cases e) (fun _ => h2)
theorem wb_zero (hR : RC am b1 b2 S h) : ∃ h', wc 1 (some (am.1 + 42)) (fun t => J4_setLength_d00df t (0 : Int32)) h = some ((), h') ∧ RC am b1 b2 (uxS S []) h' ∧ FrC am h h' := by
  obtain ⟨own, v, cap, gr, fb, hR⟩ := hR
  obtain ⟨h1, own1, v1, cap1, gr1, fb1, e1, hR1, f1, hc⟩ := wb_ens (n := 0) (by omega) hR
  have hT := hR.tx
  have hT1 := hR1.tx
  obtain ⟨hne, hv⟩ := hR1.hv
  obtain ⟨z1, t11, t12, t13, t14, t15, t16, t17, t18, t19⟩ := id hT1
  have key : ∀ (h' : AH) (z : Int32), (z = 0 ∨ z = 1) → ce h' (am.1 + 42) = .inr (1, [.ref v1, .int 0, .int z, .int 0]) → (∀ a, a ≠ am.1 + 42 → ce h' a = ce h1 a) → (h'.1 = h1.1 ∧ h'.2.1 = h1.2.1 ∧ h'.2.2.2 = h1.2.2.2) → RC am b1 b2 (uxS S []) h' ∧ FrC am h1 h' := by
    intro h' z hz c1 c2 c3
    have r2 := hR1
    obtain ⟨-, -, -, -, -, -, -, -, r1, r2, -⟩ := r2
    have hT9 : RTx am [] v1 cap1 gr1 fb1 h' := ⟨z, c1, hz, by rw [c2 _ (Ne.symm hne)]; exact t13, Nat.zero_le _, t15, fun j hj => absurd hj (Nat.not_lt_zero _), Nat.zero_le _, t18, t19⟩
    obtain ⟨⟨own', r⟩, f⟩ := RCb.move (h' := h') (l' := []) (v' := v1) (cap' := cap1) (gr' := gr1) (fb' := fb1) hR1 (fun a a1 a2 _ => c2 a a1) hT9 (Or.inl rfl) (by omega) (by omega) (by omega) c3.2.2
    exact ⟨⟨own', v1, cap1, gr1, fb1, r⟩, f⟩
  by_cases hz : (zx S).length = 0
  · obtain ⟨r, f2⟩ := key (hs h1 (am.1 + 42) (.inr (1, [.ref v1, .int 0, .int z1, .int 0]))) z1 t12 (by rw [ce_hs, if_pos rfl]) (fun a a1 => by rw [ce_hs, if_neg a1]) ⟨rfl, rfl, rfl⟩
    refine ⟨_, ?_, r, f1.trans f2⟩
    rw [wc_sb hT]
    unfold J4_setLength_d00df
    have e9 : wc 1 (some (am.1 + 42)) (fun t => J5_setLength_d00df t (0 : Int32)) h = some ((), hs h1 (am.1 + 42) (.inr (1, [.ref v1, .int 0, .int z1, .int 0]))) := by
      rw [wc_sb hT]
      unfold J5_setLength_d00df
      rw [if_pos (by decide)]
      rw [mb_s (v := ()) (h1 := h1) (by rw [wc_sb hT]; exact e1)]
      rw [mb_s (v := nI (zx S).length) (h1 := h1) (by simp [gI, gV, t11, okc]), if_pos (nI_pos' (by omega))]
      rw [mb_s (v := nI (zx S).length) (h1 := h1) (by simp [gI, gV, t11, okc]), if_pos (by rw [hz]; decide)]
      rw [mb_s (v := ()) (h1 := hs h1 (am.1 + 42) (.inr (1, [.ref v1, .int 0, .int z1, .int 0]))) (by unfold pI pV; simp only [t11]; rfl)]
      rfl
    rw [mb_s e9]
    rfl
  · obtain ⟨r, f2⟩ := key (hs (hs h1 (am.1 + 42) (.inr (1, [.ref v1, .int 0, .int 1, .int (nI (zx S).length)]))) (am.1 + 42) (.inr (1, [.ref v1, .int 0, .int 1, .int 0]))) 1 (Or.inr rfl) (by rw [ce_hs, if_pos rfl]) (fun a a1 => by rw [ce_hs, if_neg a1, ce_hs, if_neg a1]) ⟨rfl, rfl, rfl⟩
    refine ⟨_, ?_, r, f1.trans f2⟩
    rw [wc_sb hT]
    unfold J4_setLength_d00df
    have c9 : ce (hs h1 (am.1 + 42) (.inr (1, [.ref v1, .int 0, .int 1, .int (nI (zx S).length)]))) (am.1 + 42) = .inr (1, [.ref v1, .int 0, .int 1, .int (nI (zx S).length)]) := by rw [ce_hs, if_pos rfl]
    have e9 : wc 1 (some (am.1 + 42)) (fun t => J5_setLength_d00df t (0 : Int32)) h = some ((), hs (hs h1 (am.1 + 42) (.inr (1, [.ref v1, .int 0, .int 1, .int (nI (zx S).length)]))) (am.1 + 42) (.inr (1, [.ref v1, .int 0, .int 1, .int 0]))) := by
      rw [wc_sb hT]
      unfold J5_setLength_d00df
      rw [if_pos (by decide)]
      rw [mb_s (v := ()) (h1 := h1) (by rw [wc_sb hT]; exact e1)]
      rw [mb_s (v := nI (zx S).length) (h1 := h1) (by simp [gI, gV, t11, okc]), if_pos (nI_pos' (by omega))]
      rw [mb_s (v := nI (zx S).length) (h1 := h1) (by simp [gI, gV, t11, okc])]
      have b9 : ¬ nI (zx S).length ≤ (0 : Int32) := nI_ge (a := 0) (by omega) (by omega)
      rw [if_neg b9]
      rw [mb_s (v := ()) (h1 := hs h1 (am.1 + 42) (.inr (1, [.ref v1, .int 0, .int 1, .int (nI (zx S).length)]))) (by unfold pZ; rw [if_pos (Or.inr rfl)]; unfold pV; simp only [t11]; rfl)]
      rw [mb_s (v := ()) (h1 := hs (hs h1 (am.1 + 42) (.inr (1, [.ref v1, .int 0, .int 1, .int (nI (zx S).length)]))) (am.1 + 42) (.inr (1, [.ref v1, .int 0, .int 1, .int 0]))) (by unfold pI pV; simp only [c9]; rfl)]
      rfl
    rw [mb_s e9]
    rfl
theorem sc_X0 {F : Unit → MM β} {f : Unit → CM α} (h2 : Sc am g (F ()) (f ())) : Sc am g (mb (wc 1 (some (am.1 + 42)) fun t => J4_setLength_d00df t (0 : Int32)) F) (cb cX0 f) :=
  sc_cal (k := id) (fun S u S' e b1 b2 h hR => by
    cases e
    obtain ⟨h', e1, r, f⟩ := wb_zero hR
    exact ⟨h', e1, r, f⟩) (fun _ => h2)
end SB
