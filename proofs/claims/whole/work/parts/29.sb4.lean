/-! ===== texts are compared ===== -/
def cSq (i j : Nat) : CM Int32 := fun S => if i < zT S ∧ j < zT S ∧ (zt S i).length < 19999 ∧ (zt S j).length < 19999 then some (if zt S i = zt S j then 1 else 0, S) else none
section SQ
variable {α β γ δ : Type} {am : AM} {x : MM β} {n : CM α} {g : α → β} {b1 b2 : Nat} {S : CS} {h : AH}
theorem gD_ext {l l2 : List Nat} (h1 : l.length = l2.length) (h2 : ∀ j, j < l.length → l.getD j 0 = l2.getD j 0) : l = l2 :=
  List.ext_getElem h1 (fun j a b => by have := h2 j a; simpa [List.getD, a, b] using this)
theorem eq_loop {l l2 : List Nat} {v v2 t t2 : Nat} {f f2 : Nat → Int32} (hl : l.length = l2.length) (hl9 : l.length < 20000) (c1 : ce h v = .inl (t, l.length, .inl f)) (c2 : ce h v2 = .inl (t2, l2.length, .inl f2)) (ht : t = 1 ∨ t = 11) (ht2 : t2 = 1 ∨ t2 = 11) (h5 : ∀ j, j < l.length → l.getD j 0 < 256 ∧ f j = sb_b (l.getD j 0)) (h6 : ∀ j, j < l2.length → l2.getD j 0 < 256 ∧ f2 j = sb_b (l2.getD j 0)) : ∀ (n i : Nat), i ≤ l.length → l.length - i < n → (∀ j, j < i → l.getD j 0 = l2.getD j 0) → J1_equals_b5fdf_9 n (some v) (some v2) (nI i) h = some (if l = l2 then 1 else 0, h) := by
  intro n
  induction n with
  | zero => intro i _ hn _; omega
  | succ n ih =>
    intro i hi hn he
    show J1_equals_b5fdf_9_st (J1_equals_b5fdf_9 n) _ _ _ h = _
    unfold J1_equals_b5fdf_9_st
    have y1 : t = 1 ∨ t = 2 ∨ t = 11 := by omega
    have y2 : t2 = 1 ∨ t2 = 2 ∨ t2 = 11 := by omega
    rw [mb_s (v := nI l.length) (h1 := h) (aN_at c1 ht)]
    by_cases hil : i = l.length
    · subst hil
      rw [if_pos (nI_le (Nat.le_refl _) (by omega)), if_pos (gD_ext hl he)]
      rfl
    · rw [if_neg (nI_ge (by omega) (by omega))]
      have hx : (nI i).toNatClampNeg = i := nI_clamp (by omega)
      have q1 := h5 i (by omega)
      have q2 := h6 i (by omega)
      rw [mb_s (v := sb_b (l.getD i 0)) (h1 := h) (by
        unfold aB
        simp only [c1]
        rw [if_pos ⟨y1, inb_nI (by omega) (by omega)⟩, hx, q1.2])]
      rw [mb_s (v := sb_b (l2.getD i 0)) (h1 := h) (by
        unfold aB
        simp only [c2]
        rw [if_pos ⟨y2, inb_nI (by omega) (by omega)⟩, hx, q2.2])]
      by_cases hc : l.getD i 0 = l2.getD i 0
      · rw [if_pos (by rw [hc]), nI_1]
        exact ih (i + 1) (by omega) (by omega) (fun j hj => by
          by_cases hji : j = i
          · rw [hji]; exact hc
          · exact he j (by omega))
      · rw [if_neg (fun q => hc (sb_inj q1.1 q2.1 q)), if_neg (fun q => hc (by rw [q]))]
        rfl
theorem str_eq {a b : Nat} {l l2 : List Nat} (hs : Str h a l) (hs2 : Str h b l2) (hab : a = b → l = l2) (hl9 : l.length < 20000) (hl29 : l2.length < 20000) : J0_equals_9ea2d a (some b) h = some (if l = l2 then 1 else 0, h) := by
  unfold J0_equals_9ea2d
  by_cases hq : a = b
  · rw [if_pos (by rw [hq]), if_pos (hab hq)]
    rfl
  · rw [if_neg (fun q => hq (Option.some.inj q))]
    have hO : isO 0 (some b) h = some ((), h) := by
      unfold isO
      rw [wc_str hs2]
      rfl
    rw [mb_s hO, if_neg (by decide), mb_s hO, if_neg (by decide)]
    obtain ⟨c, v, t, f, rest, h1, h2, h3, h4, h5, h6⟩ := hs
    obtain ⟨c', v', t', f', rest', h1', h2', h3', h4', h5', h6'⟩ := hs2
    rw [mb_s (v := (0 : Int32)) (h1 := h) (by simp [gI, gV, h1, h2])]
    rw [mb_s (v := (0 : Int32)) (h1 := h) (by simp [gI, gV, h1', h2']), if_pos rfl]
    unfold J0_equals_9ea2d_36
    rw [mb_s (v := some v) (h1 := h) (by simp [gR, gV, h1, h2])]
    rw [mb_s (v := some v') (h1 := h) (by simp [gR, gV, h1', h2'])]
    have e1 : J1_equals_b5fdf (some v) (some v') h = some (if l = l2 then 1 else 0, h) := by
      unfold J1_equals_b5fdf
      rw [mb_s (v := nI l.length) (h1 := h) (aN_at h3 h4)]
      rw [mb_s (v := nI l2.length) (h1 := h) (aN_at h3' h4')]
      by_cases hl : l.length = l2.length
      · rw [if_pos (by rw [hl])]
        exact eq_loop hl hl9 h3 h3' h4 h4' h5 h5' LFU 0 (Nat.zero_le _) (by show l.length - 0 < 20000; omega) (fun j hj => absurd hj (Nat.not_lt_zero _))
      · rw [if_neg (fun q => hl ((nI_eq (by omega) (by omega)).mp q)), if_neg (fun q => hl (by rw [q]))]
        rfl
    rw [mb_s e1]
    by_cases hll : l = l2
    · rw [if_pos hll, if_neg (by decide)]; rfl
    · rw [if_neg hll, if_pos rfl]; rfl
theorem sc_cSq {i j : Nat} {F : Int32 → MM β} {f : Int32 → CM α} (h2 : ∀ v, Sc am g (F v) (f v)) : Sc am g (mb (wc 0 (some (aSt am i)) fun t => J0_equals_9ea2d t (some (aSt am j))) F) (cb (cSq i j) f) :=
  sc_rd (k := id) (fun S v S' e => by
    unfold cSq at e
    split at e
    · rename_i hi
      obtain ⟨hi, hj, l1, l2⟩ := hi
      cases e
      refine ⟨rfl, fun b1 b2 h hR => ?_⟩
      have hs := hR.str hi
      have hs2 := hR.str hj
      rw [wc_str hs]
      refine str_eq hs hs2 (fun q => ?_) (by omega) (by omega)
      obtain ⟨own, v, cap, gr, fb, -, -, -, -, -, -, -, hst, -⟩ := hR
      obtain ⟨c, w, j0, s1, -, -, s9, -⟩ := hst i hi
      obtain ⟨c', w', j0', s1', -, -, s9', -⟩ := hst j hj
      rw [q, s1'] at s1
      have e9 : j0' = j0 := congrArg Prod.snd s1
      rw [← s9, ← s9', e9]
    · cases e) h2
end SQ
