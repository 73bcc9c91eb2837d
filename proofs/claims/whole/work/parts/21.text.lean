/-! ===== texts: a String's cells, and what its methods answer ===== -/
theorem mb_s {α β : Type} {x : MM α} {f : α → MM β} {h h1 : AH} {v : α} (e : x h = some (v, h1)) : mb x f h = f v h1 := by unfold mb; rw [e]
theorem nb_s {α β : Type} {x : NM α} {f : α → NM β} {h h1 : MS} {v : α} (e : x h = some (v, h1)) : nb x f h = f v h1 := by unfold nb; rw [e]
def Str (h : AH) (a : Nat) (l : List Nat) : Prop := ∃ (c v t : Nat) (f : Nat → Int32) (rest : List Value), ce h a = .inr (c, .ref v :: .int 0 :: rest) ∧ okc 0 c = true ∧ ce h v = .inl (t, l.length, .inl f) ∧ (t = 1 ∨ t = 11) ∧ (∀ j, j < l.length → l.getD j 0 < 256 ∧ f j = sb_b (l.getD j 0)) ∧ l.length < 2 ^ 30
theorem nI_lt0 {n : Nat} (h : n < 2 ^ 31) : ¬ nI n < 0 := nI_pos h
theorem inb_nI {n N : Nat} (h : n < N) (hN : N < 2 ^ 31) : inb (nI n) N := nI_in h hN
theorem sb_b_lo : ∀ c, c < 128 → sb_b c = nI c := by decide +kernel
theorem nar_c : ∀ c, c < 256 → narrow .char (.int (nI c)) = .int (nI c) := by decide +kernel
section TX
variable {h : AH} {a : Nat} {l : List Nat}
theorem str_isLatin (hs : Str h a l) : J0_isLatin1_aae02 a h = some (1, h) := by
  obtain ⟨c, v, t, f, rest, h1, h2, h3, h4, h5, h6⟩ := hs
  unfold J0_isLatin1_aae02
  rw [if_neg (by decide)]
  simp [mb, gI, gV, h1, h2, mr]
theorem str_coder (hs : Str h a l) : J0_coder_7d493 a h = some (0, h) := by
  obtain ⟨c, v, t, f, rest, h1, h2, h3, h4, h5, h6⟩ := hs
  unfold J0_coder_7d493
  rw [if_neg (by decide)]
  simp [mb, gI, gV, h1, h2, mr, ckI, narrow]
theorem str_length (hs : Str h a l) : J0_length_8abf5 a h = some (nI l.length, h) := by
  have hc := str_coder hs
  obtain ⟨c, v, t, f, rest, h1, h2, h3, h4, h5, h6⟩ := hs
  unfold J0_length_8abf5
  have ht : t < 5 ∨ t = 10 ∨ t = 11 := by omega
  simp [mb, gR, gV, h1, h2, h3, mr, aN, wc, hc, ht]
  rfl
theorem str_charAt (hs : Str h a l) {k : Nat} (hk : k < l.length) : J0_charAt_5068e a (nI k) h = some (nI (l.getD k 0), h) := by
  have hc := str_isLatin hs
  obtain ⟨c, v, t, f, rest, h1, h2, h3, h4, h5, h6⟩ := hs
  have ht : t < 5 ∨ t = 10 ∨ t = 11 := by omega
  have ht2 : t = 1 ∨ t = 2 ∨ t = 11 := by omega
  obtain ⟨hx, hf⟩ := h5 k hk
  obtain ⟨hb, hcc, hle⟩ := sb_byte (l.getD k 0) hx
  have hcl : (nI k).toNatClampNeg = k := nI_clamp (by omega)
  have e1 : J1_charAt_3b067 (some v) (nI k) h = some (nI (l.getD k 0), h) := by
    unfold J1_charAt_3b067
    rw [mb_s (v := nI l.length) (h1 := h) (by simp [aN, h3, ht]; rfl)]
    rw [mb_s (v := ()) (h1 := h) (by
      unfold J0_checkIndex_df160 J3_checkIndex_8e157
      rw [mb_s (v := h.2.2.2 22) (h1 := h) rfl]
      rw [mb_s (v := nI k) (h1 := h) (by
        rw [if_neg (nI_lt0 (by omega)), if_pos (nI_lt hk (by omega))]
        rfl)]
      rfl)]
    rw [mb_s (v := sb_b (l.getD k 0)) (h1 := h) (by
      unfold aB
      simp only [h3]
      rw [if_pos ⟨ht2, inb_nI hk (by omega)⟩, hcl, hf])]
    rw [hb, hcc]
    rw [mb_s (v := nI (l.getD k 0)) (h1 := h) (by
      unfold ckI
      rw [if_pos (nar_c _ hx)]
      rfl)]
    rfl
  unfold J0_charAt_5068e
  rw [mb_s (v := (1 : Int32)) (h1 := h) (by unfold wc; simp only [h1]; rw [if_pos h2]; exact hc)]
  rw [if_neg (by decide)]
  rw [mb_s (v := some v) (h1 := h) (by simp [gR, gV, h1, h2])]
  rw [mb_s e1]
  rw [mb_s (v := nI (l.getD k 0)) (h1 := h) (by
    unfold ckI
    rw [if_pos (nar_c _ hx)]
    rfl)]
  rfl
theorem sb_inj {x y : Nat} (hx : x < 256) (hy : y < 256) (e : sb_b x = sb_b y) : x = y := by
  have h1 := (sb_byte x hx).1
  have h2 := (sb_byte y hy).1
  rw [e, h2] at h1
  exact ((nI_eq (by omega) (by omega)).mp h1).symm
theorem idx_eq : ∀ (l : List Nat) (c i : Nat), i < l.length → l.getD i 0 = c → (∀ j, j < i → l.getD j 0 ≠ c) → ixf l c = i
  | [], c, i, h, _, _ => by simp at h
  | b :: l, c, 0, h, e, _ => by
    have e : b = c := by simpa using e
    subst e
    simp [ixf]
  | b :: l, c, i + 1, h, e, hn => by
    have h0 : b ≠ c := by simpa using hn 0 (by omega)
    have h1 := idx_eq l c i (by simpa using h) (by simpa using e) (fun j hj => by simpa using hn (j + 1) (by omega))
    unfold ixf
    rw [if_neg h0, h1]
theorem idx_no : ∀ (l : List Nat) (c : Nat), (∀ j, j < l.length → l.getD j 0 ≠ c) → ¬ ixf l c < l.length
  | [], c, _ => by simp
  | b :: l, c, hn => by
    have h0 : b ≠ c := by simpa using hn 0 (by simp)
    have h1 := idx_no l c (fun j hj => by simpa using hn (j + 1) (by simpa using hj))
    unfold ixf
    rw [if_neg h0, List.length_cons]
    omega
theorem ixc_loop {v t : Nat} {f : Nat → Int32} {c : Nat} (hc : c < 256) (h3 : ce h v = .inl (t, l.length, .inl f)) (h4 : t = 1 ∨ t = 11) (h5 : ∀ j, j < l.length → l.getD j 0 < 256 ∧ f j = sb_b (l.getD j 0)) (h6 : l.length < 2 ^ 30) : ∀ (n i : Nat), i ≤ l.length → l.length - i < n → (∀ j, j < i → l.getD j 0 ≠ c) → J1_indexOfChar_4cfef_7 n (some v) (nI l.length) (sb_b c) (nI i) h = some (idxA l c, h) := by
  intro n
  induction n with
  | zero => intro i _ h _; omega
  | succ n ih =>
    intro i hi hn hno
    show J1_indexOfChar_4cfef_7_st (J1_indexOfChar_4cfef_7 n) _ _ _ _ h = _
    unfold J1_indexOfChar_4cfef_7_st
    have ht2 : t = 1 ∨ t = 2 ∨ t = 11 := by omega
    by_cases hil : i = l.length
    · subst hil
      rw [if_pos (by exact nI_le (Nat.le_refl _) (by omega))]
      unfold idxA
      rw [if_neg (idx_no l c (fun j hj => hno j hj))]
      rfl
    · have hlt : i < l.length := by omega
      rw [if_neg (nI_ge hlt (by omega))]
      obtain ⟨hx, hf⟩ := h5 i hlt
      have hcl : (nI i).toNatClampNeg = i := nI_clamp (by omega)
      rw [mb_s (v := sb_b (l.getD i 0)) (h1 := h) (by
        unfold aB
        simp only [h3]
        rw [if_pos ⟨ht2, inb_nI hlt (by omega)⟩, hcl, hf])]
      by_cases he : l.getD i 0 = c
      · rw [if_pos (by rw [he])]
        unfold idxA
        have h9 := idx_eq l c i hlt he hno
        rw [h9, if_pos hlt]
        rfl
      · rw [if_neg (fun q => he (sb_inj hx hc q)), nI_1]
        exact ih (i + 1) (by omega) (by omega) (fun j hj => by
          by_cases hji : j = i
          · rw [hji]; exact he
          · exact hno j (by omega))
theorem str_indexOf (hs : Str h a l) (hl9 : l.length < 1000) {c : Nat} (hc : c < 256) : J0_indexOf_0f7a4 a (nI c) h = some (idxA l c, h) := by
  have hl := str_isLatin hs
  have hn := str_length hs
  obtain ⟨cc, v, t, f, rest, h1, h2, h3, h4, h5, h6⟩ := hs
  have ht : t < 5 ∨ t = 10 ∨ t = 11 := by omega
  have h255 : ¬ (255 : Int32) < nI c := by
    have : (255 : Int32) = nI 255 := rfl
    rw [this]
    exact nI_nlt (by omega) (by omega)
  have e1 : J1_indexOf_4cfef (some v) (nI c) 0 (nI l.length) h = some (idxA l c, h) := by
    unfold J1_indexOf_4cfef
    rw [mb_s (v := (1 : Int32)) (h1 := h) (by unfold J1_canEncode_9a6ad; rw [if_neg (nI_lt0 (by omega)), if_neg h255]; rfl)]
    rw [if_neg (by decide)]
    rw [mb_s (v := nI l.length) (h1 := h) (by simp [aN, h3, ht]; rfl)]
    have e0 : (if (0 : Int32) < 0 then (0 : Int32) else 0) = nI 0 := by decide
    have e2 : (if nI l.length < nI l.length then nI l.length else nI l.length) = nI l.length := by split <;> rfl
    rw [e0, e2]
    by_cases hz : l.length = 0
    · rw [if_neg (by rw [hz]; exact nI_nlt (Nat.le_refl _) (by omega))]
      unfold idxA
      rw [hz, if_neg (by omega)]
      rfl
    · rw [if_pos (nI_lt (by omega) (by omega))]
      rw [mb_s (v := idxA l c) (h1 := h) (by
        unfold J1_indexOfChar_4cfef
        exact ixc_loop hc h3 h4 h5 h6 LFU 0 (by omega) (by show l.length - 0 < 20000; omega) (fun j hj => by omega))]
      rfl
  have e2 : J0_indexOf_7cf53 a (nI c) 0 h = some (idxA l c, h) := by
    unfold J0_indexOf_7cf53
    rw [mb_s (v := (1 : Int32)) (h1 := h) (by unfold wc; simp only [h1]; rw [if_pos h2]; exact hl)]
    rw [if_neg (by decide)]
    rw [mb_s (v := some v) (h1 := h) (by simp [gR, gV, h1, h2])]
    rw [mb_s (v := nI l.length) (h1 := h) (by unfold wc; simp only [h1]; rw [if_pos h2]; exact hn)]
    rw [mb_s e1]
    rfl
  unfold J0_indexOf_0f7a4
  rw [mb_s (v := idxA l c) (h1 := h) (by unfold wc; simp only [h1]; rw [if_pos h2]; exact e2)]
  rfl
end TX
/-- the model's constants are texts -/
theorem KCs.str {rf : Nat → Option Nat} {b i : Nat} {h : AH} (hK : KCs rf b h) (hi : i < 19) : ∃ a, rf i = some a ∧ a < b ∧ Str h a (txt i) := by
  obtain ⟨a, v, f, q1, q2, q3, q4, q5, q6⟩ := hK.2 i hi
  refine ⟨a, q1, q2, 14, v, 11, f, [], q4, rfl, q5, Or.inr rfl, fun j hj => ?_, ?_⟩
  · have key : ∀ i, i < 19 → ∀ j, j < (txt i).length → (txt i).getD j 0 < 128 := by decide +kernel
    have h1 := key i hi j hj
    exact ⟨by omega, by rw [q6 j hj, sb_b_lo _ h1]⟩
  · have key : ∀ i, i < 19 → (txt i).length < 100 := by decide +kernel
    have := key i hi
    omega
theorem txt_len : ∀ i, i < 19 → (txt i).length < 100 := by decide +kernel
section SMT
variable {α β : Type} {m : Nat} {rf : Nat → Option Nat} {x : MM α} {n : NM α}
theorem wc_str {F : Nat → MM β} {h : AH} {a : Nat} {l : List Nat} (hs : Str h a l) : wc 0 (some a) F h = F a h := by
  obtain ⟨c, v, t, f, rest, h1, h2, -⟩ := hs
  unfold wc
  simp only [h1]
  exact if_pos h2
theorem inb_of {k : Int32} {n : Nat} (h : inb k n) : ∃ j, j < n ∧ k = nI j := by
  have h0 : ¬ k < 0 := fun q => h (Or.inl q)
  obtain ⟨j, hj, rfl⟩ := nI_of h0
  have h1 : ¬ n ≤ (nI j).toNatClampNeg := fun q => h (Or.inr q)
  rw [nI_clamp hj] at h1
  exact ⟨j, by omega, rfl⟩
theorem sm_nSl {i : Nat} {f : Int32 → MM α} {g : Int32 → NM α} (h2 : ∀ v, Sm m rf (f v) (g v)) : Sm m rf (mb (wc 0 (rf i) fun t => J0_length_8abf5 t) f) (nb (nSl i) g) :=
  sm_rd (fun w v w' e => by
    unfold nSl at e
    split at e
    · rename_i hi
      cases e
      refine ⟨rfl, fun h hR => ?_⟩
      obtain ⟨a, q1, q2, hs⟩ := KCs.str hR.2.2 hi
      rw [q1, wc_str hs]
      exact str_length hs
    · cases e) h2
theorem sm_nSc {i : Nat} {k : Int32} {f : Int32 → MM α} {g : Int32 → NM α} (h2 : ∀ v, Sm m rf (f v) (g v)) : Sm m rf (mb (wc 0 (rf i) fun t => J0_charAt_5068e t k) f) (nb (nSc i k) g) :=
  sm_rd (fun w v w' e => by
    unfold nSc at e
    split at e
    · rename_i hi
      obtain ⟨hi, hk⟩ := hi
      obtain ⟨j, hj, rfl⟩ := inb_of hk
      cases e
      have hl := txt_len i hi
      rw [nI_clamp (by omega)]
      refine ⟨rfl, fun h hR => ?_⟩
      obtain ⟨a, q1, q2, hs⟩ := KCs.str hR.2.2 hi
      rw [q1, wc_str hs]
      exact str_charAt hs hj
    · cases e) h2
theorem sm_nSi {i : Nat} {k : Int32} {f : Int32 → MM α} {g : Int32 → NM α} (h2 : ∀ v, Sm m rf (f v) (g v)) : Sm m rf (mb (wc 0 (rf i) fun t => J0_indexOf_0f7a4 t k) f) (nb (nSi i k) g) :=
  sm_rd (fun w v w' e => by
    unfold nSi at e
    split at e
    · rename_i hi
      obtain ⟨hi, hk⟩ := hi
      obtain ⟨j, hj, rfl⟩ := inb_of hk
      cases e
      rw [nI_clamp (by omega)]
      refine ⟨rfl, fun h hR => ?_⟩
      obtain ⟨a, q1, q2, hs⟩ := KCs.str hR.2.2 hi
      rw [q1, wc_str hs]
      exact str_indexOf hs (by have := txt_len i hi; omega) hj
    · cases e) h2
end SMT
