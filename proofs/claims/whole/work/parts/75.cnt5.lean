/-! ===== what the model counts: books and copies ===== -/
def K5 {α : Type} (x : IM α) : Prop := ∀ W v W', x W = some (v, W') → W'.1 5 = W.1 5 ∧ W'.1 15 = W.1 15
def KX (x : IM Int) : Prop := ∀ W v W', x W = some (v, W') → (v = -9 ∧ W'.1 5 + W'.1 15 = W.1 5 + W.1 15) ∨ W.1 5 + W.1 15 < W'.1 5 + W'.1 15
section CNN
variable {α β : Type} {x y : IM α} {k : Nat} {i a : Int}
theorem k5_f : K5 (nof : IM α) := fun W v W' e => by cases e
theorem k5_r {a : α} : K5 (ir a) := fun W v W' e => by cases e; exact ⟨rfl, rfl⟩
theorem k5_b {x : IM β} {f : β → IM α} (h1 : K5 x) (h2 : ∀ v, K5 (f v)) : K5 (ib x f) := fun W v W' e => by
  unfold ib at e
  cases hx : x W with
  | none => rw [hx] at e; cases e
  | some q =>
    rw [hx] at e
    obtain ⟨a1, a2⟩ := h1 W q.1 q.2 hx
    obtain ⟨b1, b2⟩ := h2 q.1 q.2 v W' e
    exact ⟨b1.trans a1, b2.trans a2⟩
theorem k5_g {c : Prop} {d : Decidable c} (h : K5 x) : K5 (ig c x) := fun W v W' e => by
  unfold ig at e
  by_cases hc : c
  · rw [if_pos hc] at e; exact h W v W' e
  · rw [if_neg hc] at e; cases e
theorem k5_t {c : Prop} {d : Decidable c} (h1 : K5 x) (h2 : K5 y) : K5 (if c then x else y) := by
  by_cases hc : c
  · rw [if_pos hc]; exact h1
  · rw [if_neg hc]; exact h2
theorem k5_if {c : IS → Prop} {d : ∀ W, Decidable (c W)} {f : IS → α} : K5 (fun W => if c W then some (f W, W) else none) := fun W v W' e => by
  by_cases hc : c W
  · have e : (if c W then some (f W, W) else none) = some (v, W') := e
    rw [if_pos hc] at e; cases e; exact ⟨rfl, rfl⟩
  · have e : (if c W then some (f W, W) else none) = some (v, W') := e
    rw [if_neg hc] at e; cases e
theorem k5_gI : K5 (igI k) := fun W v W' e => by cases e; exact ⟨rfl, rfl⟩
theorem k5_aI : K5 (iaI k i) := k5_if (c := fun _ => isA k = true ∧ isZ k = false ∧ 0 ≤ i ∧ i < lenM k) (f := fun W => W.2 k i)
theorem k5_aZ : K5 (iaZ k i) := k5_if (c := fun _ => isA k = true ∧ isZ k = true ∧ 0 ≤ i ∧ i < lenM k) (f := fun W => W.2 k i)
theorem k5_sI : K5 (isI k i a) := fun W v W' e => by
  unfold isI at e
  split at e
  · cases e; exact ⟨rfl, rfl⟩
  · cases e
theorem k5_sZ : K5 (isZ' k i a) := fun W v W' e => by
  unfold isZ' at e
  split at e
  · cases e; exact ⟨rfl, rfl⟩
  · cases e
theorem k5_dI : K5 (idI i a) := by unfold idI; exact k5_t k5_r k5_f
theorem k5_rI : K5 (irI i a) := by unfold irI; exact k5_t k5_r k5_f
theorem k5_nz : K5 (inz a) := by unfold inz; exact k5_t k5_r k5_f
theorem k5_Sl : K5 (iSl k) := by unfold iSl; exact k5_t k5_r k5_f
theorem k5_Sc : K5 (iSc k i) := by unfold iSc; exact k5_t k5_r k5_f
theorem k5_Si : K5 (iSi k i) := by unfold iSi; exact k5_t k5_r k5_f
theorem k5_pI (hk : k ≠ 5 ∧ k ≠ 15) : K5 (ipI k a) := fun W v W' e => by
  cases e
  exact ⟨if_neg (fun q => hk.1 q.symm), if_neg (fun q => hk.2 q.symm)⟩
theorem k5_pZ (hk : k ≠ 5 ∧ k ≠ 15) : K5 (ipZ k a) := fun W v W' e => by
  unfold ipZ at e
  split at e
  · cases e
    exact ⟨if_neg (fun q => hk.1 q.symm), if_neg (fun q => hk.2 q.symm)⟩
  · cases e
theorem kx_f : KX nof := fun W v W' e => by cases e
theorem kx_b {x : IM β} {f : β → IM Int} (h1 : K5 x) (h2 : ∀ v, KX (f v)) : KX (ib x f) := fun W v W' e => by
  unfold ib at e
  cases hx : x W with
  | none => rw [hx] at e; cases e
  | some q =>
    rw [hx] at e
    obtain ⟨a1, a2⟩ := h1 W q.1 q.2 hx
    have := h2 q.1 q.2 v W' e
    rw [a1, a2] at this
    exact this
theorem kx_g {c : Prop} {d : Decidable c} {x : IM Int} (h : KX x) : KX (ig c x) := fun W v W' e => by
  unfold ig at e
  by_cases hc : c
  · rw [if_pos hc] at e; exact h W v W' e
  · rw [if_neg hc] at e; cases e
theorem kx_t {c : Prop} {d : Decidable c} {x y : IM Int} (h1 : KX x) (h2 : KX y) : KX (if c then x else y) := by
  by_cases hc : c
  · rw [if_pos hc]; exact h1
  · rw [if_neg hc]; exact h2
theorem kx_as {x : IM Int} (h : KX x) : KX (ib x fun v => ir v) := fun W v W' e => by
  unfold ib at e
  cases hx : x W with
  | none => rw [hx] at e; cases e
  | some q =>
    rw [hx] at e
    cases e
    exact h W q.1 q.2 hx
theorem kx_no {r : Int} : KX (ib (I12_no r) fun v => ir v) := fun W v W' e => by cases e; exact Or.inl ⟨rfl, rfl⟩
theorem kx_e5 {a : Int} : KX (ib (igI 5) fun v => ib (ipI 5 (v + 1)) fun _ => ib (I12_fine a) fun v => ir v) := fun W v W' e => by
  cases e
  refine Or.inr ?_
  show W.1 5 + W.1 15 < (W.1 5 + 1) + W.1 15
  omega
theorem kx_e15 {a : Int} : KX (ib (igI 15) fun v => ib (ipI 15 (v + 1)) fun _ => ib (I12_fine a) fun v => ir v) := fun W v W' e => by
  cases e
  refine Or.inr ?_
  show W.1 5 + W.1 15 < W.1 5 + (W.1 15 + 1)
  omega
end CNN
theorem k5_I12_fine {a1 : Int} : K5 (I12_fine a1) := by
  unfold I12_fine
  repeat' (first | decide | with_reducible (first | exact k5_r | exact k5_f | exact k5_gI | exact k5_aI | exact k5_aZ | exact k5_sI | exact k5_sZ | exact k5_dI | exact k5_rI | exact k5_nz | exact k5_Sl | exact k5_Sc | exact k5_Si | refine k5_pI ?_ | refine k5_pZ ?_ | refine k5_g ?_ | refine k5_t ?_ ?_ | refine k5_b ?_ fun _ => ?_))
theorem k5_I12_no {a1 : Int} : K5 (I12_no a1) := by
  unfold I12_no
  repeat' (first | decide | with_reducible (first | exact k5_r | exact k5_f | exact k5_gI | exact k5_aI | exact k5_aZ | exact k5_sI | exact k5_sZ | exact k5_dI | exact k5_rI | exact k5_nz | exact k5_Sl | exact k5_Sc | exact k5_Si | refine k5_pI ?_ | refine k5_pZ ?_ | refine k5_g ?_ | refine k5_t ?_ ?_ | refine k5_b ?_ fun _ => ?_))
theorem k5_I12_isIn {a0 : Int} {a1 : Int} {a2 : Int} : K5 (I12_isIn a0 a1 a2) := by
  unfold I12_isIn
  repeat' (first | decide | with_reducible (first | exact k5_r | exact k5_f | exact k5_gI | exact k5_aI | exact k5_aZ | exact k5_sI | exact k5_sZ | exact k5_dI | exact k5_rI | exact k5_nz | exact k5_Sl | exact k5_Sc | exact k5_Si | refine k5_pI ?_ | refine k5_pZ ?_ | refine k5_g ?_ | refine k5_t ?_ ?_ | refine k5_b ?_ fun _ => ?_))
theorem k5_I12_isBook {a1 : Int} : K5 (I12_isBook a1) := by
  unfold I12_isBook
  repeat' (first | decide | with_reducible (first | exact k5_I12_isIn | exact k5_r | exact k5_f | exact k5_gI | exact k5_aI | exact k5_aZ | exact k5_sI | exact k5_sZ | exact k5_dI | exact k5_rI | exact k5_nz | exact k5_Sl | exact k5_Sc | exact k5_Si | refine k5_pI ?_ | refine k5_pZ ?_ | refine k5_g ?_ | refine k5_t ?_ ?_ | refine k5_b ?_ fun _ => ?_))
theorem k5_I12_isCopy {a1 : Int} : K5 (I12_isCopy a1) := by
  unfold I12_isCopy
  repeat' (first | decide | with_reducible (first | exact k5_I12_isIn | exact k5_r | exact k5_f | exact k5_gI | exact k5_aI | exact k5_aZ | exact k5_sI | exact k5_sZ | exact k5_dI | exact k5_rI | exact k5_nz | exact k5_Sl | exact k5_Sc | exact k5_Si | refine k5_pI ?_ | refine k5_pZ ?_ | refine k5_g ?_ | refine k5_t ?_ ?_ | refine k5_b ?_ fun _ => ?_))
theorem k5_I12_spot {a0 : Int} {a1 : Int} {a2 : Int} : K5 (I12_spot a0 a1 a2) := by
  unfold I12_spot
  repeat' (first | decide | with_reducible (first | exact k5_r | exact k5_f | exact k5_gI | exact k5_aI | exact k5_aZ | exact k5_sI | exact k5_sZ | exact k5_dI | exact k5_rI | exact k5_nz | exact k5_Sl | exact k5_Sc | exact k5_Si | refine k5_pI ?_ | refine k5_pZ ?_ | refine k5_g ?_ | refine k5_t ?_ ?_ | refine k5_b ?_ fun _ => ?_))
theorem k5_I12_gatheringOf_2_st {k2 : Int → Int → Int → IM Int} (hk2 : ∀ z0 z1 z2, K5 (k2 z0 z1 z2)) {x1 : Int} {x2 : Int} {x3 : Int} : K5 (I12_gatheringOf_2_st k2 x1 x2 x3) := by
  unfold I12_gatheringOf_2_st
  repeat' (first | decide | with_reducible (first | exact hk2 _ _ _ | exact k5_r | exact k5_f | exact k5_gI | exact k5_aI | exact k5_aZ | exact k5_sI | exact k5_sZ | exact k5_dI | exact k5_rI | exact k5_nz | exact k5_Sl | exact k5_Sc | exact k5_Si | refine k5_pI ?_ | refine k5_pZ ?_ | refine k5_g ?_ | refine k5_t ?_ ?_ | refine k5_b ?_ fun _ => ?_))
theorem k5_I12_gatheringOf_2 : ∀ (n : Nat) {z0 : Int} {z1 : Int} {z2 : Int}, K5 (I12_gatheringOf_2 n z0 z1 z2) := by
  intro n
  induction n with
  | zero => intros; exact k5_f
  | succ n ih => intros; exact k5_I12_gatheringOf_2_st  (k2 := (I12_gatheringOf_2 n)) (fun _ _ _ => ih)
theorem k5_I12_gatheringOf {a1 : Int} {a2 : Int} : K5 (I12_gatheringOf a1 a2) := by
  unfold I12_gatheringOf
  repeat' (first | decide | with_reducible (first | exact k5_I12_gatheringOf_2 _ | exact k5_r | exact k5_f | exact k5_gI | exact k5_aI | exact k5_aZ | exact k5_sI | exact k5_sZ | exact k5_dI | exact k5_rI | exact k5_nz | exact k5_Sl | exact k5_Sc | exact k5_Si | refine k5_pI ?_ | refine k5_pZ ?_ | refine k5_g ?_ | refine k5_t ?_ ?_ | refine k5_b ?_ fun _ => ?_))
theorem k5_I12_layOut_122 {k4 : Int → Int → Int → IM Unit} (hk4 : ∀ z0 z1 z2, K5 (k4 z0 z1 z2)) {k17 : Int → Int → Int → Int → IM Unit} (hk17 : ∀ z0 z1 z2 z3, K5 (k17 z0 z1 z2 z3)) {x1 : Int} {x2 : Int} {x3 : Int} {x4 : Int} : K5 (I12_layOut_122 k4 k17 x1 x2 x3 x4) := by
  unfold I12_layOut_122
  repeat' (first | decide | with_reducible (first | exact hk4 _ _ _ | exact hk17 _ _ _ _ | exact k5_r | exact k5_f | exact k5_gI | exact k5_aI | exact k5_aZ | exact k5_sI | exact k5_sZ | exact k5_dI | exact k5_rI | exact k5_nz | exact k5_Sl | exact k5_Sc | exact k5_Si | refine k5_pI ?_ | refine k5_pZ ?_ | refine k5_g ?_ | refine k5_t ?_ ?_ | refine k5_b ?_ fun _ => ?_))
theorem k5_I12_layOut_60_st {k4 : Int → Int → Int → IM Unit} (hk4 : ∀ z0 z1 z2, K5 (k4 z0 z1 z2)) {k17 : Int → Int → Int → Int → IM Unit} (hk17 : ∀ z0 z1 z2 z3, K5 (k17 z0 z1 z2 z3)) {k60 : Int → Int → Int → Int → Int → Int → IM Unit} (hk60 : ∀ z0 z1 z2 z3 z4 z5, K5 (k60 z0 z1 z2 z3 z4 z5)) {x1 : Int} {x2 : Int} {x3 : Int} {x4 : Int} {x5 : Int} {x6 : Int} : K5 (I12_layOut_60_st k4 k17 k60 x1 x2 x3 x4 x5 x6) := by
  unfold I12_layOut_60_st
  repeat' (first | decide | with_reducible (first | exact k5_I12_layOut_122 hk4 hk17 | exact hk4 _ _ _ | exact hk17 _ _ _ _ | exact hk60 _ _ _ _ _ _ | exact k5_r | exact k5_f | exact k5_gI | exact k5_aI | exact k5_aZ | exact k5_sI | exact k5_sZ | exact k5_dI | exact k5_rI | exact k5_nz | exact k5_Sl | exact k5_Sc | exact k5_Si | refine k5_pI ?_ | refine k5_pZ ?_ | refine k5_g ?_ | refine k5_t ?_ ?_ | refine k5_b ?_ fun _ => ?_))
theorem k5_I12_layOut_60 {k4 : Int → Int → Int → IM Unit} (hk4 : ∀ z0 z1 z2, K5 (k4 z0 z1 z2)) {k17 : Int → Int → Int → Int → IM Unit} (hk17 : ∀ z0 z1 z2 z3, K5 (k17 z0 z1 z2 z3)) : ∀ (n : Nat) {z0 : Int} {z1 : Int} {z2 : Int} {z3 : Int} {z4 : Int} {z5 : Int}, K5 (I12_layOut_60 k4 k17 n z0 z1 z2 z3 z4 z5) := by
  intro n
  induction n with
  | zero => intros; exact k5_f
  | succ n ih => intros; exact k5_I12_layOut_60_st hk4 hk17 (k60 := (I12_layOut_60 k4 k17 n)) (fun _ _ _ _ _ _ => ih)
theorem k5_I12_layOut_58 {k4 : Int → Int → Int → IM Unit} (hk4 : ∀ z0 z1 z2, K5 (k4 z0 z1 z2)) {k17 : Int → Int → Int → Int → IM Unit} (hk17 : ∀ z0 z1 z2 z3, K5 (k17 z0 z1 z2 z3)) {x1 : Int} {x2 : Int} {x3 : Int} {x4 : Int} {x5 : Int} {y0 : Int} : K5 (I12_layOut_58 k4 k17 x1 x2 x3 x4 x5 y0) := by
  unfold I12_layOut_58
  repeat' (first | decide | with_reducible (first | exact k5_I12_layOut_60 hk4 hk17 _ | exact hk4 _ _ _ | exact hk17 _ _ _ _ | exact k5_r | exact k5_f | exact k5_gI | exact k5_aI | exact k5_aZ | exact k5_sI | exact k5_sZ | exact k5_dI | exact k5_rI | exact k5_nz | exact k5_Sl | exact k5_Sc | exact k5_Si | refine k5_pI ?_ | refine k5_pZ ?_ | refine k5_g ?_ | refine k5_t ?_ ?_ | refine k5_b ?_ fun _ => ?_))
theorem k5_I12_layOut_128 {k4 : Int → Int → Int → IM Unit} (hk4 : ∀ z0 z1 z2, K5 (k4 z0 z1 z2)) {x1 : Int} {x2 : Int} {x3 : Int} : K5 (I12_layOut_128 k4 x1 x2 x3) := by
  unfold I12_layOut_128
  repeat' (first | decide | with_reducible (first | exact hk4 _ _ _ | exact k5_r | exact k5_f | exact k5_gI | exact k5_aI | exact k5_aZ | exact k5_sI | exact k5_sZ | exact k5_dI | exact k5_rI | exact k5_nz | exact k5_Sl | exact k5_Sc | exact k5_Si | refine k5_pI ?_ | refine k5_pZ ?_ | refine k5_g ?_ | refine k5_t ?_ ?_ | refine k5_b ?_ fun _ => ?_))
theorem k5_I12_layOut_17_st {k4 : Int → Int → Int → IM Unit} (hk4 : ∀ z0 z1 z2, K5 (k4 z0 z1 z2)) {k17 : Int → Int → Int → Int → IM Unit} (hk17 : ∀ z0 z1 z2 z3, K5 (k17 z0 z1 z2 z3)) {x1 : Int} {x2 : Int} {x3 : Int} {x4 : Int} : K5 (I12_layOut_17_st k4 k17 x1 x2 x3 x4) := by
  unfold I12_layOut_17_st
  repeat' (first | decide | with_reducible (first | exact k5_I12_layOut_128 hk4 | exact k5_I12_layOut_58 hk4 hk17 | exact k5_I12_spot | exact hk4 _ _ _ | exact hk17 _ _ _ _ | exact k5_r | exact k5_f | exact k5_gI | exact k5_aI | exact k5_aZ | exact k5_sI | exact k5_sZ | exact k5_dI | exact k5_rI | exact k5_nz | exact k5_Sl | exact k5_Sc | exact k5_Si | refine k5_pI ?_ | refine k5_pZ ?_ | refine k5_g ?_ | refine k5_t ?_ ?_ | refine k5_b ?_ fun _ => ?_))
theorem k5_I12_layOut_17 {k4 : Int → Int → Int → IM Unit} (hk4 : ∀ z0 z1 z2, K5 (k4 z0 z1 z2)) : ∀ (n : Nat) {z0 : Int} {z1 : Int} {z2 : Int} {z3 : Int}, K5 (I12_layOut_17 k4 n z0 z1 z2 z3) := by
  intro n
  induction n with
  | zero => intros; exact k5_f
  | succ n ih => intros; exact k5_I12_layOut_17_st hk4 (k17 := (I12_layOut_17 k4 n)) (fun _ _ _ _ => ih)
theorem k5_I12_layOut_4_st {k4 : Int → Int → Int → IM Unit} (hk4 : ∀ z0 z1 z2, K5 (k4 z0 z1 z2)) {x1 : Int} {x2 : Int} {x3 : Int} : K5 (I12_layOut_4_st k4 x1 x2 x3) := by
  unfold I12_layOut_4_st
  repeat' (first | decide | with_reducible (first | exact k5_I12_layOut_17 hk4 _ | exact hk4 _ _ _ | exact k5_r | exact k5_f | exact k5_gI | exact k5_aI | exact k5_aZ | exact k5_sI | exact k5_sZ | exact k5_dI | exact k5_rI | exact k5_nz | exact k5_Sl | exact k5_Sc | exact k5_Si | refine k5_pI ?_ | refine k5_pZ ?_ | refine k5_g ?_ | refine k5_t ?_ ?_ | refine k5_b ?_ fun _ => ?_))
theorem k5_I12_layOut_4 : ∀ (n : Nat) {z0 : Int} {z1 : Int} {z2 : Int}, K5 (I12_layOut_4 n z0 z1 z2) := by
  intro n
  induction n with
  | zero => intros; exact k5_f
  | succ n ih => intros; exact k5_I12_layOut_4_st  (k4 := (I12_layOut_4 n)) (fun _ _ _ => ih)
theorem k5_I12_layOut {a1 : Int} : K5 (I12_layOut a1) := by
  unfold I12_layOut
  repeat' (first | decide | with_reducible (first | exact k5_I12_layOut_4 _ | exact k5_r | exact k5_f | exact k5_gI | exact k5_aI | exact k5_aZ | exact k5_sI | exact k5_sZ | exact k5_dI | exact k5_rI | exact k5_nz | exact k5_Sl | exact k5_Sc | exact k5_Si | refine k5_pI ?_ | refine k5_pZ ?_ | refine k5_g ?_ | refine k5_t ?_ ?_ | refine k5_b ?_ fun _ => ?_))
theorem k5_I12_total_68 {k4 : Int → Int → Int → IM Int} (hk4 : ∀ z0 z1 z2, K5 (k4 z0 z1 z2)) {x1 : Int} {x2 : Int} {x3 : Int} : K5 (I12_total_68 k4 x1 x2 x3) := by
  unfold I12_total_68
  repeat' (first | decide | with_reducible (first | exact hk4 _ _ _ | exact k5_r | exact k5_f | exact k5_gI | exact k5_aI | exact k5_aZ | exact k5_sI | exact k5_sZ | exact k5_dI | exact k5_rI | exact k5_nz | exact k5_Sl | exact k5_Sc | exact k5_Si | refine k5_pI ?_ | refine k5_pZ ?_ | refine k5_g ?_ | refine k5_t ?_ ?_ | refine k5_b ?_ fun _ => ?_))
theorem k5_I12_total_31_st {k4 : Int → Int → Int → IM Int} (hk4 : ∀ z0 z1 z2, K5 (k4 z0 z1 z2)) {k31 : Int → Int → Int → Int → IM Int} (hk31 : ∀ z0 z1 z2 z3, K5 (k31 z0 z1 z2 z3)) {x1 : Int} {x2 : Int} {x3 : Int} {x4 : Int} : K5 (I12_total_31_st k4 k31 x1 x2 x3 x4) := by
  unfold I12_total_31_st
  repeat' (first | decide | with_reducible (first | exact k5_I12_spot | exact k5_I12_total_68 hk4 | exact hk4 _ _ _ | exact hk31 _ _ _ _ | exact k5_r | exact k5_f | exact k5_gI | exact k5_aI | exact k5_aZ | exact k5_sI | exact k5_sZ | exact k5_dI | exact k5_rI | exact k5_nz | exact k5_Sl | exact k5_Sc | exact k5_Si | refine k5_pI ?_ | refine k5_pZ ?_ | refine k5_g ?_ | refine k5_t ?_ ?_ | refine k5_b ?_ fun _ => ?_))
theorem k5_I12_total_31 {k4 : Int → Int → Int → IM Int} (hk4 : ∀ z0 z1 z2, K5 (k4 z0 z1 z2)) : ∀ (n : Nat) {z0 : Int} {z1 : Int} {z2 : Int} {z3 : Int}, K5 (I12_total_31 k4 n z0 z1 z2 z3) := by
  intro n
  induction n with
  | zero => intros; exact k5_f
  | succ n ih => intros; exact k5_I12_total_31_st hk4 (k31 := (I12_total_31 k4 n)) (fun _ _ _ _ => ih)
theorem k5_I12_total_4_st {k4 : Int → Int → Int → IM Int} (hk4 : ∀ z0 z1 z2, K5 (k4 z0 z1 z2)) {x1 : Int} {x2 : Int} {x3 : Int} : K5 (I12_total_4_st k4 x1 x2 x3) := by
  unfold I12_total_4_st
  repeat' (first | decide | with_reducible (first | exact k5_I12_total_31 hk4 _ | exact hk4 _ _ _ | exact k5_r | exact k5_f | exact k5_gI | exact k5_aI | exact k5_aZ | exact k5_sI | exact k5_sZ | exact k5_dI | exact k5_rI | exact k5_nz | exact k5_Sl | exact k5_Sc | exact k5_Si | refine k5_pI ?_ | refine k5_pZ ?_ | refine k5_g ?_ | refine k5_t ?_ ?_ | refine k5_b ?_ fun _ => ?_))
theorem k5_I12_total_4 : ∀ (n : Nat) {z0 : Int} {z1 : Int} {z2 : Int}, K5 (I12_total_4 n z0 z1 z2) := by
  intro n
  induction n with
  | zero => intros; exact k5_f
  | succ n ih => intros; exact k5_I12_total_4_st  (k4 := (I12_total_4 n)) (fun _ _ _ => ih)
theorem k5_I12_total {a1 : Int} : K5 (I12_total a1) := by
  unfold I12_total
  repeat' (first | decide | with_reducible (first | exact k5_I12_total_4 _ | exact k5_r | exact k5_f | exact k5_gI | exact k5_aI | exact k5_aZ | exact k5_sI | exact k5_sZ | exact k5_dI | exact k5_rI | exact k5_nz | exact k5_Sl | exact k5_Sc | exact k5_Si | refine k5_pI ?_ | refine k5_pZ ?_ | refine k5_g ?_ | refine k5_t ?_ ?_ | refine k5_b ?_ fun _ => ?_))
theorem k5_I12_placeOf_71 {k3 : Int → Int → Int → Int → Int → IM Int} (hk3 : ∀ z0 z1 z2 z3 z4, K5 (k3 z0 z1 z2 z3 z4)) {x1 : Int} {x2 : Int} {x3 : Int} {x4 : Int} {x5 : Int} : K5 (I12_placeOf_71 k3 x1 x2 x3 x4 x5) := by
  unfold I12_placeOf_71
  repeat' (first | decide | with_reducible (first | exact hk3 _ _ _ _ _ | exact k5_r | exact k5_f | exact k5_gI | exact k5_aI | exact k5_aZ | exact k5_sI | exact k5_sZ | exact k5_dI | exact k5_rI | exact k5_nz | exact k5_Sl | exact k5_Sc | exact k5_Si | refine k5_pI ?_ | refine k5_pZ ?_ | refine k5_g ?_ | refine k5_t ?_ ?_ | refine k5_b ?_ fun _ => ?_))
theorem k5_I12_placeOf_3_st {k3 : Int → Int → Int → Int → Int → IM Int} (hk3 : ∀ z0 z1 z2 z3 z4, K5 (k3 z0 z1 z2 z3 z4)) {x1 : Int} {x2 : Int} {x3 : Int} {x4 : Int} {x5 : Int} : K5 (I12_placeOf_3_st k3 x1 x2 x3 x4 x5) := by
  unfold I12_placeOf_3_st
  repeat' (first | decide | with_reducible (first | exact k5_I12_placeOf_71 hk3 | exact hk3 _ _ _ _ _ | exact k5_r | exact k5_f | exact k5_gI | exact k5_aI | exact k5_aZ | exact k5_sI | exact k5_sZ | exact k5_dI | exact k5_rI | exact k5_nz | exact k5_Sl | exact k5_Sc | exact k5_Si | refine k5_pI ?_ | refine k5_pZ ?_ | refine k5_g ?_ | refine k5_t ?_ ?_ | refine k5_b ?_ fun _ => ?_))
theorem k5_I12_placeOf_3 : ∀ (n : Nat) {z0 : Int} {z1 : Int} {z2 : Int} {z3 : Int} {z4 : Int}, K5 (I12_placeOf_3 n z0 z1 z2 z3 z4) := by
  intro n
  induction n with
  | zero => intros; exact k5_f
  | succ n ih => intros; exact k5_I12_placeOf_3_st  (k3 := (I12_placeOf_3 n)) (fun _ _ _ _ _ => ih)
theorem k5_I12_placeOf {a1 : Int} {a2 : Int} {a3 : Int} {a4 : Int} : K5 (I12_placeOf a1 a2 a3 a4) := by
  unfold I12_placeOf
  repeat' (first | decide | with_reducible (first | exact k5_I12_placeOf_3 _ | exact k5_r | exact k5_f | exact k5_gI | exact k5_aI | exact k5_aZ | exact k5_sI | exact k5_sZ | exact k5_dI | exact k5_rI | exact k5_nz | exact k5_Sl | exact k5_Sc | exact k5_Si | refine k5_pI ?_ | refine k5_pZ ?_ | refine k5_g ?_ | refine k5_t ?_ ?_ | refine k5_b ?_ fun _ => ?_))
theorem k5_I12_isPlain {a1 : Int} {a2 : Int} : K5 (I12_isPlain a1 a2) := by
  unfold I12_isPlain
  repeat' (first | decide | with_reducible (first | exact k5_I12_spot | exact k5_r | exact k5_f | exact k5_gI | exact k5_aI | exact k5_aZ | exact k5_sI | exact k5_sZ | exact k5_dI | exact k5_rI | exact k5_nz | exact k5_Sl | exact k5_Sc | exact k5_Si | refine k5_pI ?_ | refine k5_pZ ?_ | refine k5_g ?_ | refine k5_t ?_ ?_ | refine k5_b ?_ fun _ => ?_))
theorem k5_I12_conjugate {a1 : Int} {a2 : Int} : K5 (I12_conjugate a1 a2) := by
  unfold I12_conjugate
  repeat' (first | decide | with_reducible (first | exact k5_I12_isPlain | exact k5_I12_placeOf | exact k5_r | exact k5_f | exact k5_gI | exact k5_aI | exact k5_aZ | exact k5_sI | exact k5_sZ | exact k5_dI | exact k5_rI | exact k5_nz | exact k5_Sl | exact k5_Sc | exact k5_Si | refine k5_pI ?_ | refine k5_pZ ?_ | refine k5_g ?_ | refine k5_t ?_ ?_ | refine k5_b ?_ fun _ => ?_))
theorem k5_I12_isSpelled_60 {k24 : Nat → Int → Int → IM Int} (hk24 : ∀ z0 z1 z2, K5 (k24 z0 z1 z2)) {x1 : Nat} {x3 : Int} {y0 : Int} : K5 (I12_isSpelled_60 k24 x1 x3 y0) := by
  unfold I12_isSpelled_60
  repeat' (first | decide | with_reducible (first | exact hk24 _ _ _ | exact k5_r | exact k5_f | exact k5_gI | exact k5_aI | exact k5_aZ | exact k5_sI | exact k5_sZ | exact k5_dI | exact k5_rI | exact k5_nz | exact k5_Sl | exact k5_Sc | exact k5_Si | refine k5_pI ?_ | refine k5_pZ ?_ | refine k5_g ?_ | refine k5_t ?_ ?_ | refine k5_b ?_ fun _ => ?_))
theorem k5_I12_isSpelled_24_st {k24 : Nat → Int → Int → IM Int} (hk24 : ∀ z0 z1 z2, K5 (k24 z0 z1 z2)) {x1 : Nat} {x2 : Int} {x3 : Int} : K5 (I12_isSpelled_24_st k24 x1 x2 x3) := by
  unfold I12_isSpelled_24_st
  repeat' (first | decide | with_reducible (first | exact k5_I12_isSpelled_60 hk24 | exact hk24 _ _ _ | exact k5_r | exact k5_f | exact k5_gI | exact k5_aI | exact k5_aZ | exact k5_sI | exact k5_sZ | exact k5_dI | exact k5_rI | exact k5_nz | exact k5_Sl | exact k5_Sc | exact k5_Si | refine k5_pI ?_ | refine k5_pZ ?_ | refine k5_g ?_ | refine k5_t ?_ ?_ | refine k5_b ?_ fun _ => ?_))
theorem k5_I12_isSpelled_24 : ∀ (n : Nat) {z0 : Nat} {z1 : Int} {z2 : Int}, K5 (I12_isSpelled_24 n z0 z1 z2) := by
  intro n
  induction n with
  | zero => intros; exact k5_f
  | succ n ih => intros; exact k5_I12_isSpelled_24_st  (k24 := (I12_isSpelled_24 n)) (fun _ _ _ => ih)
theorem k5_I12_isSpelled_21 {x1 : Nat} {y0 : Int} : K5 (I12_isSpelled_21 x1 y0) := by
  unfold I12_isSpelled_21
  repeat' (first | decide | with_reducible (first | exact k5_I12_isSpelled_24 _ | exact k5_r | exact k5_f | exact k5_gI | exact k5_aI | exact k5_aZ | exact k5_sI | exact k5_sZ | exact k5_dI | exact k5_rI | exact k5_nz | exact k5_Sl | exact k5_Sc | exact k5_Si | refine k5_pI ?_ | refine k5_pZ ?_ | refine k5_g ?_ | refine k5_t ?_ ?_ | refine k5_b ?_ fun _ => ?_))
theorem k5_I12_isSpelled {a1 : Nat} : K5 (I12_isSpelled a1) := by
  unfold I12_isSpelled
  repeat' (first | decide | with_reducible (first | exact k5_I12_isSpelled_21 | exact k5_r | exact k5_f | exact k5_gI | exact k5_aI | exact k5_aZ | exact k5_sI | exact k5_sZ | exact k5_dI | exact k5_rI | exact k5_nz | exact k5_Sl | exact k5_Sc | exact k5_Si | refine k5_pI ?_ | refine k5_pZ ?_ | refine k5_g ?_ | refine k5_t ?_ ?_ | refine k5_b ?_ fun _ => ?_))
theorem k5_I12_signHere_87 {x1 : Int} {x2 : Int} : K5 (I12_signHere_87 x1 x2) := by
  unfold I12_signHere_87
  repeat' (first | decide | with_reducible (first | exact k5_r | exact k5_f | exact k5_gI | exact k5_aI | exact k5_aZ | exact k5_sI | exact k5_sZ | exact k5_dI | exact k5_rI | exact k5_nz | exact k5_Sl | exact k5_Sc | exact k5_Si | refine k5_pI ?_ | refine k5_pZ ?_ | refine k5_g ?_ | refine k5_t ?_ ?_ | refine k5_b ?_ fun _ => ?_))
theorem k5_I12_signHere_53_st {k53 : Int → Int → Int → IM Int} (hk53 : ∀ z0 z1 z2, K5 (k53 z0 z1 z2)) {x1 : Int} {x2 : Int} {x3 : Int} : K5 (I12_signHere_53_st k53 x1 x2 x3) := by
  unfold I12_signHere_53_st
  repeat' (first | decide | with_reducible (first | exact k5_I12_signHere_87 | exact hk53 _ _ _ | exact k5_r | exact k5_f | exact k5_gI | exact k5_aI | exact k5_aZ | exact k5_sI | exact k5_sZ | exact k5_dI | exact k5_rI | exact k5_nz | exact k5_Sl | exact k5_Sc | exact k5_Si | refine k5_pI ?_ | refine k5_pZ ?_ | refine k5_g ?_ | refine k5_t ?_ ?_ | refine k5_b ?_ fun _ => ?_))
theorem k5_I12_signHere_53 : ∀ (n : Nat) {z0 : Int} {z1 : Int} {z2 : Int}, K5 (I12_signHere_53 n z0 z1 z2) := by
  intro n
  induction n with
  | zero => intros; exact k5_f
  | succ n ih => intros; exact k5_I12_signHere_53_st  (k53 := (I12_signHere_53 n)) (fun _ _ _ => ih)
theorem k5_I12_signHere  : K5 (I12_signHere) := by
  unfold I12_signHere
  repeat' (first | decide | with_reducible (first | exact k5_I12_isSpelled | exact k5_I12_signHere_53 _ | exact k5_r | exact k5_f | exact k5_gI | exact k5_aI | exact k5_aZ | exact k5_sI | exact k5_sZ | exact k5_dI | exact k5_rI | exact k5_nz | exact k5_Sl | exact k5_Sc | exact k5_Si | refine k5_pI ?_ | refine k5_pZ ?_ | refine k5_g ?_ | refine k5_t ?_ ?_ | refine k5_b ?_ fun _ => ?_))
theorem k5_I12_next_132  : K5 (I12_next_132) := by
  unfold I12_next_132
  repeat' (first | decide | with_reducible (first | exact k5_I12_signHere | exact k5_r | exact k5_f | exact k5_gI | exact k5_aI | exact k5_aZ | exact k5_sI | exact k5_sZ | exact k5_dI | exact k5_rI | exact k5_nz | exact k5_Sl | exact k5_Sc | exact k5_Si | refine k5_pI ?_ | refine k5_pZ ?_ | refine k5_g ?_ | refine k5_t ?_ ?_ | refine k5_b ?_ fun _ => ?_))
theorem k5_I12_next_89_st {k89 : IM Unit} (hk89 : K5 (k89))  : K5 (I12_next_89_st k89) := by
  unfold I12_next_89_st
  repeat' (first | decide | with_reducible (first | exact k5_I12_isIn | exact k5_I12_next_132 | exact hk89 | exact k5_r | exact k5_f | exact k5_gI | exact k5_aI | exact k5_aZ | exact k5_sI | exact k5_sZ | exact k5_dI | exact k5_rI | exact k5_nz | exact k5_Sl | exact k5_Sc | exact k5_Si | refine k5_pI ?_ | refine k5_pZ ?_ | refine k5_g ?_ | refine k5_t ?_ ?_ | refine k5_b ?_ fun _ => ?_))
theorem k5_I12_next_89 : ∀ (n : Nat), K5 (I12_next_89 n) := by
  intro n
  induction n with
  | zero => intros; exact k5_f
  | succ n ih => intros; exact k5_I12_next_89_st  ih
theorem k5_I12_next_237 {k170 : IM Unit} (hk170 : K5 (k170))  : K5 (I12_next_237 k170) := by
  unfold I12_next_237
  repeat' (first | decide | with_reducible (first | exact hk170 | exact k5_r | exact k5_f | exact k5_gI | exact k5_aI | exact k5_aZ | exact k5_sI | exact k5_sZ | exact k5_dI | exact k5_rI | exact k5_nz | exact k5_Sl | exact k5_Sc | exact k5_Si | refine k5_pI ?_ | refine k5_pZ ?_ | refine k5_g ?_ | refine k5_t ?_ ?_ | refine k5_b ?_ fun _ => ?_))
theorem k5_I12_next_250  : K5 (I12_next_250) := by
  unfold I12_next_250
  repeat' (first | decide | with_reducible (first | exact k5_r | exact k5_f | exact k5_gI | exact k5_aI | exact k5_aZ | exact k5_sI | exact k5_sZ | exact k5_dI | exact k5_rI | exact k5_nz | exact k5_Sl | exact k5_Sc | exact k5_Si | refine k5_pI ?_ | refine k5_pZ ?_ | refine k5_g ?_ | refine k5_t ?_ ?_ | refine k5_b ?_ fun _ => ?_))
theorem k5_I12_next_170_st {k170 : IM Unit} (hk170 : K5 (k170))  : K5 (I12_next_170_st k170) := by
  unfold I12_next_170_st
  repeat' (first | decide | with_reducible (first | exact k5_I12_isIn | exact k5_I12_next_237 hk170 | exact k5_I12_next_250 | exact hk170 | exact k5_r | exact k5_f | exact k5_gI | exact k5_aI | exact k5_aZ | exact k5_sI | exact k5_sZ | exact k5_dI | exact k5_rI | exact k5_nz | exact k5_Sl | exact k5_Sc | exact k5_Si | refine k5_pI ?_ | refine k5_pZ ?_ | refine k5_g ?_ | refine k5_t ?_ ?_ | refine k5_b ?_ fun _ => ?_))
theorem k5_I12_next_170 : ∀ (n : Nat), K5 (I12_next_170 n) := by
  intro n
  induction n with
  | zero => intros; exact k5_f
  | succ n ih => intros; exact k5_I12_next_170_st  ih
theorem k5_I12_next_38  : K5 (I12_next_38) := by
  unfold I12_next_38
  repeat' (first | decide | with_reducible (first | exact k5_I12_isIn | exact k5_I12_next_170 _ | exact k5_I12_next_89 _ | exact k5_r | exact k5_f | exact k5_gI | exact k5_aI | exact k5_aZ | exact k5_sI | exact k5_sZ | exact k5_dI | exact k5_rI | exact k5_nz | exact k5_Sl | exact k5_Sc | exact k5_Si | refine k5_pI ?_ | refine k5_pZ ?_ | refine k5_g ?_ | refine k5_t ?_ ?_ | refine k5_b ?_ fun _ => ?_))
theorem k5_I12_next_0_st {k0 : IM Unit} (hk0 : K5 (k0))  : K5 (I12_next_0_st k0) := by
  unfold I12_next_0_st
  repeat' (first | decide | with_reducible (first | exact k5_I12_next_38 | exact hk0 | exact k5_r | exact k5_f | exact k5_gI | exact k5_aI | exact k5_aZ | exact k5_sI | exact k5_sZ | exact k5_dI | exact k5_rI | exact k5_nz | exact k5_Sl | exact k5_Sc | exact k5_Si | refine k5_pI ?_ | refine k5_pZ ?_ | refine k5_g ?_ | refine k5_t ?_ ?_ | refine k5_b ?_ fun _ => ?_))
theorem k5_I12_next_0 : ∀ (n : Nat), K5 (I12_next_0 n) := by
  intro n
  induction n with
  | zero => intros; exact k5_f
  | succ n ih => intros; exact k5_I12_next_0_st  ih
theorem k5_I12_next  : K5 (I12_next) := by
  unfold I12_next
  repeat' (first | decide | with_reducible (first | exact k5_I12_next_0 _ | exact k5_r | exact k5_f | exact k5_gI | exact k5_aI | exact k5_aZ | exact k5_sI | exact k5_sZ | exact k5_dI | exact k5_rI | exact k5_nz | exact k5_Sl | exact k5_Sc | exact k5_Si | refine k5_pI ?_ | refine k5_pZ ?_ | refine k5_g ?_ | refine k5_t ?_ ?_ | refine k5_b ?_ fun _ => ?_))
theorem k5_I12_isMark {a1 : Int} : K5 (I12_isMark a1) := by
  unfold I12_isMark
  repeat' (first | decide | with_reducible (first | exact k5_r | exact k5_f | exact k5_gI | exact k5_aI | exact k5_aZ | exact k5_sI | exact k5_sZ | exact k5_dI | exact k5_rI | exact k5_nz | exact k5_Sl | exact k5_Sc | exact k5_Si | refine k5_pI ?_ | refine k5_pZ ?_ | refine k5_g ?_ | refine k5_t ?_ ?_ | refine k5_b ?_ fun _ => ?_))
theorem k5_I12_take_21 {y0 : Int} : K5 (I12_take_21 y0) := by
  unfold I12_take_21
  repeat' (first | decide | with_reducible (first | exact k5_I12_next | exact k5_r | exact k5_f | exact k5_gI | exact k5_aI | exact k5_aZ | exact k5_sI | exact k5_sZ | exact k5_dI | exact k5_rI | exact k5_nz | exact k5_Sl | exact k5_Sc | exact k5_Si | refine k5_pI ?_ | refine k5_pZ ?_ | refine k5_g ?_ | refine k5_t ?_ ?_ | refine k5_b ?_ fun _ => ?_))
theorem k5_I12_take_20  : K5 (I12_take_20) := by
  unfold I12_take_20
  repeat' (first | decide | with_reducible (first | exact k5_I12_take_21 | exact k5_r | exact k5_f | exact k5_gI | exact k5_aI | exact k5_aZ | exact k5_sI | exact k5_sZ | exact k5_dI | exact k5_rI | exact k5_nz | exact k5_Sl | exact k5_Sc | exact k5_Si | refine k5_pI ?_ | refine k5_pZ ?_ | refine k5_g ?_ | refine k5_t ?_ ?_ | refine k5_b ?_ fun _ => ?_))
theorem k5_I12_take {a1 : Int} : K5 (I12_take a1) := by
  unfold I12_take
  repeat' (first | decide | with_reducible (first | exact k5_I12_take_20 | exact k5_I12_take_21 | exact k5_r | exact k5_f | exact k5_gI | exact k5_aI | exact k5_aZ | exact k5_sI | exact k5_sZ | exact k5_dI | exact k5_rI | exact k5_nz | exact k5_Sl | exact k5_Sc | exact k5_Si | refine k5_pI ?_ | refine k5_pZ ?_ | refine k5_g ?_ | refine k5_t ?_ ?_ | refine k5_b ?_ fun _ => ?_))
theorem k5_I12_must_21 {y0 : Int} : K5 (I12_must_21 y0) := by
  unfold I12_must_21
  repeat' (first | decide | with_reducible (first | exact k5_I12_next | exact k5_r | exact k5_f | exact k5_gI | exact k5_aI | exact k5_aZ | exact k5_sI | exact k5_sZ | exact k5_dI | exact k5_rI | exact k5_nz | exact k5_Sl | exact k5_Sc | exact k5_Si | refine k5_pI ?_ | refine k5_pZ ?_ | refine k5_g ?_ | refine k5_t ?_ ?_ | refine k5_b ?_ fun _ => ?_))
theorem k5_I12_must_20  : K5 (I12_must_20) := by
  unfold I12_must_20
  repeat' (first | decide | with_reducible (first | exact k5_I12_must_21 | exact k5_r | exact k5_f | exact k5_gI | exact k5_aI | exact k5_aZ | exact k5_sI | exact k5_sZ | exact k5_dI | exact k5_rI | exact k5_nz | exact k5_Sl | exact k5_Sc | exact k5_Si | refine k5_pI ?_ | refine k5_pZ ?_ | refine k5_g ?_ | refine k5_t ?_ ?_ | refine k5_b ?_ fun _ => ?_))
theorem k5_I12_must {a1 : Int} : K5 (I12_must a1) := by
  unfold I12_must
  repeat' (first | decide | with_reducible (first | exact k5_I12_isMark | exact k5_I12_must_20 | exact k5_I12_must_21 | exact k5_r | exact k5_f | exact k5_gI | exact k5_aI | exact k5_aZ | exact k5_sI | exact k5_sZ | exact k5_dI | exact k5_rI | exact k5_nz | exact k5_Sl | exact k5_Sc | exact k5_Si | refine k5_pI ?_ | refine k5_pZ ?_ | refine k5_g ?_ | refine k5_t ?_ ?_ | refine k5_b ?_ fun _ => ?_))
theorem k5_I12_goes_20 {y0 : Int} : K5 (I12_goes_20 y0) := by
  unfold I12_goes_20
  repeat' (first | decide | with_reducible (first | exact k5_I12_next | exact k5_r | exact k5_f | exact k5_gI | exact k5_aI | exact k5_aZ | exact k5_sI | exact k5_sZ | exact k5_dI | exact k5_rI | exact k5_nz | exact k5_Sl | exact k5_Sc | exact k5_Si | refine k5_pI ?_ | refine k5_pZ ?_ | refine k5_g ?_ | refine k5_t ?_ ?_ | refine k5_b ?_ fun _ => ?_))
theorem k5_I12_goes_19  : K5 (I12_goes_19) := by
  unfold I12_goes_19
  repeat' (first | decide | with_reducible (first | exact k5_I12_goes_20 | exact k5_r | exact k5_f | exact k5_gI | exact k5_aI | exact k5_aZ | exact k5_sI | exact k5_sZ | exact k5_dI | exact k5_rI | exact k5_nz | exact k5_Sl | exact k5_Sc | exact k5_Si | refine k5_pI ?_ | refine k5_pZ ?_ | refine k5_g ?_ | refine k5_t ?_ ?_ | refine k5_b ?_ fun _ => ?_))
theorem k5_I12_goes {a1 : Int} : K5 (I12_goes a1) := by
  unfold I12_goes
  repeat' (first | decide | with_reducible (first | exact k5_I12_goes_19 | exact k5_I12_goes_20 | exact k5_I12_isMark | exact k5_r | exact k5_f | exact k5_gI | exact k5_aI | exact k5_aZ | exact k5_sI | exact k5_sZ | exact k5_dI | exact k5_rI | exact k5_nz | exact k5_Sl | exact k5_Sc | exact k5_Si | refine k5_pI ?_ | refine k5_pZ ?_ | refine k5_g ?_ | refine k5_t ?_ ?_ | refine k5_b ?_ fun _ => ?_))
theorem k5_I12_begins  : K5 (I12_begins) := by
  unfold I12_begins
  repeat' (first | decide | with_reducible (first | exact k5_I12_next | exact k5_r | exact k5_f | exact k5_gI | exact k5_aI | exact k5_aZ | exact k5_sI | exact k5_sZ | exact k5_dI | exact k5_rI | exact k5_nz | exact k5_Sl | exact k5_Sc | exact k5_Si | refine k5_pI ?_ | refine k5_pZ ?_ | refine k5_g ?_ | refine k5_t ?_ ?_ | refine k5_b ?_ fun _ => ?_))
theorem k5_I12_ends_20 {y0 : Int} : K5 (I12_ends_20 y0) := by
  unfold I12_ends_20
  repeat' (first | decide | with_reducible (first | exact k5_r | exact k5_f | exact k5_gI | exact k5_aI | exact k5_aZ | exact k5_sI | exact k5_sZ | exact k5_dI | exact k5_rI | exact k5_nz | exact k5_Sl | exact k5_Sc | exact k5_Si | refine k5_pI ?_ | refine k5_pZ ?_ | refine k5_g ?_ | refine k5_t ?_ ?_ | refine k5_b ?_ fun _ => ?_))
theorem k5_I12_ends_19  : K5 (I12_ends_19) := by
  unfold I12_ends_19
  repeat' (first | decide | with_reducible (first | exact k5_I12_ends_20 | exact k5_r | exact k5_f | exact k5_gI | exact k5_aI | exact k5_aZ | exact k5_sI | exact k5_sZ | exact k5_dI | exact k5_rI | exact k5_nz | exact k5_Sl | exact k5_Sc | exact k5_Si | refine k5_pI ?_ | refine k5_pZ ?_ | refine k5_g ?_ | refine k5_t ?_ ?_ | refine k5_b ?_ fun _ => ?_))
theorem k5_I12_ends  : K5 (I12_ends) := by
  unfold I12_ends
  repeat' (first | decide | with_reducible (first | exact k5_I12_ends_19 | exact k5_I12_ends_20 | exact k5_r | exact k5_f | exact k5_gI | exact k5_aI | exact k5_aZ | exact k5_sI | exact k5_sZ | exact k5_dI | exact k5_rI | exact k5_nz | exact k5_Sl | exact k5_Sc | exact k5_Si | refine k5_pI ?_ | refine k5_pZ ?_ | refine k5_g ?_ | refine k5_t ?_ ?_ | refine k5_b ?_ fun _ => ?_))
theorem k5_I12_readChange_40 {x1 : Int} {y0 : Int} {y1 : Int} {y2 : Nat} : K5 (I12_readChange_40 x1 y0 y1 y2) := by
  unfold I12_readChange_40
  repeat' (first | decide | with_reducible (first | exact k5_I12_must | exact k5_I12_take | exact k5_r | exact k5_f | exact k5_gI | exact k5_aI | exact k5_aZ | exact k5_sI | exact k5_sZ | exact k5_dI | exact k5_rI | exact k5_nz | exact k5_Sl | exact k5_Sc | exact k5_Si | refine k5_pI ?_ | refine k5_pZ ?_ | refine k5_g ?_ | refine k5_t ?_ ?_ | refine k5_b ?_ fun _ => ?_))
theorem k5_I12_readChange  : K5 (I12_readChange) := by
  unfold I12_readChange
  repeat' (first | decide | with_reducible (first | exact k5_I12_goes | exact k5_I12_readChange_40 | exact k5_r | exact k5_f | exact k5_gI | exact k5_aI | exact k5_aZ | exact k5_sI | exact k5_sZ | exact k5_dI | exact k5_rI | exact k5_nz | exact k5_Sl | exact k5_Sc | exact k5_Si | refine k5_pI ?_ | refine k5_pZ ?_ | refine k5_g ?_ | refine k5_t ?_ ?_ | refine k5_b ?_ fun _ => ?_))
theorem k5_I12_readChanges_4_st {k4 : IM Unit} (hk4 : K5 (k4))  : K5 (I12_readChanges_4_st k4) := by
  unfold I12_readChanges_4_st
  repeat' (first | decide | with_reducible (first | exact k5_I12_goes | exact k5_I12_readChange | exact hk4 | exact k5_r | exact k5_f | exact k5_gI | exact k5_aI | exact k5_aZ | exact k5_sI | exact k5_sZ | exact k5_dI | exact k5_rI | exact k5_nz | exact k5_Sl | exact k5_Sc | exact k5_Si | refine k5_pI ?_ | refine k5_pZ ?_ | refine k5_g ?_ | refine k5_t ?_ ?_ | refine k5_b ?_ fun _ => ?_))
theorem k5_I12_readChanges_4 : ∀ (n : Nat), K5 (I12_readChanges_4 n) := by
  intro n
  induction n with
  | zero => intros; exact k5_f
  | succ n ih => intros; exact k5_I12_readChanges_4_st  ih
theorem k5_I12_readChanges  : K5 (I12_readChanges) := by
  unfold I12_readChanges
  repeat' (first | decide | with_reducible (first | exact k5_I12_readChange | exact k5_I12_readChanges_4 _ | exact k5_r | exact k5_f | exact k5_gI | exact k5_aI | exact k5_aZ | exact k5_sI | exact k5_sZ | exact k5_dI | exact k5_rI | exact k5_nz | exact k5_Sl | exact k5_Sc | exact k5_Si | refine k5_pI ?_ | refine k5_pZ ?_ | refine k5_g ?_ | refine k5_t ?_ ?_ | refine k5_b ?_ fun _ => ?_))
theorem k5_I12_readGroup_125  : K5 (I12_readGroup_125) := by
  unfold I12_readGroup_125
  repeat' (first | decide | with_reducible (first | exact k5_r | exact k5_f | exact k5_gI | exact k5_aI | exact k5_aZ | exact k5_sI | exact k5_sZ | exact k5_dI | exact k5_rI | exact k5_nz | exact k5_Sl | exact k5_Sc | exact k5_Si | refine k5_pI ?_ | refine k5_pZ ?_ | refine k5_g ?_ | refine k5_t ?_ ?_ | refine k5_b ?_ fun _ => ?_))
theorem k5_I12_readGroup_105 {y0 : Int} {y1 : Int} {y2 : Nat} : K5 (I12_readGroup_105 y0 y1 y2) := by
  unfold I12_readGroup_105
  repeat' (first | decide | with_reducible (first | exact k5_I12_goes | exact k5_I12_must | exact k5_I12_readChanges | exact k5_I12_readGroup_125 | exact k5_r | exact k5_f | exact k5_gI | exact k5_aI | exact k5_aZ | exact k5_sI | exact k5_sZ | exact k5_dI | exact k5_rI | exact k5_nz | exact k5_Sl | exact k5_Sc | exact k5_Si | refine k5_pI ?_ | refine k5_pZ ?_ | refine k5_g ?_ | refine k5_t ?_ ?_ | refine k5_b ?_ fun _ => ?_))
theorem k5_I12_readGroup_99 {x1 : Int} {y0 : Int} {y1 : Nat} : K5 (I12_readGroup_99 x1 y0 y1) := by
  unfold I12_readGroup_99
  repeat' (first | decide | with_reducible (first | exact k5_I12_readGroup_105 | exact k5_r | exact k5_f | exact k5_gI | exact k5_aI | exact k5_aZ | exact k5_sI | exact k5_sZ | exact k5_dI | exact k5_rI | exact k5_nz | exact k5_Sl | exact k5_Sc | exact k5_Si | refine k5_pI ?_ | refine k5_pZ ?_ | refine k5_g ?_ | refine k5_t ?_ ?_ | refine k5_b ?_ fun _ => ?_))
theorem k5_I12_readGroup_56 {x1 : Int} {y0 : Int} {y1 : Int} {y2 : Nat} : K5 (I12_readGroup_56 x1 y0 y1 y2) := by
  unfold I12_readGroup_56
  repeat' (first | decide | with_reducible (first | exact k5_I12_goes | exact k5_I12_readGroup_105 | exact k5_I12_readGroup_99 | exact k5_I12_take | exact k5_r | exact k5_f | exact k5_gI | exact k5_aI | exact k5_aZ | exact k5_sI | exact k5_sZ | exact k5_dI | exact k5_rI | exact k5_nz | exact k5_Sl | exact k5_Sc | exact k5_Si | refine k5_pI ?_ | refine k5_pZ ?_ | refine k5_g ?_ | refine k5_t ?_ ?_ | refine k5_b ?_ fun _ => ?_))
theorem k5_I12_readGroup  : K5 (I12_readGroup) := by
  unfold I12_readGroup
  repeat' (first | decide | with_reducible (first | exact k5_I12_goes | exact k5_I12_readGroup_56 | exact k5_I12_take | exact k5_r | exact k5_f | exact k5_gI | exact k5_aI | exact k5_aZ | exact k5_sI | exact k5_sZ | exact k5_dI | exact k5_rI | exact k5_nz | exact k5_Sl | exact k5_Sc | exact k5_Si | refine k5_pI ?_ | refine k5_pZ ?_ | refine k5_g ?_ | refine k5_t ?_ ?_ | refine k5_b ?_ fun _ => ?_))
theorem k5_I12_isSize {a0 : Int} : K5 (I12_isSize a0) := by
  unfold I12_isSize
  repeat' (first | decide | with_reducible (first | exact k5_I12_isIn | exact k5_r | exact k5_f | exact k5_gI | exact k5_aI | exact k5_aZ | exact k5_sI | exact k5_sZ | exact k5_dI | exact k5_rI | exact k5_nz | exact k5_Sl | exact k5_Sc | exact k5_Si | refine k5_pI ?_ | refine k5_pZ ?_ | refine k5_g ?_ | refine k5_t ?_ ?_ | refine k5_b ?_ fun _ => ?_))
theorem k5_I12_isTwice_101 {k5 : Int → Int → Int → Int → IM Int} (hk5 : ∀ z0 z1 z2 z3, K5 (k5 z0 z1 z2 z3)) {k14 : Int → Int → Int → Int → Int → IM Int} (hk14 : ∀ z0 z1 z2 z3 z4, K5 (k14 z0 z1 z2 z3 z4)) {x1 : Int} {x2 : Int} {x4 : Int} {x5 : Int} {y0 : Int} : K5 (I12_isTwice_101 k5 k14 x1 x2 x4 x5 y0) := by
  unfold I12_isTwice_101
  repeat' (first | decide | with_reducible (first | exact hk5 _ _ _ _ | exact hk14 _ _ _ _ _ | exact k5_r | exact k5_f | exact k5_gI | exact k5_aI | exact k5_aZ | exact k5_sI | exact k5_sZ | exact k5_dI | exact k5_rI | exact k5_nz | exact k5_Sl | exact k5_Sc | exact k5_Si | refine k5_pI ?_ | refine k5_pZ ?_ | refine k5_g ?_ | refine k5_t ?_ ?_ | refine k5_b ?_ fun _ => ?_))
theorem k5_I12_isTwice_96 {k5 : Int → Int → Int → Int → IM Int} (hk5 : ∀ z0 z1 z2 z3, K5 (k5 z0 z1 z2 z3)) {k14 : Int → Int → Int → Int → Int → IM Int} (hk14 : ∀ z0 z1 z2 z3 z4, K5 (k14 z0 z1 z2 z3 z4)) {x1 : Int} {x2 : Int} {x4 : Int} {x5 : Int} : K5 (I12_isTwice_96 k5 k14 x1 x2 x4 x5) := by
  unfold I12_isTwice_96
  repeat' (first | decide | with_reducible (first | exact k5_I12_isTwice_101 hk5 hk14 | exact hk5 _ _ _ _ | exact hk14 _ _ _ _ _ | exact k5_r | exact k5_f | exact k5_gI | exact k5_aI | exact k5_aZ | exact k5_sI | exact k5_sZ | exact k5_dI | exact k5_rI | exact k5_nz | exact k5_Sl | exact k5_Sc | exact k5_Si | refine k5_pI ?_ | refine k5_pZ ?_ | refine k5_g ?_ | refine k5_t ?_ ?_ | refine k5_b ?_ fun _ => ?_))
theorem k5_I12_isTwice_100 {k5 : Int → Int → Int → Int → IM Int} (hk5 : ∀ z0 z1 z2 z3, K5 (k5 z0 z1 z2 z3)) {k14 : Int → Int → Int → Int → Int → IM Int} (hk14 : ∀ z0 z1 z2 z3 z4, K5 (k14 z0 z1 z2 z3 z4)) {x1 : Int} {x2 : Int} {x4 : Int} {x5 : Int} : K5 (I12_isTwice_100 k5 k14 x1 x2 x4 x5) := by
  unfold I12_isTwice_100
  repeat' (first | decide | with_reducible (first | exact k5_I12_isTwice_101 hk5 hk14 | exact hk5 _ _ _ _ | exact hk14 _ _ _ _ _ | exact k5_r | exact k5_f | exact k5_gI | exact k5_aI | exact k5_aZ | exact k5_sI | exact k5_sZ | exact k5_dI | exact k5_rI | exact k5_nz | exact k5_Sl | exact k5_Sc | exact k5_Si | refine k5_pI ?_ | refine k5_pZ ?_ | refine k5_g ?_ | refine k5_t ?_ ?_ | refine k5_b ?_ fun _ => ?_))
theorem k5_I12_isTwice_93 {k5 : Int → Int → Int → Int → IM Int} (hk5 : ∀ z0 z1 z2 z3, K5 (k5 z0 z1 z2 z3)) {k14 : Int → Int → Int → Int → Int → IM Int} (hk14 : ∀ z0 z1 z2 z3 z4, K5 (k14 z0 z1 z2 z3 z4)) {x1 : Int} {x2 : Int} {x4 : Int} {x5 : Int} {y0 : Int} {y1 : Int} : K5 (I12_isTwice_93 k5 k14 x1 x2 x4 x5 y0 y1) := by
  unfold I12_isTwice_93
  repeat' (first | decide | with_reducible (first | exact k5_I12_isTwice_100 hk5 hk14 | exact k5_I12_isTwice_96 hk5 hk14 | exact hk5 _ _ _ _ | exact hk14 _ _ _ _ _ | exact k5_r | exact k5_f | exact k5_gI | exact k5_aI | exact k5_aZ | exact k5_sI | exact k5_sZ | exact k5_dI | exact k5_rI | exact k5_nz | exact k5_Sl | exact k5_Sc | exact k5_Si | refine k5_pI ?_ | refine k5_pZ ?_ | refine k5_g ?_ | refine k5_t ?_ ?_ | refine k5_b ?_ fun _ => ?_))
theorem k5_I12_isTwice_76 {k5 : Int → Int → Int → Int → IM Int} (hk5 : ∀ z0 z1 z2 z3, K5 (k5 z0 z1 z2 z3)) {k14 : Int → Int → Int → Int → Int → IM Int} (hk14 : ∀ z0 z1 z2 z3 z4, K5 (k14 z0 z1 z2 z3 z4)) {x1 : Int} {x2 : Int} {x4 : Int} {x5 : Int} {y0 : Int} : K5 (I12_isTwice_76 k5 k14 x1 x2 x4 x5 y0) := by
  unfold I12_isTwice_76
  repeat' (first | decide | with_reducible (first | exact k5_I12_isTwice_93 hk5 hk14 | exact hk5 _ _ _ _ | exact hk14 _ _ _ _ _ | exact k5_r | exact k5_f | exact k5_gI | exact k5_aI | exact k5_aZ | exact k5_sI | exact k5_sZ | exact k5_dI | exact k5_rI | exact k5_nz | exact k5_Sl | exact k5_Sc | exact k5_Si | refine k5_pI ?_ | refine k5_pZ ?_ | refine k5_g ?_ | refine k5_t ?_ ?_ | refine k5_b ?_ fun _ => ?_))
theorem k5_I12_isTwice_108 {k5 : Int → Int → Int → Int → IM Int} (hk5 : ∀ z0 z1 z2 z3, K5 (k5 z0 z1 z2 z3)) {x1 : Int} {x2 : Int} {x3 : Int} {x4 : Int} : K5 (I12_isTwice_108 k5 x1 x2 x3 x4) := by
  unfold I12_isTwice_108
  repeat' (first | decide | with_reducible (first | exact hk5 _ _ _ _ | exact k5_r | exact k5_f | exact k5_gI | exact k5_aI | exact k5_aZ | exact k5_sI | exact k5_sZ | exact k5_dI | exact k5_rI | exact k5_nz | exact k5_Sl | exact k5_Sc | exact k5_Si | refine k5_pI ?_ | refine k5_pZ ?_ | refine k5_g ?_ | refine k5_t ?_ ?_ | refine k5_b ?_ fun _ => ?_))
theorem k5_I12_isTwice_14_st {k5 : Int → Int → Int → Int → IM Int} (hk5 : ∀ z0 z1 z2 z3, K5 (k5 z0 z1 z2 z3)) {k14 : Int → Int → Int → Int → Int → IM Int} (hk14 : ∀ z0 z1 z2 z3 z4, K5 (k14 z0 z1 z2 z3 z4)) {x1 : Int} {x2 : Int} {x3 : Int} {x4 : Int} {x5 : Int} : K5 (I12_isTwice_14_st k5 k14 x1 x2 x3 x4 x5) := by
  unfold I12_isTwice_14_st
  repeat' (first | decide | with_reducible (first | exact k5_I12_isTwice_100 hk5 hk14 | exact k5_I12_isTwice_108 hk5 | exact k5_I12_isTwice_76 hk5 hk14 | exact k5_I12_isTwice_96 hk5 hk14 | exact hk5 _ _ _ _ | exact hk14 _ _ _ _ _ | exact k5_r | exact k5_f | exact k5_gI | exact k5_aI | exact k5_aZ | exact k5_sI | exact k5_sZ | exact k5_dI | exact k5_rI | exact k5_nz | exact k5_Sl | exact k5_Sc | exact k5_Si | refine k5_pI ?_ | refine k5_pZ ?_ | refine k5_g ?_ | refine k5_t ?_ ?_ | refine k5_b ?_ fun _ => ?_))
theorem k5_I12_isTwice_14 {k5 : Int → Int → Int → Int → IM Int} (hk5 : ∀ z0 z1 z2 z3, K5 (k5 z0 z1 z2 z3)) : ∀ (n : Nat) {z0 : Int} {z1 : Int} {z2 : Int} {z3 : Int} {z4 : Int}, K5 (I12_isTwice_14 k5 n z0 z1 z2 z3 z4) := by
  intro n
  induction n with
  | zero => intros; exact k5_f
  | succ n ih => intros; exact k5_I12_isTwice_14_st hk5 (k14 := (I12_isTwice_14 k5 n)) (fun _ _ _ _ _ => ih)
theorem k5_I12_isTwice_5_st {k5 : Int → Int → Int → Int → IM Int} (hk5 : ∀ z0 z1 z2 z3, K5 (k5 z0 z1 z2 z3)) {x1 : Int} {x2 : Int} {x3 : Int} {x4 : Int} : K5 (I12_isTwice_5_st k5 x1 x2 x3 x4) := by
  unfold I12_isTwice_5_st
  repeat' (first | decide | with_reducible (first | exact k5_I12_isTwice_14 hk5 _ | exact hk5 _ _ _ _ | exact k5_r | exact k5_f | exact k5_gI | exact k5_aI | exact k5_aZ | exact k5_sI | exact k5_sZ | exact k5_dI | exact k5_rI | exact k5_nz | exact k5_Sl | exact k5_Sc | exact k5_Si | refine k5_pI ?_ | refine k5_pZ ?_ | refine k5_g ?_ | refine k5_t ?_ ?_ | refine k5_b ?_ fun _ => ?_))
theorem k5_I12_isTwice_5 : ∀ (n : Nat) {z0 : Int} {z1 : Int} {z2 : Int} {z3 : Int}, K5 (I12_isTwice_5 n z0 z1 z2 z3) := by
  intro n
  induction n with
  | zero => intros; exact k5_f
  | succ n ih => intros; exact k5_I12_isTwice_5_st  (k5 := (I12_isTwice_5 n)) (fun _ _ _ _ => ih)
theorem k5_I12_isTwice {a1 : Int} {a2 : Int} : K5 (I12_isTwice a1 a2) := by
  unfold I12_isTwice
  repeat' (first | decide | with_reducible (first | exact k5_I12_isTwice_5 _ | exact k5_r | exact k5_f | exact k5_gI | exact k5_aI | exact k5_aZ | exact k5_sI | exact k5_sZ | exact k5_dI | exact k5_rI | exact k5_nz | exact k5_Sl | exact k5_Sc | exact k5_Si | refine k5_pI ?_ | refine k5_pZ ?_ | refine k5_g ?_ | refine k5_t ?_ ?_ | refine k5_b ?_ fun _ => ?_))
theorem k5_I12_isFewPut_47 {k5 : Int → Int → Int → IM Int} (hk5 : ∀ z0 z1 z2, K5 (k5 z0 z1 z2)) {x2 : Int} {x4 : Int} {y0 : Int} : K5 (I12_isFewPut_47 k5 x2 x4 y0) := by
  unfold I12_isFewPut_47
  repeat' (first | decide | with_reducible (first | exact hk5 _ _ _ | exact k5_r | exact k5_f | exact k5_gI | exact k5_aI | exact k5_aZ | exact k5_sI | exact k5_sZ | exact k5_dI | exact k5_rI | exact k5_nz | exact k5_Sl | exact k5_Sc | exact k5_Si | refine k5_pI ?_ | refine k5_pZ ?_ | refine k5_g ?_ | refine k5_t ?_ ?_ | refine k5_b ?_ fun _ => ?_))
theorem k5_I12_isFewPut_42 {k5 : Int → Int → Int → IM Int} (hk5 : ∀ z0 z1 z2, K5 (k5 z0 z1 z2)) {x2 : Int} {x4 : Int} : K5 (I12_isFewPut_42 k5 x2 x4) := by
  unfold I12_isFewPut_42
  repeat' (first | decide | with_reducible (first | exact k5_I12_isFewPut_47 hk5 | exact hk5 _ _ _ | exact k5_r | exact k5_f | exact k5_gI | exact k5_aI | exact k5_aZ | exact k5_sI | exact k5_sZ | exact k5_dI | exact k5_rI | exact k5_nz | exact k5_Sl | exact k5_Sc | exact k5_Si | refine k5_pI ?_ | refine k5_pZ ?_ | refine k5_g ?_ | refine k5_t ?_ ?_ | refine k5_b ?_ fun _ => ?_))
theorem k5_I12_isFewPut_46 {k5 : Int → Int → Int → IM Int} (hk5 : ∀ z0 z1 z2, K5 (k5 z0 z1 z2)) {x2 : Int} {x4 : Int} : K5 (I12_isFewPut_46 k5 x2 x4) := by
  unfold I12_isFewPut_46
  repeat' (first | decide | with_reducible (first | exact k5_I12_isFewPut_47 hk5 | exact hk5 _ _ _ | exact k5_r | exact k5_f | exact k5_gI | exact k5_aI | exact k5_aZ | exact k5_sI | exact k5_sZ | exact k5_dI | exact k5_rI | exact k5_nz | exact k5_Sl | exact k5_Sc | exact k5_Si | refine k5_pI ?_ | refine k5_pZ ?_ | refine k5_g ?_ | refine k5_t ?_ ?_ | refine k5_b ?_ fun _ => ?_))
theorem k5_I12_isFewPut_5_st {k5 : Int → Int → Int → IM Int} (hk5 : ∀ z0 z1 z2, K5 (k5 z0 z1 z2)) {x2 : Int} {x3 : Int} {x4 : Int} : K5 (I12_isFewPut_5_st k5 x2 x3 x4) := by
  unfold I12_isFewPut_5_st
  repeat' (first | decide | with_reducible (first | exact k5_I12_isFewPut_42 hk5 | exact k5_I12_isFewPut_46 hk5 | exact k5_I12_isIn | exact hk5 _ _ _ | exact k5_r | exact k5_f | exact k5_gI | exact k5_aI | exact k5_aZ | exact k5_sI | exact k5_sZ | exact k5_dI | exact k5_rI | exact k5_nz | exact k5_Sl | exact k5_Sc | exact k5_Si | refine k5_pI ?_ | refine k5_pZ ?_ | refine k5_g ?_ | refine k5_t ?_ ?_ | refine k5_b ?_ fun _ => ?_))
theorem k5_I12_isFewPut_5 : ∀ (n : Nat) {z0 : Int} {z1 : Int} {z2 : Int}, K5 (I12_isFewPut_5 n z0 z1 z2) := by
  intro n
  induction n with
  | zero => intros; exact k5_f
  | succ n ih => intros; exact k5_I12_isFewPut_5_st  (k5 := (I12_isFewPut_5 n)) (fun _ _ _ => ih)
theorem k5_I12_isFewPut {a1 : Int} {a2 : Int} : K5 (I12_isFewPut a1 a2) := by
  unfold I12_isFewPut
  repeat' (first | decide | with_reducible (first | exact k5_I12_isFewPut_5 _ | exact k5_r | exact k5_f | exact k5_gI | exact k5_aI | exact k5_aZ | exact k5_sI | exact k5_sZ | exact k5_dI | exact k5_rI | exact k5_nz | exact k5_Sl | exact k5_Sc | exact k5_Si | refine k5_pI ?_ | refine k5_pZ ?_ | refine k5_g ?_ | refine k5_t ?_ ?_ | refine k5_b ?_ fun _ => ?_))
theorem k5_I12_faultOfGroup_181 {k114 : Int → Int → Int → Int → IM Int} (hk114 : ∀ z0 z1 z2 z3, K5 (k114 z0 z1 z2 z3)) {x1 : Int} {x4 : Int} {x5 : Int} {x6 : Int} {y0 : Int} {y1 : Int} {y2 : Int} : K5 (I12_faultOfGroup_181 k114 x1 x4 x5 x6 y0 y1 y2) := by
  unfold I12_faultOfGroup_181
  repeat' (first | decide | with_reducible (first | exact k5_I12_isIn | exact hk114 _ _ _ _ | exact k5_r | exact k5_f | exact k5_gI | exact k5_aI | exact k5_aZ | exact k5_sI | exact k5_sZ | exact k5_dI | exact k5_rI | exact k5_nz | exact k5_Sl | exact k5_Sc | exact k5_Si | refine k5_pI ?_ | refine k5_pZ ?_ | refine k5_g ?_ | refine k5_t ?_ ?_ | refine k5_b ?_ fun _ => ?_))
theorem k5_I12_faultOfGroup_195 {x1 : Int} : K5 (I12_faultOfGroup_195 x1) := by
  unfold I12_faultOfGroup_195
  repeat' (first | decide | with_reducible (first | exact k5_I12_isFewPut | exact k5_I12_isTwice | exact k5_r | exact k5_f | exact k5_gI | exact k5_aI | exact k5_aZ | exact k5_sI | exact k5_sZ | exact k5_dI | exact k5_rI | exact k5_nz | exact k5_Sl | exact k5_Sc | exact k5_Si | refine k5_pI ?_ | refine k5_pZ ?_ | refine k5_g ?_ | refine k5_t ?_ ?_ | refine k5_b ?_ fun _ => ?_))
theorem k5_I12_faultOfGroup_114_st {k114 : Int → Int → Int → Int → IM Int} (hk114 : ∀ z0 z1 z2 z3, K5 (k114 z0 z1 z2 z3)) {x1 : Int} {x4 : Int} {x5 : Int} {x6 : Int} : K5 (I12_faultOfGroup_114_st k114 x1 x4 x5 x6) := by
  unfold I12_faultOfGroup_114_st
  repeat' (first | decide | with_reducible (first | exact k5_I12_faultOfGroup_181 hk114 | exact k5_I12_faultOfGroup_195 | exact k5_I12_isIn | exact hk114 _ _ _ _ | exact k5_r | exact k5_f | exact k5_gI | exact k5_aI | exact k5_aZ | exact k5_sI | exact k5_sZ | exact k5_dI | exact k5_rI | exact k5_nz | exact k5_Sl | exact k5_Sc | exact k5_Si | refine k5_pI ?_ | refine k5_pZ ?_ | refine k5_g ?_ | refine k5_t ?_ ?_ | refine k5_b ?_ fun _ => ?_))
theorem k5_I12_faultOfGroup_114 : ∀ (n : Nat) {z0 : Int} {z1 : Int} {z2 : Int} {z3 : Int}, K5 (I12_faultOfGroup_114 n z0 z1 z2 z3) := by
  intro n
  induction n with
  | zero => intros; exact k5_f
  | succ n ih => intros; exact k5_I12_faultOfGroup_114_st  (k114 := (I12_faultOfGroup_114 n)) (fun _ _ _ _ => ih)
theorem k5_I12_faultOfGroup_80 {x1 : Int} {x4 : Int} {x5 : Int} : K5 (I12_faultOfGroup_80 x1 x4 x5) := by
  unfold I12_faultOfGroup_80
  repeat' (first | decide | with_reducible (first | exact k5_I12_faultOfGroup_114 _ | exact k5_I12_isSize | exact k5_r | exact k5_f | exact k5_gI | exact k5_aI | exact k5_aZ | exact k5_sI | exact k5_sZ | exact k5_dI | exact k5_rI | exact k5_nz | exact k5_Sl | exact k5_Sc | exact k5_Si | refine k5_pI ?_ | refine k5_pZ ?_ | refine k5_g ?_ | refine k5_t ?_ ?_ | refine k5_b ?_ fun _ => ?_))
theorem k5_I12_faultOfGroup_58 {x1 : Int} {x2 : Int} {x3 : Int} {x4 : Int} {x5 : Int} : K5 (I12_faultOfGroup_58 x1 x2 x3 x4 x5) := by
  unfold I12_faultOfGroup_58
  repeat' (first | decide | with_reducible (first | exact k5_I12_faultOfGroup_80 | exact k5_r | exact k5_f | exact k5_gI | exact k5_aI | exact k5_aZ | exact k5_sI | exact k5_sZ | exact k5_dI | exact k5_rI | exact k5_nz | exact k5_Sl | exact k5_Sc | exact k5_Si | refine k5_pI ?_ | refine k5_pZ ?_ | refine k5_g ?_ | refine k5_t ?_ ?_ | refine k5_b ?_ fun _ => ?_))
theorem k5_I12_faultOfGroup {a1 : Int} {a2 : Int} {a3 : Int} : K5 (I12_faultOfGroup a1 a2 a3) := by
  unfold I12_faultOfGroup
  repeat' (first | decide | with_reducible (first | exact k5_I12_faultOfGroup_58 | exact k5_r | exact k5_f | exact k5_gI | exact k5_aI | exact k5_aZ | exact k5_sI | exact k5_sZ | exact k5_dI | exact k5_rI | exact k5_nz | exact k5_Sl | exact k5_Sc | exact k5_Si | refine k5_pI ?_ | refine k5_pZ ?_ | refine k5_g ?_ | refine k5_t ?_ ?_ | refine k5_b ?_ fun _ => ?_))
theorem k5_I12_faultOfAll_54 {k6 : Int → Int → Int → IM Int} (hk6 : ∀ z0 z1 z2, K5 (k6 z0 z1 z2)) {x1 : Int} {x2 : Int} {x3 : Int} : K5 (I12_faultOfAll_54 k6 x1 x2 x3) := by
  unfold I12_faultOfAll_54
  repeat' (first | decide | with_reducible (first | exact hk6 _ _ _ | exact k5_r | exact k5_f | exact k5_gI | exact k5_aI | exact k5_aZ | exact k5_sI | exact k5_sZ | exact k5_dI | exact k5_rI | exact k5_nz | exact k5_Sl | exact k5_Sc | exact k5_Si | refine k5_pI ?_ | refine k5_pZ ?_ | refine k5_g ?_ | refine k5_t ?_ ?_ | refine k5_b ?_ fun _ => ?_))
theorem k5_I12_faultOfAll_6_st {k6 : Int → Int → Int → IM Int} (hk6 : ∀ z0 z1 z2, K5 (k6 z0 z1 z2)) {x1 : Int} {x2 : Int} {x3 : Int} : K5 (I12_faultOfAll_6_st k6 x1 x2 x3) := by
  unfold I12_faultOfAll_6_st
  repeat' (first | decide | with_reducible (first | exact k5_I12_faultOfAll_54 hk6 | exact k5_I12_faultOfGroup | exact hk6 _ _ _ | exact k5_r | exact k5_f | exact k5_gI | exact k5_aI | exact k5_aZ | exact k5_sI | exact k5_sZ | exact k5_dI | exact k5_rI | exact k5_nz | exact k5_Sl | exact k5_Sc | exact k5_Si | refine k5_pI ?_ | refine k5_pZ ?_ | refine k5_g ?_ | refine k5_t ?_ ?_ | refine k5_b ?_ fun _ => ?_))
theorem k5_I12_faultOfAll_6 : ∀ (n : Nat) {z0 : Int} {z1 : Int} {z2 : Int}, K5 (I12_faultOfAll_6 n z0 z1 z2) := by
  intro n
  induction n with
  | zero => intros; exact k5_f
  | succ n ih => intros; exact k5_I12_faultOfAll_6_st  (k6 := (I12_faultOfAll_6 n)) (fun _ _ _ => ih)
theorem k5_I12_faultOfAll  : K5 (I12_faultOfAll) := by
  unfold I12_faultOfAll
  repeat' (first | decide | with_reducible (first | exact k5_I12_faultOfAll_6 _ | exact k5_r | exact k5_f | exact k5_gI | exact k5_aI | exact k5_aZ | exact k5_sI | exact k5_sZ | exact k5_dI | exact k5_rI | exact k5_nz | exact k5_Sl | exact k5_Sc | exact k5_Si | refine k5_pI ?_ | refine k5_pZ ?_ | refine k5_g ?_ | refine k5_t ?_ ?_ | refine k5_b ?_ fun _ => ?_))
theorem k5_I12_apply {a1 : Int} {a2 : Int} : K5 (I12_apply a1 a2) := by
  unfold I12_apply
  repeat' (first | decide | with_reducible (first | exact k5_I12_gatheringOf | exact k5_I12_spot | exact k5_r | exact k5_f | exact k5_gI | exact k5_aI | exact k5_aZ | exact k5_sI | exact k5_sZ | exact k5_dI | exact k5_rI | exact k5_nz | exact k5_Sl | exact k5_Sc | exact k5_Si | refine k5_pI ?_ | refine k5_pZ ?_ | refine k5_g ?_ | refine k5_t ?_ ?_ | refine k5_b ?_ fun _ => ?_))
theorem kx_I12_isMade {a1 : Int} : KX (I12_isMade a1) := by
  unfold I12_isMade
  repeat' (first | decide | with_reducible (first | exact kx_f | exact kx_no | exact k5_I12_fine | exact k5_I12_layOut | exact k5_I12_no | exact k5_I12_total | exact k5_r | exact k5_f | exact k5_gI | exact k5_aI | exact k5_aZ | exact k5_sI | exact k5_sZ | exact k5_dI | exact k5_rI | exact k5_nz | exact k5_Sl | exact k5_Sc | exact k5_Si | refine k5_pI ?_ | refine k5_pZ ?_ | exact kx_e5 | exact kx_e15 | refine kx_as ?_ | refine kx_g ?_ | refine kx_t ?_ ?_ | refine kx_b ?_ fun _ => ?_ | refine k5_g ?_ | refine k5_t ?_ ?_ | refine k5_b ?_ fun _ => ?_))
theorem k5_I12_add_78 {x1 : Int} : K5 (I12_add_78 x1) := by
  unfold I12_add_78
  repeat' (first | decide | with_reducible (first | exact k5_r | exact k5_f | exact k5_gI | exact k5_aI | exact k5_aZ | exact k5_sI | exact k5_sZ | exact k5_dI | exact k5_rI | exact k5_nz | exact k5_Sl | exact k5_Sc | exact k5_Si | refine k5_pI ?_ | refine k5_pZ ?_ | refine k5_g ?_ | refine k5_t ?_ ?_ | refine k5_b ?_ fun _ => ?_))
theorem k5_I12_add_37_st {k37 : Int → Int → Int → IM Unit} (hk37 : ∀ z0 z1 z2, K5 (k37 z0 z1 z2)) {x1 : Int} {x4 : Int} {x5 : Int} : K5 (I12_add_37_st k37 x1 x4 x5) := by
  unfold I12_add_37_st
  repeat' (first | decide | with_reducible (first | exact k5_I12_add_78 | exact k5_I12_spot | exact hk37 _ _ _ | exact k5_r | exact k5_f | exact k5_gI | exact k5_aI | exact k5_aZ | exact k5_sI | exact k5_sZ | exact k5_dI | exact k5_rI | exact k5_nz | exact k5_Sl | exact k5_Sc | exact k5_Si | refine k5_pI ?_ | refine k5_pZ ?_ | refine k5_g ?_ | refine k5_t ?_ ?_ | refine k5_b ?_ fun _ => ?_))
theorem k5_I12_add_37 : ∀ (n : Nat) {z0 : Int} {z1 : Int} {z2 : Int}, K5 (I12_add_37 n z0 z1 z2) := by
  intro n
  induction n with
  | zero => intros; exact k5_f
  | succ n ih => intros; exact k5_I12_add_37_st  (k37 := (I12_add_37 n)) (fun _ _ _ => ih)
theorem k5_I12_add {a1 : Int} {a2 : Int} {a3 : Int} : K5 (I12_add a1 a2 a3) := by
  unfold I12_add
  repeat' (first | decide | with_reducible (first | exact k5_I12_add_37 _ | exact k5_r | exact k5_f | exact k5_gI | exact k5_aI | exact k5_aZ | exact k5_sI | exact k5_sZ | exact k5_dI | exact k5_rI | exact k5_nz | exact k5_Sl | exact k5_Sc | exact k5_Si | refine k5_pI ?_ | refine k5_pZ ?_ | refine k5_g ?_ | refine k5_t ?_ ?_ | refine k5_b ?_ fun _ => ?_))
theorem k5_I12_write {a1 : Int} : K5 (I12_write a1) := by
  unfold I12_write
  repeat' (first | decide | with_reducible (first | exact k5_r | exact k5_f | exact k5_gI | exact k5_aI | exact k5_aZ | exact k5_sI | exact k5_sZ | exact k5_dI | exact k5_rI | exact k5_nz | exact k5_Sl | exact k5_Sc | exact k5_Si | refine k5_pI ?_ | refine k5_pZ ?_ | refine k5_g ?_ | refine k5_t ?_ ?_ | refine k5_b ?_ fun _ => ?_))
theorem k5_I12_writeNumber_37 {x1 : Int} : K5 (I12_writeNumber_37 x1) := by
  unfold I12_writeNumber_37
  repeat' (first | decide | with_reducible (first | exact k5_I12_write | exact k5_r | exact k5_f | exact k5_gI | exact k5_aI | exact k5_aZ | exact k5_sI | exact k5_sZ | exact k5_dI | exact k5_rI | exact k5_nz | exact k5_Sl | exact k5_Sc | exact k5_Si | refine k5_pI ?_ | refine k5_pZ ?_ | refine k5_g ?_ | refine k5_t ?_ ?_ | refine k5_b ?_ fun _ => ?_))
theorem k5_I12_writeNumber_17 {x1 : Int} : K5 (I12_writeNumber_17 x1) := by
  unfold I12_writeNumber_17
  repeat' (first | decide | with_reducible (first | exact k5_I12_write | exact k5_I12_writeNumber_37 | exact k5_r | exact k5_f | exact k5_gI | exact k5_aI | exact k5_aZ | exact k5_sI | exact k5_sZ | exact k5_dI | exact k5_rI | exact k5_nz | exact k5_Sl | exact k5_Sc | exact k5_Si | refine k5_pI ?_ | refine k5_pZ ?_ | refine k5_g ?_ | refine k5_t ?_ ?_ | refine k5_b ?_ fun _ => ?_))
theorem k5_I12_writeNumber {a1 : Int} : K5 (I12_writeNumber a1) := by
  unfold I12_writeNumber
  repeat' (first | decide | with_reducible (first | exact k5_I12_write | exact k5_I12_writeNumber_17 | exact k5_r | exact k5_f | exact k5_gI | exact k5_aI | exact k5_aZ | exact k5_sI | exact k5_sZ | exact k5_dI | exact k5_rI | exact k5_nz | exact k5_Sl | exact k5_Sc | exact k5_Si | refine k5_pI ?_ | refine k5_pZ ?_ | refine k5_g ?_ | refine k5_t ?_ ?_ | refine k5_b ?_ fun _ => ?_))
theorem k5_I12_writeWord_2_st {k2 : Nat → Int → IM Unit} (hk2 : ∀ z0 z1, K5 (k2 z0 z1)) {x1 : Nat} {x2 : Int} : K5 (I12_writeWord_2_st k2 x1 x2) := by
  unfold I12_writeWord_2_st
  repeat' (first | decide | with_reducible (first | exact k5_I12_write | exact hk2 _ _ | exact k5_r | exact k5_f | exact k5_gI | exact k5_aI | exact k5_aZ | exact k5_sI | exact k5_sZ | exact k5_dI | exact k5_rI | exact k5_nz | exact k5_Sl | exact k5_Sc | exact k5_Si | refine k5_pI ?_ | refine k5_pZ ?_ | refine k5_g ?_ | refine k5_t ?_ ?_ | refine k5_b ?_ fun _ => ?_))
theorem k5_I12_writeWord_2 : ∀ (n : Nat) {z0 : Nat} {z1 : Int}, K5 (I12_writeWord_2 n z0 z1) := by
  intro n
  induction n with
  | zero => intros; exact k5_f
  | succ n ih => intros; exact k5_I12_writeWord_2_st  (k2 := (I12_writeWord_2 n)) (fun _ _ => ih)
theorem k5_I12_writeWord {a1 : Nat} : K5 (I12_writeWord a1) := by
  unfold I12_writeWord
  repeat' (first | decide | with_reducible (first | exact k5_I12_writeWord_2 _ | exact k5_r | exact k5_f | exact k5_gI | exact k5_aI | exact k5_aZ | exact k5_sI | exact k5_sZ | exact k5_dI | exact k5_rI | exact k5_nz | exact k5_Sl | exact k5_Sc | exact k5_Si | refine k5_pI ?_ | refine k5_pZ ?_ | refine k5_g ?_ | refine k5_t ?_ ?_ | refine k5_b ?_ fun _ => ?_))
theorem k5_I12_writeSign_30_st {k30 : Int → Int → IM Unit} (hk30 : ∀ z0 z1, K5 (k30 z0 z1)) {x1 : Int} {x2 : Int} : K5 (I12_writeSign_30_st k30 x1 x2) := by
  unfold I12_writeSign_30_st
  repeat' (first | decide | with_reducible (first | exact k5_I12_write | exact hk30 _ _ | exact k5_r | exact k5_f | exact k5_gI | exact k5_aI | exact k5_aZ | exact k5_sI | exact k5_sZ | exact k5_dI | exact k5_rI | exact k5_nz | exact k5_Sl | exact k5_Sc | exact k5_Si | refine k5_pI ?_ | refine k5_pZ ?_ | refine k5_g ?_ | refine k5_t ?_ ?_ | refine k5_b ?_ fun _ => ?_))
theorem k5_I12_writeSign_30 : ∀ (n : Nat) {z0 : Int} {z1 : Int}, K5 (I12_writeSign_30 n z0 z1) := by
  intro n
  induction n with
  | zero => intros; exact k5_f
  | succ n ih => intros; exact k5_I12_writeSign_30_st  (k30 := (I12_writeSign_30 n)) (fun _ _ => ih)
theorem k5_I12_writeSign {a1 : Int} : K5 (I12_writeSign a1) := by
  unfold I12_writeSign
  repeat' (first | decide | with_reducible (first | exact k5_I12_writeSign_30 _ | exact k5_I12_writeWord | exact k5_r | exact k5_f | exact k5_gI | exact k5_aI | exact k5_aZ | exact k5_sI | exact k5_sZ | exact k5_dI | exact k5_rI | exact k5_nz | exact k5_Sl | exact k5_Sc | exact k5_Si | refine k5_pI ?_ | refine k5_pZ ?_ | refine k5_g ?_ | refine k5_t ?_ ?_ | refine k5_b ?_ fun _ => ?_))
theorem k5_I12_isLetters {a0 : Int} : K5 (I12_isLetters a0) := by
  unfold I12_isLetters
  repeat' (first | decide | with_reducible (first | exact k5_r | exact k5_f | exact k5_gI | exact k5_aI | exact k5_aZ | exact k5_sI | exact k5_sZ | exact k5_dI | exact k5_rI | exact k5_nz | exact k5_Sl | exact k5_Sc | exact k5_Si | refine k5_pI ?_ | refine k5_pZ ?_ | refine k5_g ?_ | refine k5_t ?_ ?_ | refine k5_b ?_ fun _ => ?_))
theorem k5_I12_writeChanges_172 {k6 : Int → Int → Int → Int → IM Unit} (hk6 : ∀ z0 z1 z2 z3, K5 (k6 z0 z1 z2 z3)) {k15 : Int → Int → Int → Int → Int → IM Unit} (hk15 : ∀ z0 z1 z2 z3 z4, K5 (k15 z0 z1 z2 z3 z4)) {k45 : Int → Int → Int → Int → Int → Int → Int → IM Unit} (hk45 : ∀ z0 z1 z2 z3 z4 z5 z6, K5 (k45 z0 z1 z2 z3 z4 z5 z6)) {x1 : Int} {x3 : Int} {x4 : Int} {x5 : Int} {x6 : Int} {x7 : Int} {x8 : Int} : K5 (I12_writeChanges_172 k6 k15 k45 x1 x3 x4 x5 x6 x7 x8) := by
  unfold I12_writeChanges_172
  repeat' (first | decide | with_reducible (first | exact hk6 _ _ _ _ | exact hk15 _ _ _ _ _ | exact hk45 _ _ _ _ _ _ _ | exact k5_r | exact k5_f | exact k5_gI | exact k5_aI | exact k5_aZ | exact k5_sI | exact k5_sZ | exact k5_dI | exact k5_rI | exact k5_nz | exact k5_Sl | exact k5_Sc | exact k5_Si | refine k5_pI ?_ | refine k5_pZ ?_ | refine k5_g ?_ | refine k5_t ?_ ?_ | refine k5_b ?_ fun _ => ?_))
theorem k5_I12_writeChanges_125 {k6 : Int → Int → Int → Int → IM Unit} (hk6 : ∀ z0 z1 z2 z3, K5 (k6 z0 z1 z2 z3)) {k15 : Int → Int → Int → Int → Int → IM Unit} (hk15 : ∀ z0 z1 z2 z3 z4, K5 (k15 z0 z1 z2 z3 z4)) {k45 : Int → Int → Int → Int → Int → Int → Int → IM Unit} (hk45 : ∀ z0 z1 z2 z3 z4 z5 z6, K5 (k45 z0 z1 z2 z3 z4 z5 z6)) {x1 : Int} {x3 : Int} {x4 : Int} {x5 : Int} {x6 : Int} {x7 : Int} {x8 : Int} : K5 (I12_writeChanges_125 k6 k15 k45 x1 x3 x4 x5 x6 x7 x8) := by
  unfold I12_writeChanges_125
  repeat' (first | decide | with_reducible (first | exact k5_I12_write | exact k5_I12_writeChanges_172 hk6 hk15 hk45 | exact k5_I12_writeNumber | exact k5_I12_writeSign | exact hk6 _ _ _ _ | exact hk15 _ _ _ _ _ | exact hk45 _ _ _ _ _ _ _ | exact k5_r | exact k5_f | exact k5_gI | exact k5_aI | exact k5_aZ | exact k5_sI | exact k5_sZ | exact k5_dI | exact k5_rI | exact k5_nz | exact k5_Sl | exact k5_Sc | exact k5_Si | refine k5_pI ?_ | refine k5_pZ ?_ | refine k5_g ?_ | refine k5_t ?_ ?_ | refine k5_b ?_ fun _ => ?_))
theorem k5_I12_writeChanges_122 {k6 : Int → Int → Int → Int → IM Unit} (hk6 : ∀ z0 z1 z2 z3, K5 (k6 z0 z1 z2 z3)) {k15 : Int → Int → Int → Int → Int → IM Unit} (hk15 : ∀ z0 z1 z2 z3 z4, K5 (k15 z0 z1 z2 z3 z4)) {k45 : Int → Int → Int → Int → Int → Int → Int → IM Unit} (hk45 : ∀ z0 z1 z2 z3 z4 z5 z6, K5 (k45 z0 z1 z2 z3 z4 z5 z6)) {x1 : Int} {x3 : Int} {x4 : Int} {x5 : Int} {x6 : Int} {x7 : Int} {x8 : Int} {y0 : Int} : K5 (I12_writeChanges_122 k6 k15 k45 x1 x3 x4 x5 x6 x7 x8 y0) := by
  unfold I12_writeChanges_122
  repeat' (first | decide | with_reducible (first | exact k5_I12_write | exact k5_I12_writeChanges_125 hk6 hk15 hk45 | exact hk6 _ _ _ _ | exact hk15 _ _ _ _ _ | exact hk45 _ _ _ _ _ _ _ | exact k5_r | exact k5_f | exact k5_gI | exact k5_aI | exact k5_aZ | exact k5_sI | exact k5_sZ | exact k5_dI | exact k5_rI | exact k5_nz | exact k5_Sl | exact k5_Sc | exact k5_Si | refine k5_pI ?_ | refine k5_pZ ?_ | refine k5_g ?_ | refine k5_t ?_ ?_ | refine k5_b ?_ fun _ => ?_))
theorem k5_I12_writeChanges_92 {k6 : Int → Int → Int → Int → IM Unit} (hk6 : ∀ z0 z1 z2 z3, K5 (k6 z0 z1 z2 z3)) {k15 : Int → Int → Int → Int → Int → IM Unit} (hk15 : ∀ z0 z1 z2 z3 z4, K5 (k15 z0 z1 z2 z3 z4)) {k45 : Int → Int → Int → Int → Int → Int → Int → IM Unit} (hk45 : ∀ z0 z1 z2 z3 z4 z5 z6, K5 (k45 z0 z1 z2 z3 z4 z5 z6)) {x1 : Int} {x3 : Int} {x5 : Int} {x6 : Int} {x7 : Int} {x8 : Int} {y0 : Int} : K5 (I12_writeChanges_92 k6 k15 k45 x1 x3 x5 x6 x7 x8 y0) := by
  unfold I12_writeChanges_92
  repeat' (first | decide | with_reducible (first | exact k5_I12_write | exact k5_I12_writeChanges_122 hk6 hk15 hk45 | exact k5_I12_writeChanges_125 hk6 hk15 hk45 | exact hk6 _ _ _ _ | exact hk15 _ _ _ _ _ | exact hk45 _ _ _ _ _ _ _ | exact k5_r | exact k5_f | exact k5_gI | exact k5_aI | exact k5_aZ | exact k5_sI | exact k5_sZ | exact k5_dI | exact k5_rI | exact k5_nz | exact k5_Sl | exact k5_Sc | exact k5_Si | refine k5_pI ?_ | refine k5_pZ ?_ | refine k5_g ?_ | refine k5_t ?_ ?_ | refine k5_b ?_ fun _ => ?_))
theorem k5_I12_writeChanges_73 {k6 : Int → Int → Int → Int → IM Unit} (hk6 : ∀ z0 z1 z2 z3, K5 (k6 z0 z1 z2 z3)) {k15 : Int → Int → Int → Int → Int → IM Unit} (hk15 : ∀ z0 z1 z2 z3 z4, K5 (k15 z0 z1 z2 z3 z4)) {k45 : Int → Int → Int → Int → Int → Int → Int → IM Unit} (hk45 : ∀ z0 z1 z2 z3 z4 z5 z6, K5 (k45 z0 z1 z2 z3 z4 z5 z6)) {x1 : Int} {x3 : Int} {x4 : Int} {x5 : Int} {x6 : Int} {x7 : Int} {x8 : Int} {y0 : Int} : K5 (I12_writeChanges_73 k6 k15 k45 x1 x3 x4 x5 x6 x7 x8 y0) := by
  unfold I12_writeChanges_73
  repeat' (first | decide | with_reducible (first | exact k5_I12_writeChanges_172 hk6 hk15 hk45 | exact k5_I12_writeChanges_92 hk6 hk15 hk45 | exact hk6 _ _ _ _ | exact hk15 _ _ _ _ _ | exact hk45 _ _ _ _ _ _ _ | exact k5_r | exact k5_f | exact k5_gI | exact k5_aI | exact k5_aZ | exact k5_sI | exact k5_sZ | exact k5_dI | exact k5_rI | exact k5_nz | exact k5_Sl | exact k5_Sc | exact k5_Si | refine k5_pI ?_ | refine k5_pZ ?_ | refine k5_g ?_ | refine k5_t ?_ ?_ | refine k5_b ?_ fun _ => ?_))
theorem k5_I12_writeChanges_178 {k6 : Int → Int → Int → Int → IM Unit} (hk6 : ∀ z0 z1 z2 z3, K5 (k6 z0 z1 z2 z3)) {k15 : Int → Int → Int → Int → Int → IM Unit} (hk15 : ∀ z0 z1 z2 z3 z4, K5 (k15 z0 z1 z2 z3 z4)) {x1 : Int} {x3 : Int} {x4 : Int} {x5 : Int} {x6 : Int} : K5 (I12_writeChanges_178 k6 k15 x1 x3 x4 x5 x6) := by
  unfold I12_writeChanges_178
  repeat' (first | decide | with_reducible (first | exact hk6 _ _ _ _ | exact hk15 _ _ _ _ _ | exact k5_r | exact k5_f | exact k5_gI | exact k5_aI | exact k5_aZ | exact k5_sI | exact k5_sZ | exact k5_dI | exact k5_rI | exact k5_nz | exact k5_Sl | exact k5_Sc | exact k5_Si | refine k5_pI ?_ | refine k5_pZ ?_ | refine k5_g ?_ | refine k5_t ?_ ?_ | refine k5_b ?_ fun _ => ?_))
theorem k5_I12_writeChanges_45_st {k6 : Int → Int → Int → Int → IM Unit} (hk6 : ∀ z0 z1 z2 z3, K5 (k6 z0 z1 z2 z3)) {k15 : Int → Int → Int → Int → Int → IM Unit} (hk15 : ∀ z0 z1 z2 z3 z4, K5 (k15 z0 z1 z2 z3 z4)) {k45 : Int → Int → Int → Int → Int → Int → Int → IM Unit} (hk45 : ∀ z0 z1 z2 z3 z4 z5 z6, K5 (k45 z0 z1 z2 z3 z4 z5 z6)) {x1 : Int} {x3 : Int} {x4 : Int} {x5 : Int} {x6 : Int} {x7 : Int} {x8 : Int} : K5 (I12_writeChanges_45_st k6 k15 k45 x1 x3 x4 x5 x6 x7 x8) := by
  unfold I12_writeChanges_45_st
  repeat' (first | decide | with_reducible (first | exact k5_I12_writeChanges_178 hk6 hk15 | exact k5_I12_writeChanges_73 hk6 hk15 hk45 | exact hk6 _ _ _ _ | exact hk15 _ _ _ _ _ | exact hk45 _ _ _ _ _ _ _ | exact k5_r | exact k5_f | exact k5_gI | exact k5_aI | exact k5_aZ | exact k5_sI | exact k5_sZ | exact k5_dI | exact k5_rI | exact k5_nz | exact k5_Sl | exact k5_Sc | exact k5_Si | refine k5_pI ?_ | refine k5_pZ ?_ | refine k5_g ?_ | refine k5_t ?_ ?_ | refine k5_b ?_ fun _ => ?_))
theorem k5_I12_writeChanges_45 {k6 : Int → Int → Int → Int → IM Unit} (hk6 : ∀ z0 z1 z2 z3, K5 (k6 z0 z1 z2 z3)) {k15 : Int → Int → Int → Int → Int → IM Unit} (hk15 : ∀ z0 z1 z2 z3 z4, K5 (k15 z0 z1 z2 z3 z4)) : ∀ (n : Nat) {z0 : Int} {z1 : Int} {z2 : Int} {z3 : Int} {z4 : Int} {z5 : Int} {z6 : Int}, K5 (I12_writeChanges_45 k6 k15 n z0 z1 z2 z3 z4 z5 z6) := by
  intro n
  induction n with
  | zero => intros; exact k5_f
  | succ n ih => intros; exact k5_I12_writeChanges_45_st hk6 hk15 (k45 := (I12_writeChanges_45 k6 k15 n)) (fun _ _ _ _ _ _ _ => ih)
theorem k5_I12_writeChanges_184 {k6 : Int → Int → Int → Int → IM Unit} (hk6 : ∀ z0 z1 z2 z3, K5 (k6 z0 z1 z2 z3)) {x1 : Int} {x3 : Int} {x4 : Int} {x5 : Int} : K5 (I12_writeChanges_184 k6 x1 x3 x4 x5) := by
  unfold I12_writeChanges_184
  repeat' (first | decide | with_reducible (first | exact hk6 _ _ _ _ | exact k5_r | exact k5_f | exact k5_gI | exact k5_aI | exact k5_aZ | exact k5_sI | exact k5_sZ | exact k5_dI | exact k5_rI | exact k5_nz | exact k5_Sl | exact k5_Sc | exact k5_Si | refine k5_pI ?_ | refine k5_pZ ?_ | refine k5_g ?_ | refine k5_t ?_ ?_ | refine k5_b ?_ fun _ => ?_))
theorem k5_I12_writeChanges_15_st {k6 : Int → Int → Int → Int → IM Unit} (hk6 : ∀ z0 z1 z2 z3, K5 (k6 z0 z1 z2 z3)) {k15 : Int → Int → Int → Int → Int → IM Unit} (hk15 : ∀ z0 z1 z2 z3 z4, K5 (k15 z0 z1 z2 z3 z4)) {x1 : Int} {x3 : Int} {x4 : Int} {x5 : Int} {x6 : Int} : K5 (I12_writeChanges_15_st k6 k15 x1 x3 x4 x5 x6) := by
  unfold I12_writeChanges_15_st
  repeat' (first | decide | with_reducible (first | exact k5_I12_spot | exact k5_I12_writeChanges_184 hk6 | exact k5_I12_writeChanges_45 hk6 hk15 _ | exact hk6 _ _ _ _ | exact hk15 _ _ _ _ _ | exact k5_r | exact k5_f | exact k5_gI | exact k5_aI | exact k5_aZ | exact k5_sI | exact k5_sZ | exact k5_dI | exact k5_rI | exact k5_nz | exact k5_Sl | exact k5_Sc | exact k5_Si | refine k5_pI ?_ | refine k5_pZ ?_ | refine k5_g ?_ | refine k5_t ?_ ?_ | refine k5_b ?_ fun _ => ?_))
theorem k5_I12_writeChanges_15 {k6 : Int → Int → Int → Int → IM Unit} (hk6 : ∀ z0 z1 z2 z3, K5 (k6 z0 z1 z2 z3)) : ∀ (n : Nat) {z0 : Int} {z1 : Int} {z2 : Int} {z3 : Int} {z4 : Int}, K5 (I12_writeChanges_15 k6 n z0 z1 z2 z3 z4) := by
  intro n
  induction n with
  | zero => intros; exact k5_f
  | succ n ih => intros; exact k5_I12_writeChanges_15_st hk6 (k15 := (I12_writeChanges_15 k6 n)) (fun _ _ _ _ _ => ih)
theorem k5_I12_writeChanges_190 {x4 : Int} : K5 (I12_writeChanges_190 x4) := by
  unfold I12_writeChanges_190
  repeat' (first | decide | with_reducible (first | exact k5_I12_write | exact k5_r | exact k5_f | exact k5_gI | exact k5_aI | exact k5_aZ | exact k5_sI | exact k5_sZ | exact k5_dI | exact k5_rI | exact k5_nz | exact k5_Sl | exact k5_Sc | exact k5_Si | refine k5_pI ?_ | refine k5_pZ ?_ | refine k5_g ?_ | refine k5_t ?_ ?_ | refine k5_b ?_ fun _ => ?_))
theorem k5_I12_writeChanges_6_st {k6 : Int → Int → Int → Int → IM Unit} (hk6 : ∀ z0 z1 z2 z3, K5 (k6 z0 z1 z2 z3)) {x1 : Int} {x3 : Int} {x4 : Int} {x5 : Int} : K5 (I12_writeChanges_6_st k6 x1 x3 x4 x5) := by
  unfold I12_writeChanges_6_st
  repeat' (first | decide | with_reducible (first | exact k5_I12_writeChanges_15 hk6 _ | exact k5_I12_writeChanges_190 | exact hk6 _ _ _ _ | exact k5_r | exact k5_f | exact k5_gI | exact k5_aI | exact k5_aZ | exact k5_sI | exact k5_sZ | exact k5_dI | exact k5_rI | exact k5_nz | exact k5_Sl | exact k5_Sc | exact k5_Si | refine k5_pI ?_ | refine k5_pZ ?_ | refine k5_g ?_ | refine k5_t ?_ ?_ | refine k5_b ?_ fun _ => ?_))
theorem k5_I12_writeChanges_6 : ∀ (n : Nat) {z0 : Int} {z1 : Int} {z2 : Int} {z3 : Int}, K5 (I12_writeChanges_6 n z0 z1 z2 z3) := by
  intro n
  induction n with
  | zero => intros; exact k5_f
  | succ n ih => intros; exact k5_I12_writeChanges_6_st  (k6 := (I12_writeChanges_6 n)) (fun _ _ _ _ => ih)
theorem k5_I12_writeChanges {a1 : Int} {a2 : Int} {a3 : Int} : K5 (I12_writeChanges a1 a2 a3) := by
  unfold I12_writeChanges
  repeat' (first | decide | with_reducible (first | exact k5_I12_writeChanges_6 _ | exact k5_r | exact k5_f | exact k5_gI | exact k5_aI | exact k5_aZ | exact k5_sI | exact k5_sZ | exact k5_dI | exact k5_rI | exact k5_nz | exact k5_Sl | exact k5_Sc | exact k5_Si | refine k5_pI ?_ | refine k5_pZ ?_ | refine k5_g ?_ | refine k5_t ?_ ?_ | refine k5_b ?_ fun _ => ?_))
theorem k5_I12_writeBook_169 {k7 : Int → Int → IM Unit} (hk7 : ∀ z0 z1, K5 (k7 z0 z1)) {x1 : Int} {x2 : Int} {x3 : Int} {x4 : Int} : K5 (I12_writeBook_169 k7 x1 x2 x3 x4) := by
  unfold I12_writeBook_169
  repeat' (first | decide | with_reducible (first | exact k5_I12_writeChanges | exact k5_I12_writeNumber | exact hk7 _ _ | exact k5_r | exact k5_f | exact k5_gI | exact k5_aI | exact k5_aZ | exact k5_sI | exact k5_sZ | exact k5_dI | exact k5_rI | exact k5_nz | exact k5_Sl | exact k5_Sc | exact k5_Si | refine k5_pI ?_ | refine k5_pZ ?_ | refine k5_g ?_ | refine k5_t ?_ ?_ | refine k5_b ?_ fun _ => ?_))
theorem k5_I12_writeBook_132 {k7 : Int → Int → IM Unit} (hk7 : ∀ z0 z1, K5 (k7 z0 z1)) {x1 : Int} {x2 : Int} {x3 : Int} {x4 : Int} : K5 (I12_writeBook_132 k7 x1 x2 x3 x4) := by
  unfold I12_writeBook_132
  repeat' (first | decide | with_reducible (first | exact k5_I12_write | exact k5_I12_writeBook_169 hk7 | exact k5_I12_writeSign | exact hk7 _ _ | exact k5_r | exact k5_f | exact k5_gI | exact k5_aI | exact k5_aZ | exact k5_sI | exact k5_sZ | exact k5_dI | exact k5_rI | exact k5_nz | exact k5_Sl | exact k5_Sc | exact k5_Si | refine k5_pI ?_ | refine k5_pZ ?_ | refine k5_g ?_ | refine k5_t ?_ ?_ | refine k5_b ?_ fun _ => ?_))
theorem k5_I12_writeBook_122 {k7 : Int → Int → IM Unit} (hk7 : ∀ z0 z1, K5 (k7 z0 z1)) {x1 : Int} {x2 : Int} {x3 : Int} {x4 : Int} : K5 (I12_writeBook_122 k7 x1 x2 x3 x4) := by
  unfold I12_writeBook_122
  repeat' (first | decide | with_reducible (first | exact k5_I12_write | exact k5_I12_writeBook_132 hk7 | exact hk7 _ _ | exact k5_r | exact k5_f | exact k5_gI | exact k5_aI | exact k5_aZ | exact k5_sI | exact k5_sZ | exact k5_dI | exact k5_rI | exact k5_nz | exact k5_Sl | exact k5_Sc | exact k5_Si | refine k5_pI ?_ | refine k5_pZ ?_ | refine k5_g ?_ | refine k5_t ?_ ?_ | refine k5_b ?_ fun _ => ?_))
theorem k5_I12_writeBook_25_st {k7 : Int → Int → IM Unit} (hk7 : ∀ z0 z1, K5 (k7 z0 z1)) {k25 : Int → Int → Int → Int → IM Unit} (hk25 : ∀ z0 z1 z2 z3, K5 (k25 z0 z1 z2 z3)) {x1 : Int} {x2 : Int} {x3 : Int} {x4 : Int} : K5 (I12_writeBook_25_st k7 k25 x1 x2 x3 x4) := by
  unfold I12_writeBook_25_st
  repeat' (first | decide | with_reducible (first | exact k5_I12_isLetters | exact k5_I12_writeBook_122 hk7 | exact hk7 _ _ | exact hk25 _ _ _ _ | exact k5_r | exact k5_f | exact k5_gI | exact k5_aI | exact k5_aZ | exact k5_sI | exact k5_sZ | exact k5_dI | exact k5_rI | exact k5_nz | exact k5_Sl | exact k5_Sc | exact k5_Si | refine k5_pI ?_ | refine k5_pZ ?_ | refine k5_g ?_ | refine k5_t ?_ ?_ | refine k5_b ?_ fun _ => ?_))
theorem k5_I12_writeBook_25 {k7 : Int → Int → IM Unit} (hk7 : ∀ z0 z1, K5 (k7 z0 z1)) : ∀ (n : Nat) {z0 : Int} {z1 : Int} {z2 : Int} {z3 : Int}, K5 (I12_writeBook_25 k7 n z0 z1 z2 z3) := by
  intro n
  induction n with
  | zero => intros; exact k5_f
  | succ n ih => intros; exact k5_I12_writeBook_25_st hk7 (k25 := (I12_writeBook_25 k7 n)) (fun _ _ _ _ => ih)
theorem k5_I12_writeBook_7_st {k7 : Int → Int → IM Unit} (hk7 : ∀ z0 z1, K5 (k7 z0 z1)) {x1 : Int} {x2 : Int} : K5 (I12_writeBook_7_st k7 x1 x2) := by
  unfold I12_writeBook_7_st
  repeat' (first | decide | with_reducible (first | exact k5_I12_writeBook_25 hk7 _ | exact hk7 _ _ | exact k5_r | exact k5_f | exact k5_gI | exact k5_aI | exact k5_aZ | exact k5_sI | exact k5_sZ | exact k5_dI | exact k5_rI | exact k5_nz | exact k5_Sl | exact k5_Sc | exact k5_Si | refine k5_pI ?_ | refine k5_pZ ?_ | refine k5_g ?_ | refine k5_t ?_ ?_ | refine k5_b ?_ fun _ => ?_))
theorem k5_I12_writeBook_7 : ∀ (n : Nat) {z0 : Int} {z1 : Int}, K5 (I12_writeBook_7 n z0 z1) := by
  intro n
  induction n with
  | zero => intros; exact k5_f
  | succ n ih => intros; exact k5_I12_writeBook_7_st  (k7 := (I12_writeBook_7 n)) (fun _ _ => ih)
theorem k5_I12_writeBook {a1 : Int} : K5 (I12_writeBook a1) := by
  unfold I12_writeBook
  repeat' (first | decide | with_reducible (first | exact k5_I12_writeBook_7 _ | exact k5_r | exact k5_f | exact k5_gI | exact k5_aI | exact k5_aZ | exact k5_sI | exact k5_sZ | exact k5_dI | exact k5_rI | exact k5_nz | exact k5_Sl | exact k5_Sc | exact k5_Si | refine k5_pI ?_ | refine k5_pZ ?_ | refine k5_g ?_ | refine k5_t ?_ ?_ | refine k5_b ?_ fun _ => ?_))
theorem k5_I12_writeName {a1 : Int} {a2 : Int} : K5 (I12_writeName a1 a2) := by
  unfold I12_writeName
  repeat' (first | decide | with_reducible (first | exact k5_I12_write | exact k5_I12_writeNumber | exact k5_I12_writeSign | exact k5_r | exact k5_f | exact k5_gI | exact k5_aI | exact k5_aZ | exact k5_sI | exact k5_sZ | exact k5_dI | exact k5_rI | exact k5_nz | exact k5_Sl | exact k5_Sc | exact k5_Si | refine k5_pI ?_ | refine k5_pZ ?_ | refine k5_g ?_ | refine k5_t ?_ ?_ | refine k5_b ?_ fun _ => ?_))
theorem k5_I12_tell {a1 : Int} : K5 (I12_tell a1) := by
  unfold I12_tell
  repeat' (first | decide | with_reducible (first | exact k5_I12_fine | exact k5_I12_isIn | exact k5_I12_no | exact k5_r | exact k5_f | exact k5_gI | exact k5_aI | exact k5_aZ | exact k5_sI | exact k5_sZ | exact k5_dI | exact k5_rI | exact k5_nz | exact k5_Sl | exact k5_Sc | exact k5_Si | refine k5_pI ?_ | refine k5_pZ ?_ | refine k5_g ?_ | refine k5_t ?_ ?_ | refine k5_b ?_ fun _ => ?_))
theorem k5_I12_isFormat {a0 : Int} : K5 (I12_isFormat a0) := by
  unfold I12_isFormat
  repeat' (first | decide | with_reducible (first | exact k5_r | exact k5_f | exact k5_gI | exact k5_aI | exact k5_aZ | exact k5_sI | exact k5_sZ | exact k5_dI | exact k5_rI | exact k5_nz | exact k5_Sl | exact k5_Sc | exact k5_Si | refine k5_pI ?_ | refine k5_pZ ?_ | refine k5_g ?_ | refine k5_t ?_ ?_ | refine k5_b ?_ fun _ => ?_))
theorem k5_I12_sheetOf {a0 : Int} {a1 : Int} {a2 : Int} : K5 (I12_sheetOf a0 a1 a2) := by
  unfold I12_sheetOf
  repeat' (first | decide | with_reducible (first | exact k5_r | exact k5_f | exact k5_gI | exact k5_aI | exact k5_aZ | exact k5_sI | exact k5_sZ | exact k5_dI | exact k5_rI | exact k5_nz | exact k5_Sl | exact k5_Sc | exact k5_Si | refine k5_pI ?_ | refine k5_pZ ?_ | refine k5_g ?_ | refine k5_t ?_ ?_ | refine k5_b ?_ fun _ => ?_))
theorem k5_I12_sheetsOf {a0 : Int} {a1 : Int} : K5 (I12_sheetsOf a0 a1) := by
  unfold I12_sheetsOf
  repeat' (first | decide | with_reducible (first | exact k5_I12_sheetOf | exact k5_r | exact k5_f | exact k5_gI | exact k5_aI | exact k5_aZ | exact k5_sI | exact k5_sZ | exact k5_dI | exact k5_rI | exact k5_nz | exact k5_Sl | exact k5_Sc | exact k5_Si | refine k5_pI ?_ | refine k5_pZ ?_ | refine k5_g ?_ | refine k5_t ?_ ?_ | refine k5_b ?_ fun _ => ?_))
theorem k5_I12_numberOn_33 {k5 : Int → Int → Int → Int → Int → IM Int} (hk5 : ∀ z0 z1 z2 z3 z4, K5 (k5 z0 z1 z2 z3 z4)) {x0 : Int} {x1 : Int} {x2 : Int} {x4 : Int} {y0 : Int} {y1 : Int} : K5 (I12_numberOn_33 k5 x0 x1 x2 x4 y0 y1) := by
  unfold I12_numberOn_33
  repeat' (first | decide | with_reducible (first | exact hk5 _ _ _ _ _ | exact k5_r | exact k5_f | exact k5_gI | exact k5_aI | exact k5_aZ | exact k5_sI | exact k5_sZ | exact k5_dI | exact k5_rI | exact k5_nz | exact k5_Sl | exact k5_Sc | exact k5_Si | refine k5_pI ?_ | refine k5_pZ ?_ | refine k5_g ?_ | refine k5_t ?_ ?_ | refine k5_b ?_ fun _ => ?_))
theorem k5_I12_numberOn_5_st {k5 : Int → Int → Int → Int → Int → IM Int} (hk5 : ∀ z0 z1 z2 z3 z4, K5 (k5 z0 z1 z2 z3 z4)) {x0 : Int} {x1 : Int} {x2 : Int} {x3 : Int} {x4 : Int} : K5 (I12_numberOn_5_st k5 x0 x1 x2 x3 x4) := by
  unfold I12_numberOn_5_st
  repeat' (first | decide | with_reducible (first | exact k5_I12_numberOn_33 hk5 | exact k5_I12_sheetOf | exact hk5 _ _ _ _ _ | exact k5_r | exact k5_f | exact k5_gI | exact k5_aI | exact k5_aZ | exact k5_sI | exact k5_sZ | exact k5_dI | exact k5_rI | exact k5_nz | exact k5_Sl | exact k5_Sc | exact k5_Si | refine k5_pI ?_ | refine k5_pZ ?_ | refine k5_g ?_ | refine k5_t ?_ ?_ | refine k5_b ?_ fun _ => ?_))
theorem k5_I12_numberOn_5 : ∀ (n : Nat) {z0 : Int} {z1 : Int} {z2 : Int} {z3 : Int} {z4 : Int}, K5 (I12_numberOn_5 n z0 z1 z2 z3 z4) := by
  intro n
  induction n with
  | zero => intros; exact k5_f
  | succ n ih => intros; exact k5_I12_numberOn_5_st  (k5 := (I12_numberOn_5 n)) (fun _ _ _ _ _ => ih)
theorem k5_I12_numberOn {a0 : Int} {a1 : Int} {a2 : Int} : K5 (I12_numberOn a0 a1 a2) := by
  unfold I12_numberOn
  repeat' (first | decide | with_reducible (first | exact k5_I12_numberOn_5 _ | exact k5_r | exact k5_f | exact k5_gI | exact k5_aI | exact k5_aZ | exact k5_sI | exact k5_sZ | exact k5_dI | exact k5_rI | exact k5_nz | exact k5_Sl | exact k5_Sc | exact k5_Si | refine k5_pI ?_ | refine k5_pZ ?_ | refine k5_g ?_ | refine k5_t ?_ ?_ | refine k5_b ?_ fun _ => ?_))
theorem k5_I12_look_149 {k54 : Int → Int → Int → Int → IM Unit} (hk54 : ∀ z0 z1 z2 z3, K5 (k54 z0 z1 z2 z3)) {k91 : Int → Int → Int → Int → Int → IM Unit} (hk91 : ∀ z0 z1 z2 z3 z4, K5 (k91 z0 z1 z2 z3 z4)) {x1 : Int} {x3 : Int} {x4 : Int} {x5 : Int} {x6 : Int} : K5 (I12_look_149 k54 k91 x1 x3 x4 x5 x6) := by
  unfold I12_look_149
  repeat' (first | decide | with_reducible (first | exact hk54 _ _ _ _ | exact hk91 _ _ _ _ _ | exact k5_r | exact k5_f | exact k5_gI | exact k5_aI | exact k5_aZ | exact k5_sI | exact k5_sZ | exact k5_dI | exact k5_rI | exact k5_nz | exact k5_Sl | exact k5_Sc | exact k5_Si | refine k5_pI ?_ | refine k5_pZ ?_ | refine k5_g ?_ | refine k5_t ?_ ?_ | refine k5_b ?_ fun _ => ?_))
theorem k5_I12_look_155 {k54 : Int → Int → Int → Int → IM Unit} (hk54 : ∀ z0 z1 z2 z3, K5 (k54 z0 z1 z2 z3)) {x1 : Int} {x3 : Int} {x4 : Int} {x5 : Int} : K5 (I12_look_155 k54 x1 x3 x4 x5) := by
  unfold I12_look_155
  repeat' (first | decide | with_reducible (first | exact hk54 _ _ _ _ | exact k5_r | exact k5_f | exact k5_gI | exact k5_aI | exact k5_aZ | exact k5_sI | exact k5_sZ | exact k5_dI | exact k5_rI | exact k5_nz | exact k5_Sl | exact k5_Sc | exact k5_Si | refine k5_pI ?_ | refine k5_pZ ?_ | refine k5_g ?_ | refine k5_t ?_ ?_ | refine k5_b ?_ fun _ => ?_))
theorem k5_I12_look_91_st {k54 : Int → Int → Int → Int → IM Unit} (hk54 : ∀ z0 z1 z2 z3, K5 (k54 z0 z1 z2 z3)) {k91 : Int → Int → Int → Int → Int → IM Unit} (hk91 : ∀ z0 z1 z2 z3 z4, K5 (k91 z0 z1 z2 z3 z4)) {x1 : Int} {x3 : Int} {x4 : Int} {x5 : Int} {x6 : Int} : K5 (I12_look_91_st k54 k91 x1 x3 x4 x5 x6) := by
  unfold I12_look_91_st
  repeat' (first | decide | with_reducible (first | exact k5_I12_look_149 hk54 hk91 | exact k5_I12_look_155 hk54 | exact hk54 _ _ _ _ | exact hk91 _ _ _ _ _ | exact k5_r | exact k5_f | exact k5_gI | exact k5_aI | exact k5_aZ | exact k5_sI | exact k5_sZ | exact k5_dI | exact k5_rI | exact k5_nz | exact k5_Sl | exact k5_Sc | exact k5_Si | refine k5_pI ?_ | refine k5_pZ ?_ | refine k5_g ?_ | refine k5_t ?_ ?_ | refine k5_b ?_ fun _ => ?_))
theorem k5_I12_look_91 {k54 : Int → Int → Int → Int → IM Unit} (hk54 : ∀ z0 z1 z2 z3, K5 (k54 z0 z1 z2 z3)) : ∀ (n : Nat) {z0 : Int} {z1 : Int} {z2 : Int} {z3 : Int} {z4 : Int}, K5 (I12_look_91 k54 n z0 z1 z2 z3 z4) := by
  intro n
  induction n with
  | zero => intros; exact k5_f
  | succ n ih => intros; exact k5_I12_look_91_st hk54 (k91 := (I12_look_91 k54 n)) (fun _ _ _ _ _ => ih)
theorem k5_I12_look_257 {k181 : Int → Int → Int → Int → Int → IM Unit} (hk181 : ∀ z0 z1 z2 z3 z4, K5 (k181 z0 z1 z2 z3 z4)) {x1 : Int} {x3 : Int} {x4 : Int} {x5 : Int} {x6 : Int} : K5 (I12_look_257 k181 x1 x3 x4 x5 x6) := by
  unfold I12_look_257
  repeat' (first | decide | with_reducible (first | exact hk181 _ _ _ _ _ | exact k5_r | exact k5_f | exact k5_gI | exact k5_aI | exact k5_aZ | exact k5_sI | exact k5_sZ | exact k5_dI | exact k5_rI | exact k5_nz | exact k5_Sl | exact k5_Sc | exact k5_Si | refine k5_pI ?_ | refine k5_pZ ?_ | refine k5_g ?_ | refine k5_t ?_ ?_ | refine k5_b ?_ fun _ => ?_))
theorem k5_I12_look_229 {k181 : Int → Int → Int → Int → Int → IM Unit} (hk181 : ∀ z0 z1 z2 z3 z4, K5 (k181 z0 z1 z2 z3 z4)) {x1 : Int} {x3 : Int} {x4 : Int} {x5 : Int} {x6 : Int} {y0 : Int} {y1 : Int} {y2 : Nat} : K5 (I12_look_229 k181 x1 x3 x4 x5 x6 y0 y1 y2) := by
  unfold I12_look_229
  repeat' (first | decide | with_reducible (first | exact k5_I12_look_257 hk181 | exact hk181 _ _ _ _ _ | exact k5_r | exact k5_f | exact k5_gI | exact k5_aI | exact k5_aZ | exact k5_sI | exact k5_sZ | exact k5_dI | exact k5_rI | exact k5_nz | exact k5_Sl | exact k5_Sc | exact k5_Si | refine k5_pI ?_ | refine k5_pZ ?_ | refine k5_g ?_ | refine k5_t ?_ ?_ | refine k5_b ?_ fun _ => ?_))
theorem k5_I12_look_228 {k181 : Int → Int → Int → Int → Int → IM Unit} (hk181 : ∀ z0 z1 z2 z3 z4, K5 (k181 z0 z1 z2 z3 z4)) {x1 : Int} {x3 : Int} {x4 : Int} {x5 : Int} {x6 : Int} {y0 : Int} {y1 : Nat} : K5 (I12_look_228 k181 x1 x3 x4 x5 x6 y0 y1) := by
  unfold I12_look_228
  repeat' (first | decide | with_reducible (first | exact k5_I12_look_229 hk181 | exact hk181 _ _ _ _ _ | exact k5_r | exact k5_f | exact k5_gI | exact k5_aI | exact k5_aZ | exact k5_sI | exact k5_sZ | exact k5_dI | exact k5_rI | exact k5_nz | exact k5_Sl | exact k5_Sc | exact k5_Si | refine k5_pI ?_ | refine k5_pZ ?_ | refine k5_g ?_ | refine k5_t ?_ ?_ | refine k5_b ?_ fun _ => ?_))
theorem k5_I12_look_181_st {k181 : Int → Int → Int → Int → Int → IM Unit} (hk181 : ∀ z0 z1 z2 z3 z4, K5 (k181 z0 z1 z2 z3 z4)) {x1 : Int} {x3 : Int} {x4 : Int} {x5 : Int} {x6 : Int} : K5 (I12_look_181_st k181 x1 x3 x4 x5 x6) := by
  unfold I12_look_181_st
  repeat' (first | decide | with_reducible (first | exact k5_I12_look_228 hk181 | exact k5_I12_look_229 hk181 | exact hk181 _ _ _ _ _ | exact k5_r | exact k5_f | exact k5_gI | exact k5_aI | exact k5_aZ | exact k5_sI | exact k5_sZ | exact k5_dI | exact k5_rI | exact k5_nz | exact k5_Sl | exact k5_Sc | exact k5_Si | refine k5_pI ?_ | refine k5_pZ ?_ | refine k5_g ?_ | refine k5_t ?_ ?_ | refine k5_b ?_ fun _ => ?_))
theorem k5_I12_look_181 : ∀ (n : Nat) {z0 : Int} {z1 : Int} {z2 : Int} {z3 : Int} {z4 : Int}, K5 (I12_look_181 n z0 z1 z2 z3 z4) := by
  intro n
  induction n with
  | zero => intros; exact k5_f
  | succ n ih => intros; exact k5_I12_look_181_st  (k181 := (I12_look_181 n)) (fun _ _ _ _ _ => ih)
theorem k5_I12_look_175 {x1 : Int} {x3 : Int} {x4 : Int} : K5 (I12_look_175 x1 x3 x4) := by
  unfold I12_look_175
  repeat' (first | decide | with_reducible (first | exact k5_I12_look_181 _ | exact k5_r | exact k5_f | exact k5_gI | exact k5_aI | exact k5_aZ | exact k5_sI | exact k5_sZ | exact k5_dI | exact k5_rI | exact k5_nz | exact k5_Sl | exact k5_Sc | exact k5_Si | refine k5_pI ?_ | refine k5_pZ ?_ | refine k5_g ?_ | refine k5_t ?_ ?_ | refine k5_b ?_ fun _ => ?_))
theorem k5_I12_look_54_st {k54 : Int → Int → Int → Int → IM Unit} (hk54 : ∀ z0 z1 z2 z3, K5 (k54 z0 z1 z2 z3)) {x1 : Int} {x3 : Int} {x4 : Int} {x5 : Int} : K5 (I12_look_54_st k54 x1 x3 x4 x5) := by
  unfold I12_look_54_st
  repeat' (first | decide | with_reducible (first | exact k5_I12_look_175 | exact k5_I12_look_91 hk54 _ | exact hk54 _ _ _ _ | exact k5_r | exact k5_f | exact k5_gI | exact k5_aI | exact k5_aZ | exact k5_sI | exact k5_sZ | exact k5_dI | exact k5_rI | exact k5_nz | exact k5_Sl | exact k5_Sc | exact k5_Si | refine k5_pI ?_ | refine k5_pZ ?_ | refine k5_g ?_ | refine k5_t ?_ ?_ | refine k5_b ?_ fun _ => ?_))
theorem k5_I12_look_54 : ∀ (n : Nat) {z0 : Int} {z1 : Int} {z2 : Int} {z3 : Int}, K5 (I12_look_54 n z0 z1 z2 z3) := by
  intro n
  induction n with
  | zero => intros; exact k5_f
  | succ n ih => intros; exact k5_I12_look_54_st  (k54 := (I12_look_54 n)) (fun _ _ _ _ => ih)
theorem k5_I12_look_41 {x1 : Int} {x3 : Int} : K5 (I12_look_41 x1 x3) := by
  unfold I12_look_41
  repeat' (first | decide | with_reducible (first | exact k5_I12_look_54 _ | exact k5_r | exact k5_f | exact k5_gI | exact k5_aI | exact k5_aZ | exact k5_sI | exact k5_sZ | exact k5_dI | exact k5_rI | exact k5_nz | exact k5_Sl | exact k5_Sc | exact k5_Si | refine k5_pI ?_ | refine k5_pZ ?_ | refine k5_g ?_ | refine k5_t ?_ ?_ | refine k5_b ?_ fun _ => ?_))
theorem k5_I12_look_16_st {k16 : Int → Int → Int → Int → IM Unit} (hk16 : ∀ z0 z1 z2 z3, K5 (k16 z0 z1 z2 z3)) {x1 : Int} {x2 : Int} {x3 : Int} {x4 : Int} : K5 (I12_look_16_st k16 x1 x2 x3 x4) := by
  unfold I12_look_16_st
  repeat' (first | decide | with_reducible (first | exact k5_I12_look_41 | exact hk16 _ _ _ _ | exact k5_r | exact k5_f | exact k5_gI | exact k5_aI | exact k5_aZ | exact k5_sI | exact k5_sZ | exact k5_dI | exact k5_rI | exact k5_nz | exact k5_Sl | exact k5_Sc | exact k5_Si | refine k5_pI ?_ | refine k5_pZ ?_ | refine k5_g ?_ | refine k5_t ?_ ?_ | refine k5_b ?_ fun _ => ?_))
theorem k5_I12_look_16 : ∀ (n : Nat) {z0 : Int} {z1 : Int} {z2 : Int} {z3 : Int}, K5 (I12_look_16 n z0 z1 z2 z3) := by
  intro n
  induction n with
  | zero => intros; exact k5_f
  | succ n ih => intros; exact k5_I12_look_16_st  (k16 := (I12_look_16 n)) (fun _ _ _ _ => ih)
theorem k5_I12_look {a1 : Int} : K5 (I12_look a1) := by
  unfold I12_look
  repeat' (first | decide | with_reducible (first | exact k5_I12_look_16 _ | exact k5_r | exact k5_f | exact k5_gI | exact k5_aI | exact k5_aZ | exact k5_sI | exact k5_sZ | exact k5_dI | exact k5_rI | exact k5_nz | exact k5_Sl | exact k5_Sc | exact k5_Si | refine k5_pI ?_ | refine k5_pZ ?_ | refine k5_g ?_ | refine k5_t ?_ ?_ | refine k5_b ?_ fun _ => ?_))
theorem k5_I12_isTold {a1 : Int} {a2 : Int} {a3 : Int} : K5 (I12_isTold a1 a2 a3) := by
  unfold I12_isTold
  repeat' (first | decide | with_reducible (first | exact k5_I12_conjugate | exact k5_r | exact k5_f | exact k5_gI | exact k5_aI | exact k5_aZ | exact k5_sI | exact k5_sZ | exact k5_dI | exact k5_rI | exact k5_nz | exact k5_Sl | exact k5_Sc | exact k5_Si | refine k5_pI ?_ | refine k5_pZ ?_ | refine k5_g ?_ | refine k5_t ?_ ?_ | refine k5_b ?_ fun _ => ?_))
theorem k5_I12_many {a1 : Int} {a2 : Int} : K5 (I12_many a1 a2) := by
  unfold I12_many
  repeat' (first | decide | with_reducible (first | exact k5_r | exact k5_f | exact k5_gI | exact k5_aI | exact k5_aZ | exact k5_sI | exact k5_sZ | exact k5_dI | exact k5_rI | exact k5_nz | exact k5_Sl | exact k5_Sc | exact k5_Si | refine k5_pI ?_ | refine k5_pZ ?_ | refine k5_g ?_ | refine k5_t ?_ ?_ | refine k5_b ?_ fun _ => ?_))
theorem k5_I12_writeRuns_119 {k13 : Int → Int → Int → Int → Int → IM Unit} (hk13 : ∀ z0 z1 z2 z3 z4, K5 (k13 z0 z1 z2 z3 z4)) {x1 : Int} {x2 : Int} {x3 : Int} {x4 : Int} {x6 : Int} : K5 (I12_writeRuns_119 k13 x1 x2 x3 x4 x6) := by
  unfold I12_writeRuns_119
  repeat' (first | decide | with_reducible (first | exact hk13 _ _ _ _ _ | exact k5_r | exact k5_f | exact k5_gI | exact k5_aI | exact k5_aZ | exact k5_sI | exact k5_sZ | exact k5_dI | exact k5_rI | exact k5_nz | exact k5_Sl | exact k5_Sc | exact k5_Si | refine k5_pI ?_ | refine k5_pZ ?_ | refine k5_g ?_ | refine k5_t ?_ ?_ | refine k5_b ?_ fun _ => ?_))
theorem k5_I12_writeRuns_89 {k13 : Int → Int → Int → Int → Int → IM Unit} (hk13 : ∀ z0 z1 z2 z3 z4, K5 (k13 z0 z1 z2 z3 z4)) {x1 : Int} {x2 : Int} {x3 : Int} {x5 : Int} {x6 : Int} : K5 (I12_writeRuns_89 k13 x1 x2 x3 x5 x6) := by
  unfold I12_writeRuns_89
  repeat' (first | decide | with_reducible (first | exact k5_I12_write | exact k5_I12_writeName | exact k5_I12_writeRuns_119 hk13 | exact hk13 _ _ _ _ _ | exact k5_r | exact k5_f | exact k5_gI | exact k5_aI | exact k5_aZ | exact k5_sI | exact k5_sZ | exact k5_dI | exact k5_rI | exact k5_nz | exact k5_Sl | exact k5_Sc | exact k5_Si | refine k5_pI ?_ | refine k5_pZ ?_ | refine k5_g ?_ | refine k5_t ?_ ?_ | refine k5_b ?_ fun _ => ?_))
theorem k5_I12_writeRuns_77 {k13 : Int → Int → Int → Int → Int → IM Unit} (hk13 : ∀ z0 z1 z2 z3 z4, K5 (k13 z0 z1 z2 z3 z4)) {x1 : Int} {x2 : Int} {x3 : Int} {x4 : Int} {x5 : Int} {x6 : Int} : K5 (I12_writeRuns_77 k13 x1 x2 x3 x4 x5 x6) := by
  unfold I12_writeRuns_77
  repeat' (first | decide | with_reducible (first | exact k5_I12_writeRuns_89 hk13 | exact k5_I12_writeWord | exact hk13 _ _ _ _ _ | exact k5_r | exact k5_f | exact k5_gI | exact k5_aI | exact k5_aZ | exact k5_sI | exact k5_sZ | exact k5_dI | exact k5_rI | exact k5_nz | exact k5_Sl | exact k5_Sc | exact k5_Si | refine k5_pI ?_ | refine k5_pZ ?_ | refine k5_g ?_ | refine k5_t ?_ ?_ | refine k5_b ?_ fun _ => ?_))
theorem k5_I12_writeRuns_45_st {k13 : Int → Int → Int → Int → Int → IM Unit} (hk13 : ∀ z0 z1 z2 z3 z4, K5 (k13 z0 z1 z2 z3 z4)) {k45 : Int → Int → Int → Int → Int → Int → IM Unit} (hk45 : ∀ z0 z1 z2 z3 z4 z5, K5 (k45 z0 z1 z2 z3 z4 z5)) {x1 : Int} {x2 : Int} {x3 : Int} {x4 : Int} {x5 : Int} {x6 : Int} : K5 (I12_writeRuns_45_st k13 k45 x1 x2 x3 x4 x5 x6) := by
  unfold I12_writeRuns_45_st
  repeat' (first | decide | with_reducible (first | exact k5_I12_isTold | exact k5_I12_writeRuns_77 hk13 | exact hk13 _ _ _ _ _ | exact hk45 _ _ _ _ _ _ | exact k5_r | exact k5_f | exact k5_gI | exact k5_aI | exact k5_aZ | exact k5_sI | exact k5_sZ | exact k5_dI | exact k5_rI | exact k5_nz | exact k5_Sl | exact k5_Sc | exact k5_Si | refine k5_pI ?_ | refine k5_pZ ?_ | refine k5_g ?_ | refine k5_t ?_ ?_ | refine k5_b ?_ fun _ => ?_))
theorem k5_I12_writeRuns_45 {k13 : Int → Int → Int → Int → Int → IM Unit} (hk13 : ∀ z0 z1 z2 z3 z4, K5 (k13 z0 z1 z2 z3 z4)) : ∀ (n : Nat) {z0 : Int} {z1 : Int} {z2 : Int} {z3 : Int} {z4 : Int} {z5 : Int}, K5 (I12_writeRuns_45 k13 n z0 z1 z2 z3 z4 z5) := by
  intro n
  induction n with
  | zero => intros; exact k5_f
  | succ n ih => intros; exact k5_I12_writeRuns_45_st hk13 (k45 := (I12_writeRuns_45 k13 n)) (fun _ _ _ _ _ _ => ih)
theorem k5_I12_writeRuns_13_st {k13 : Int → Int → Int → Int → Int → IM Unit} (hk13 : ∀ z0 z1 z2 z3 z4, K5 (k13 z0 z1 z2 z3 z4)) {x1 : Int} {x2 : Int} {x3 : Int} {x4 : Int} {x5 : Int} : K5 (I12_writeRuns_13_st k13 x1 x2 x3 x4 x5) := by
  unfold I12_writeRuns_13_st
  repeat' (first | decide | with_reducible (first | exact k5_I12_isTold | exact k5_I12_writeRuns_45 hk13 _ | exact hk13 _ _ _ _ _ | exact k5_r | exact k5_f | exact k5_gI | exact k5_aI | exact k5_aZ | exact k5_sI | exact k5_sZ | exact k5_dI | exact k5_rI | exact k5_nz | exact k5_Sl | exact k5_Sc | exact k5_Si | refine k5_pI ?_ | refine k5_pZ ?_ | refine k5_g ?_ | refine k5_t ?_ ?_ | refine k5_b ?_ fun _ => ?_))
theorem k5_I12_writeRuns_13 : ∀ (n : Nat) {z0 : Int} {z1 : Int} {z2 : Int} {z3 : Int} {z4 : Int}, K5 (I12_writeRuns_13 n z0 z1 z2 z3 z4) := by
  intro n
  induction n with
  | zero => intros; exact k5_f
  | succ n ih => intros; exact k5_I12_writeRuns_13_st  (k13 := (I12_writeRuns_13 n)) (fun _ _ _ _ _ => ih)
theorem k5_I12_writeRuns {a1 : Int} {a2 : Int} : K5 (I12_writeRuns a1 a2) := by
  unfold I12_writeRuns
  repeat' (first | decide | with_reducible (first | exact k5_I12_writeRuns_13 _ | exact k5_r | exact k5_f | exact k5_gI | exact k5_aI | exact k5_aZ | exact k5_sI | exact k5_sZ | exact k5_dI | exact k5_rI | exact k5_nz | exact k5_Sl | exact k5_Sc | exact k5_Si | refine k5_pI ?_ | refine k5_pZ ?_ | refine k5_g ?_ | refine k5_t ?_ ?_ | refine k5_b ?_ fun _ => ?_))
theorem k5_I12_countTold_33 {k5 : Int → Int → Int → Int → IM Int} (hk5 : ∀ z0 z1 z2 z3, K5 (k5 z0 z1 z2 z3)) {x1 : Int} {x2 : Int} {x4 : Int} {y0 : Int} {y1 : Int} : K5 (I12_countTold_33 k5 x1 x2 x4 y0 y1) := by
  unfold I12_countTold_33
  repeat' (first | decide | with_reducible (first | exact hk5 _ _ _ _ | exact k5_r | exact k5_f | exact k5_gI | exact k5_aI | exact k5_aZ | exact k5_sI | exact k5_sZ | exact k5_dI | exact k5_rI | exact k5_nz | exact k5_Sl | exact k5_Sc | exact k5_Si | refine k5_pI ?_ | refine k5_pZ ?_ | refine k5_g ?_ | refine k5_t ?_ ?_ | refine k5_b ?_ fun _ => ?_))
theorem k5_I12_countTold_5_st {k5 : Int → Int → Int → Int → IM Int} (hk5 : ∀ z0 z1 z2 z3, K5 (k5 z0 z1 z2 z3)) {x1 : Int} {x2 : Int} {x3 : Int} {x4 : Int} : K5 (I12_countTold_5_st k5 x1 x2 x3 x4) := by
  unfold I12_countTold_5_st
  repeat' (first | decide | with_reducible (first | exact k5_I12_countTold_33 hk5 | exact k5_I12_isTold | exact k5_I12_many | exact hk5 _ _ _ _ | exact k5_r | exact k5_f | exact k5_gI | exact k5_aI | exact k5_aZ | exact k5_sI | exact k5_sZ | exact k5_dI | exact k5_rI | exact k5_nz | exact k5_Sl | exact k5_Sc | exact k5_Si | refine k5_pI ?_ | refine k5_pZ ?_ | refine k5_g ?_ | refine k5_t ?_ ?_ | refine k5_b ?_ fun _ => ?_))
theorem k5_I12_countTold_5 : ∀ (n : Nat) {z0 : Int} {z1 : Int} {z2 : Int} {z3 : Int}, K5 (I12_countTold_5 n z0 z1 z2 z3) := by
  intro n
  induction n with
  | zero => intros; exact k5_f
  | succ n ih => intros; exact k5_I12_countTold_5_st  (k5 := (I12_countTold_5 n)) (fun _ _ _ _ => ih)
theorem k5_I12_countTold {a1 : Int} {a2 : Int} : K5 (I12_countTold a1 a2) := by
  unfold I12_countTold
  repeat' (first | decide | with_reducible (first | exact k5_I12_countTold_5 _ | exact k5_r | exact k5_f | exact k5_gI | exact k5_aI | exact k5_aZ | exact k5_sI | exact k5_sZ | exact k5_dI | exact k5_rI | exact k5_nz | exact k5_Sl | exact k5_Sc | exact k5_Si | refine k5_pI ?_ | refine k5_pZ ?_ | refine k5_g ?_ | refine k5_t ?_ ?_ | refine k5_b ?_ fun _ => ?_))
theorem k5_I12_writeNote_158 {k101 : Int → Int → Int → IM Unit} (hk101 : ∀ z0 z1 z2, K5 (k101 z0 z1 z2)) {x1 : Int} {x2 : Int} {x3 : Int} : K5 (I12_writeNote_158 k101 x1 x2 x3) := by
  unfold I12_writeNote_158
  repeat' (first | decide | with_reducible (first | exact hk101 _ _ _ | exact k5_r | exact k5_f | exact k5_gI | exact k5_aI | exact k5_aZ | exact k5_sI | exact k5_sZ | exact k5_dI | exact k5_rI | exact k5_nz | exact k5_Sl | exact k5_Sc | exact k5_Si | refine k5_pI ?_ | refine k5_pZ ?_ | refine k5_g ?_ | refine k5_t ?_ ?_ | refine k5_b ?_ fun _ => ?_))
theorem k5_I12_writeNote_134 {k101 : Int → Int → Int → IM Unit} (hk101 : ∀ z0 z1 z2, K5 (k101 z0 z1 z2)) {x1 : Int} {x3 : Int} : K5 (I12_writeNote_134 k101 x1 x3) := by
  unfold I12_writeNote_134
  repeat' (first | decide | with_reducible (first | exact k5_I12_writeName | exact k5_I12_writeNote_158 hk101 | exact hk101 _ _ _ | exact k5_r | exact k5_f | exact k5_gI | exact k5_aI | exact k5_aZ | exact k5_sI | exact k5_sZ | exact k5_dI | exact k5_rI | exact k5_nz | exact k5_Sl | exact k5_Sc | exact k5_Si | refine k5_pI ?_ | refine k5_pZ ?_ | refine k5_g ?_ | refine k5_t ?_ ?_ | refine k5_b ?_ fun _ => ?_))
theorem k5_I12_writeNote_101_st {k101 : Int → Int → Int → IM Unit} (hk101 : ∀ z0 z1 z2, K5 (k101 z0 z1 z2)) {x1 : Int} {x2 : Int} {x3 : Int} : K5 (I12_writeNote_101_st k101 x1 x2 x3) := by
  unfold I12_writeNote_101_st
  repeat' (first | decide | with_reducible (first | exact k5_I12_writeNote_134 hk101 | exact k5_I12_writeNote_158 hk101 | exact k5_I12_writeWord | exact hk101 _ _ _ | exact k5_r | exact k5_f | exact k5_gI | exact k5_aI | exact k5_aZ | exact k5_sI | exact k5_sZ | exact k5_dI | exact k5_rI | exact k5_nz | exact k5_Sl | exact k5_Sc | exact k5_Si | refine k5_pI ?_ | refine k5_pZ ?_ | refine k5_g ?_ | refine k5_t ?_ ?_ | refine k5_b ?_ fun _ => ?_))
theorem k5_I12_writeNote_101 : ∀ (n : Nat) {z0 : Int} {z1 : Int} {z2 : Int}, K5 (I12_writeNote_101 n z0 z1 z2) := by
  intro n
  induction n with
  | zero => intros; exact k5_f
  | succ n ih => intros; exact k5_I12_writeNote_101_st  (k101 := (I12_writeNote_101 n)) (fun _ _ _ => ih)
theorem k5_I12_writeNote_94 {x1 : Int} {y0 : Nat} : K5 (I12_writeNote_94 x1 y0) := by
  unfold I12_writeNote_94
  repeat' (first | decide | with_reducible (first | exact k5_I12_writeNote_101 _ | exact k5_I12_writeWord | exact k5_r | exact k5_f | exact k5_gI | exact k5_aI | exact k5_aZ | exact k5_sI | exact k5_sZ | exact k5_dI | exact k5_rI | exact k5_nz | exact k5_Sl | exact k5_Sc | exact k5_Si | refine k5_pI ?_ | refine k5_pZ ?_ | refine k5_g ?_ | refine k5_t ?_ ?_ | refine k5_b ?_ fun _ => ?_))
theorem k5_I12_writeNote_67 {x1 : Int} : K5 (I12_writeNote_67 x1) := by
  unfold I12_writeNote_67
  repeat' (first | decide | with_reducible (first | exact k5_I12_countTold | exact k5_I12_writeNote_94 | exact k5_r | exact k5_f | exact k5_gI | exact k5_aI | exact k5_aZ | exact k5_sI | exact k5_sZ | exact k5_dI | exact k5_rI | exact k5_nz | exact k5_Sl | exact k5_Sc | exact k5_Si | refine k5_pI ?_ | refine k5_pZ ?_ | refine k5_g ?_ | refine k5_t ?_ ?_ | refine k5_b ?_ fun _ => ?_))
theorem k5_I12_writeNote_58 {x1 : Int} {y0 : Nat} : K5 (I12_writeNote_58 x1 y0) := by
  unfold I12_writeNote_58
  repeat' (first | decide | with_reducible (first | exact k5_I12_writeNote_67 | exact k5_I12_writeRuns | exact k5_I12_writeWord | exact k5_r | exact k5_f | exact k5_gI | exact k5_aI | exact k5_aZ | exact k5_sI | exact k5_sZ | exact k5_dI | exact k5_rI | exact k5_nz | exact k5_Sl | exact k5_Sc | exact k5_Si | refine k5_pI ?_ | refine k5_pZ ?_ | refine k5_g ?_ | refine k5_t ?_ ?_ | refine k5_b ?_ fun _ => ?_))
theorem k5_I12_writeNote_32 {x1 : Int} : K5 (I12_writeNote_32 x1) := by
  unfold I12_writeNote_32
  repeat' (first | decide | with_reducible (first | exact k5_I12_countTold | exact k5_I12_writeNote_58 | exact k5_I12_writeNote_67 | exact k5_r | exact k5_f | exact k5_gI | exact k5_aI | exact k5_aZ | exact k5_sI | exact k5_sZ | exact k5_dI | exact k5_rI | exact k5_nz | exact k5_Sl | exact k5_Sc | exact k5_Si | refine k5_pI ?_ | refine k5_pZ ?_ | refine k5_g ?_ | refine k5_t ?_ ?_ | refine k5_b ?_ fun _ => ?_))
theorem k5_I12_writeNote {a1 : Int} : K5 (I12_writeNote a1) := by
  unfold I12_writeNote
  repeat' (first | decide | with_reducible (first | exact k5_I12_countTold | exact k5_I12_look | exact k5_I12_writeNote_32 | exact k5_I12_writeRuns | exact k5_I12_writeWord | exact k5_r | exact k5_f | exact k5_gI | exact k5_aI | exact k5_aZ | exact k5_sI | exact k5_sZ | exact k5_dI | exact k5_rI | exact k5_nz | exact k5_Sl | exact k5_Sc | exact k5_Si | refine k5_pI ?_ | refine k5_pZ ?_ | refine k5_g ?_ | refine k5_t ?_ ?_ | refine k5_b ?_ fun _ => ?_))
theorem k5_I12_feed_75 {k22 : Int → Int → Int → Int → Int → Int → IM Int} (hk22 : ∀ z0 z1 z2 z3 z4 z5, K5 (k22 z0 z1 z2 z3 z4 z5)) {x1 : Int} {x2 : Int} {x3 : Int} {x4 : Int} {x5 : Int} {x6 : Int} {y0 : Int} : K5 (I12_feed_75 k22 x1 x2 x3 x4 x5 x6 y0) := by
  unfold I12_feed_75
  repeat' (first | decide | with_reducible (first | exact hk22 _ _ _ _ _ _ | exact k5_r | exact k5_f | exact k5_gI | exact k5_aI | exact k5_aZ | exact k5_sI | exact k5_sZ | exact k5_dI | exact k5_rI | exact k5_nz | exact k5_Sl | exact k5_Sc | exact k5_Si | refine k5_pI ?_ | refine k5_pZ ?_ | refine k5_g ?_ | refine k5_t ?_ ?_ | refine k5_b ?_ fun _ => ?_))
theorem k5_I12_feed_119  : K5 (I12_feed_119) := by
  unfold I12_feed_119
  repeat' (first | decide | with_reducible (first | exact k5_I12_fine | exact k5_r | exact k5_f | exact k5_gI | exact k5_aI | exact k5_aZ | exact k5_sI | exact k5_sZ | exact k5_dI | exact k5_rI | exact k5_nz | exact k5_Sl | exact k5_Sc | exact k5_Si | refine k5_pI ?_ | refine k5_pZ ?_ | refine k5_g ?_ | refine k5_t ?_ ?_ | refine k5_b ?_ fun _ => ?_))
theorem k5_I12_feed_22_st {k22 : Int → Int → Int → Int → Int → Int → IM Int} (hk22 : ∀ z0 z1 z2 z3 z4 z5, K5 (k22 z0 z1 z2 z3 z4 z5)) {x1 : Int} {x2 : Int} {x3 : Int} {x4 : Int} {x5 : Int} {x6 : Int} : K5 (I12_feed_22_st k22 x1 x2 x3 x4 x5 x6) := by
  unfold I12_feed_22_st
  repeat' (first | decide | with_reducible (first | exact k5_I12_feed_119 | exact k5_I12_feed_75 hk22 | exact hk22 _ _ _ _ _ _ | exact k5_r | exact k5_f | exact k5_gI | exact k5_aI | exact k5_aZ | exact k5_sI | exact k5_sZ | exact k5_dI | exact k5_rI | exact k5_nz | exact k5_Sl | exact k5_Sc | exact k5_Si | refine k5_pI ?_ | refine k5_pZ ?_ | refine k5_g ?_ | refine k5_t ?_ ?_ | refine k5_b ?_ fun _ => ?_))
theorem k5_I12_feed_22 : ∀ (n : Nat) {z0 : Int} {z1 : Int} {z2 : Int} {z3 : Int} {z4 : Int} {z5 : Int}, K5 (I12_feed_22 n z0 z1 z2 z3 z4 z5) := by
  intro n
  induction n with
  | zero => intros; exact k5_f
  | succ n ih => intros; exact k5_I12_feed_22_st  (k22 := (I12_feed_22 n)) (fun _ _ _ _ _ _ => ih)
theorem k5_I12_feed {a1 : Int} {a2 : Int} {a3 : Int} {a4 : Int} {a5 : Int} : K5 (I12_feed a1 a2 a3 a4 a5) := by
  unfold I12_feed
  repeat' (first | decide | with_reducible (first | exact k5_I12_feed_22 _ | exact k5_I12_no | exact k5_r | exact k5_f | exact k5_gI | exact k5_aI | exact k5_aZ | exact k5_sI | exact k5_sZ | exact k5_dI | exact k5_rI | exact k5_nz | exact k5_Sl | exact k5_Sc | exact k5_Si | refine k5_pI ?_ | refine k5_pZ ?_ | refine k5_g ?_ | refine k5_t ?_ ?_ | refine k5_b ?_ fun _ => ?_))
theorem k5_I12_end {a1 : Int} : K5 (I12_end a1) := by
  unfold I12_end
  repeat' (first | decide | with_reducible (first | exact k5_I12_fine | exact k5_I12_isIn | exact k5_I12_no | exact k5_r | exact k5_f | exact k5_gI | exact k5_aI | exact k5_aZ | exact k5_sI | exact k5_sZ | exact k5_dI | exact k5_rI | exact k5_nz | exact k5_Sl | exact k5_Sc | exact k5_Si | refine k5_pI ?_ | refine k5_pZ ?_ | refine k5_g ?_ | refine k5_t ?_ ?_ | refine k5_b ?_ fun _ => ?_))
theorem kx_I12_book_166 {k110 : Int → Int → IM Int} (hk110 : ∀ z0 z1, KX (k110 z0 z1)) {k125 : Int → Int → Int → IM Int} (hk125 : ∀ z0 z1 z2, KX (k125 z0 z1 z2)) {x1 : Int} {x2 : Int} {x3 : Int} {y0 : Int} {y1 : Int} {y2 : Int} : KX (I12_book_166 k110 k125 x1 x2 x3 y0 y1 y2) := by
  unfold I12_book_166
  repeat' (first | decide | with_reducible (first | exact kx_f | exact kx_no | exact k5_I12_add | exact hk110 _ _ | exact hk125 _ _ _ | exact k5_r | exact k5_f | exact k5_gI | exact k5_aI | exact k5_aZ | exact k5_sI | exact k5_sZ | exact k5_dI | exact k5_rI | exact k5_nz | exact k5_Sl | exact k5_Sc | exact k5_Si | refine k5_pI ?_ | refine k5_pZ ?_ | exact kx_e5 | exact kx_e15 | refine kx_as ?_ | refine kx_g ?_ | refine kx_t ?_ ?_ | refine kx_b ?_ fun _ => ?_ | refine k5_g ?_ | refine k5_t ?_ ?_ | refine k5_b ?_ fun _ => ?_))
theorem kx_I12_book_175 {k110 : Int → Int → IM Int} (hk110 : ∀ z0 z1, KX (k110 z0 z1)) {x1 : Int} {x2 : Int} : KX (I12_book_175 k110 x1 x2) := by
  unfold I12_book_175
  repeat' (first | decide | with_reducible (first | exact kx_f | exact kx_no | exact hk110 _ _ | exact k5_r | exact k5_f | exact k5_gI | exact k5_aI | exact k5_aZ | exact k5_sI | exact k5_sZ | exact k5_dI | exact k5_rI | exact k5_nz | exact k5_Sl | exact k5_Sc | exact k5_Si | refine k5_pI ?_ | refine k5_pZ ?_ | exact kx_e5 | exact kx_e15 | refine kx_as ?_ | refine kx_g ?_ | refine kx_t ?_ ?_ | refine kx_b ?_ fun _ => ?_ | refine k5_g ?_ | refine k5_t ?_ ?_ | refine k5_b ?_ fun _ => ?_))
theorem kx_I12_book_125_st {k110 : Int → Int → IM Int} (hk110 : ∀ z0 z1, KX (k110 z0 z1)) {k125 : Int → Int → Int → IM Int} (hk125 : ∀ z0 z1 z2, KX (k125 z0 z1 z2)) {x1 : Int} {x2 : Int} {x3 : Int} : KX (I12_book_125_st k110 k125 x1 x2 x3) := by
  unfold I12_book_125_st
  repeat' (first | decide | with_reducible (first | exact kx_f | exact kx_no | exact kx_I12_book_166 hk110 hk125 | exact kx_I12_book_175 hk110 | exact hk110 _ _ | exact hk125 _ _ _ | exact k5_r | exact k5_f | exact k5_gI | exact k5_aI | exact k5_aZ | exact k5_sI | exact k5_sZ | exact k5_dI | exact k5_rI | exact k5_nz | exact k5_Sl | exact k5_Sc | exact k5_Si | refine k5_pI ?_ | refine k5_pZ ?_ | exact kx_e5 | exact kx_e15 | refine kx_as ?_ | refine kx_g ?_ | refine kx_t ?_ ?_ | refine kx_b ?_ fun _ => ?_ | refine k5_g ?_ | refine k5_t ?_ ?_ | refine k5_b ?_ fun _ => ?_))
theorem kx_I12_book_125 {k110 : Int → Int → IM Int} (hk110 : ∀ z0 z1, KX (k110 z0 z1)) : ∀ (n : Nat) {z0 : Int} {z1 : Int} {z2 : Int}, KX (I12_book_125 k110 n z0 z1 z2) := by
  intro n
  induction n with
  | zero => intros; exact kx_f
  | succ n ih => intros; exact kx_I12_book_125_st hk110 (k125 := (I12_book_125 k110 n)) (fun _ _ _ => ih)
theorem kx_I12_book_203 {x1 : Int} : KX (I12_book_203 x1) := by
  unfold I12_book_203
  repeat' (first | decide | with_reducible (first | exact kx_f | exact kx_no | exact kx_I12_isMade | exact k5_r | exact k5_f | exact k5_gI | exact k5_aI | exact k5_aZ | exact k5_sI | exact k5_sZ | exact k5_dI | exact k5_rI | exact k5_nz | exact k5_Sl | exact k5_Sc | exact k5_Si | refine k5_pI ?_ | refine k5_pZ ?_ | exact kx_e5 | exact kx_e15 | refine kx_as ?_ | refine kx_g ?_ | refine kx_t ?_ ?_ | refine kx_b ?_ fun _ => ?_ | refine k5_g ?_ | refine k5_t ?_ ?_ | refine k5_b ?_ fun _ => ?_))
theorem kx_I12_book_183_st {k183 : Int → Int → IM Int} (hk183 : ∀ z0 z1, KX (k183 z0 z1)) {x1 : Int} {x2 : Int} : KX (I12_book_183_st k183 x1 x2) := by
  unfold I12_book_183_st
  repeat' (first | decide | with_reducible (first | exact kx_f | exact kx_no | exact k5_I12_apply | exact kx_I12_book_203 | exact hk183 _ _ | exact k5_r | exact k5_f | exact k5_gI | exact k5_aI | exact k5_aZ | exact k5_sI | exact k5_sZ | exact k5_dI | exact k5_rI | exact k5_nz | exact k5_Sl | exact k5_Sc | exact k5_Si | refine k5_pI ?_ | refine k5_pZ ?_ | exact kx_e5 | exact kx_e15 | refine kx_as ?_ | refine kx_g ?_ | refine kx_t ?_ ?_ | refine kx_b ?_ fun _ => ?_ | refine k5_g ?_ | refine k5_t ?_ ?_ | refine k5_b ?_ fun _ => ?_))
theorem kx_I12_book_183 : ∀ (n : Nat) {z0 : Int} {z1 : Int}, KX (I12_book_183 n z0 z1) := by
  intro n
  induction n with
  | zero => intros; exact kx_f
  | succ n ih => intros; exact kx_I12_book_183_st  (k183 := (I12_book_183 n)) (fun _ _ => ih)
theorem kx_I12_book_181 {x1 : Int} : KX (I12_book_181 x1) := by
  unfold I12_book_181
  repeat' (first | decide | with_reducible (first | exact kx_f | exact kx_no | exact kx_I12_book_183 _ | exact k5_r | exact k5_f | exact k5_gI | exact k5_aI | exact k5_aZ | exact k5_sI | exact k5_sZ | exact k5_dI | exact k5_rI | exact k5_nz | exact k5_Sl | exact k5_Sc | exact k5_Si | refine k5_pI ?_ | refine k5_pZ ?_ | exact kx_e5 | exact kx_e15 | refine kx_as ?_ | refine kx_g ?_ | refine kx_t ?_ ?_ | refine kx_b ?_ fun _ => ?_ | refine k5_g ?_ | refine k5_t ?_ ?_ | refine k5_b ?_ fun _ => ?_))
theorem kx_I12_book_110_st {k110 : Int → Int → IM Int} (hk110 : ∀ z0 z1, KX (k110 z0 z1)) {x1 : Int} {x2 : Int} : KX (I12_book_110_st k110 x1 x2) := by
  unfold I12_book_110_st
  repeat' (first | decide | with_reducible (first | exact kx_f | exact kx_no | exact kx_I12_book_125 hk110 _ | exact kx_I12_book_181 | exact hk110 _ _ | exact k5_r | exact k5_f | exact k5_gI | exact k5_aI | exact k5_aZ | exact k5_sI | exact k5_sZ | exact k5_dI | exact k5_rI | exact k5_nz | exact k5_Sl | exact k5_Sc | exact k5_Si | refine k5_pI ?_ | refine k5_pZ ?_ | exact kx_e5 | exact kx_e15 | refine kx_as ?_ | refine kx_g ?_ | refine kx_t ?_ ?_ | refine kx_b ?_ fun _ => ?_ | refine k5_g ?_ | refine k5_t ?_ ?_ | refine k5_b ?_ fun _ => ?_))
theorem kx_I12_book_110 : ∀ (n : Nat) {z0 : Int} {z1 : Int}, KX (I12_book_110 n z0 z1) := by
  intro n
  induction n with
  | zero => intros; exact kx_f
  | succ n ih => intros; exact kx_I12_book_110_st  (k110 := (I12_book_110 n)) (fun _ _ => ih)
theorem kx_I12_book_46  : KX (I12_book_46) := by
  unfold I12_book_46
  repeat' (first | decide | with_reducible (first | exact kx_f | exact kx_no | exact kx_I12_book_110 _ | exact k5_I12_ends | exact k5_I12_faultOfAll | exact k5_I12_no | exact k5_r | exact k5_f | exact k5_gI | exact k5_aI | exact k5_aZ | exact k5_sI | exact k5_sZ | exact k5_dI | exact k5_rI | exact k5_nz | exact k5_Sl | exact k5_Sc | exact k5_Si | refine k5_pI ?_ | refine k5_pZ ?_ | exact kx_e5 | exact kx_e15 | refine kx_as ?_ | refine kx_g ?_ | refine kx_t ?_ ?_ | refine kx_b ?_ fun _ => ?_ | refine k5_g ?_ | refine k5_t ?_ ?_ | refine k5_b ?_ fun _ => ?_))
theorem kx_I12_book_25_st {k25 : IM Int} (hk25 : KX (k25))  : KX (I12_book_25_st k25) := by
  unfold I12_book_25_st
  repeat' (first | decide | with_reducible (first | exact kx_f | exact kx_no | exact kx_I12_book_46 | exact k5_I12_readGroup | exact hk25 | exact k5_r | exact k5_f | exact k5_gI | exact k5_aI | exact k5_aZ | exact k5_sI | exact k5_sZ | exact k5_dI | exact k5_rI | exact k5_nz | exact k5_Sl | exact k5_Sc | exact k5_Si | refine k5_pI ?_ | refine k5_pZ ?_ | exact kx_e5 | exact kx_e15 | refine kx_as ?_ | refine kx_g ?_ | refine kx_t ?_ ?_ | refine kx_b ?_ fun _ => ?_ | refine k5_g ?_ | refine k5_t ?_ ?_ | refine k5_b ?_ fun _ => ?_))
theorem kx_I12_book_25 : ∀ (n : Nat), KX (I12_book_25 n) := by
  intro n
  induction n with
  | zero => intros; exact kx_f
  | succ n ih => intros; exact kx_I12_book_25_st  ih
theorem kx_I12_book  : KX (I12_book) := by
  unfold I12_book
  repeat' (first | decide | with_reducible (first | exact kx_f | exact kx_no | exact k5_I12_begins | exact kx_I12_book_25 _ | exact k5_I12_readGroup | exact k5_r | exact k5_f | exact k5_gI | exact k5_aI | exact k5_aZ | exact k5_sI | exact k5_sZ | exact k5_dI | exact k5_rI | exact k5_nz | exact k5_Sl | exact k5_Sc | exact k5_Si | refine k5_pI ?_ | refine k5_pZ ?_ | exact kx_e5 | exact kx_e15 | refine kx_as ?_ | refine kx_g ?_ | refine kx_t ?_ ?_ | refine kx_b ?_ fun _ => ?_ | refine k5_g ?_ | refine k5_t ?_ ?_ | refine k5_b ?_ fun _ => ?_))
theorem k5_I12_faultOfChanges_155 {k84 : Int → Int → Int → IM Int} (hk84 : ∀ z0 z1 z2, K5 (k84 z0 z1 z2)) {x1 : Int} {x3 : Int} {y0 : Int} : K5 (I12_faultOfChanges_155 k84 x1 x3 y0) := by
  unfold I12_faultOfChanges_155
  repeat' (first | decide | with_reducible (first | exact hk84 _ _ _ | exact k5_r | exact k5_f | exact k5_gI | exact k5_aI | exact k5_aZ | exact k5_sI | exact k5_sZ | exact k5_dI | exact k5_rI | exact k5_nz | exact k5_Sl | exact k5_Sc | exact k5_Si | refine k5_pI ?_ | refine k5_pZ ?_ | refine k5_g ?_ | refine k5_t ?_ ?_ | refine k5_b ?_ fun _ => ?_))
theorem k5_I12_faultOfChanges_150 {k84 : Int → Int → Int → IM Int} (hk84 : ∀ z0 z1 z2, K5 (k84 z0 z1 z2)) {x1 : Int} {x3 : Int} : K5 (I12_faultOfChanges_150 k84 x1 x3) := by
  unfold I12_faultOfChanges_150
  repeat' (first | decide | with_reducible (first | exact k5_I12_faultOfChanges_155 hk84 | exact hk84 _ _ _ | exact k5_r | exact k5_f | exact k5_gI | exact k5_aI | exact k5_aZ | exact k5_sI | exact k5_sZ | exact k5_dI | exact k5_rI | exact k5_nz | exact k5_Sl | exact k5_Sc | exact k5_Si | refine k5_pI ?_ | refine k5_pZ ?_ | refine k5_g ?_ | refine k5_t ?_ ?_ | refine k5_b ?_ fun _ => ?_))
theorem k5_I12_faultOfChanges_147 {k84 : Int → Int → Int → IM Int} (hk84 : ∀ z0 z1 z2, K5 (k84 z0 z1 z2)) {x1 : Int} {x3 : Int} {y0 : Int} : K5 (I12_faultOfChanges_147 k84 x1 x3 y0) := by
  unfold I12_faultOfChanges_147
  repeat' (first | decide | with_reducible (first | exact k5_I12_faultOfChanges_150 hk84 | exact k5_I12_faultOfChanges_155 hk84 | exact hk84 _ _ _ | exact k5_r | exact k5_f | exact k5_gI | exact k5_aI | exact k5_aZ | exact k5_sI | exact k5_sZ | exact k5_dI | exact k5_rI | exact k5_nz | exact k5_Sl | exact k5_Sc | exact k5_Si | refine k5_pI ?_ | refine k5_pZ ?_ | refine k5_g ?_ | refine k5_t ?_ ?_ | refine k5_b ?_ fun _ => ?_))
theorem k5_I12_faultOfChanges_162 {x2 : Int} : K5 (I12_faultOfChanges_162 x2) := by
  unfold I12_faultOfChanges_162
  repeat' (first | decide | with_reducible (first | exact k5_r | exact k5_f | exact k5_gI | exact k5_aI | exact k5_aZ | exact k5_sI | exact k5_sZ | exact k5_dI | exact k5_rI | exact k5_nz | exact k5_Sl | exact k5_Sc | exact k5_Si | refine k5_pI ?_ | refine k5_pZ ?_ | refine k5_g ?_ | refine k5_t ?_ ?_ | refine k5_b ?_ fun _ => ?_))
theorem k5_I12_faultOfChanges_84_st {k84 : Int → Int → Int → IM Int} (hk84 : ∀ z0 z1 z2, K5 (k84 z0 z1 z2)) {x1 : Int} {x2 : Int} {x3 : Int} : K5 (I12_faultOfChanges_84_st k84 x1 x2 x3) := by
  unfold I12_faultOfChanges_84_st
  repeat' (first | decide | with_reducible (first | exact k5_I12_faultOfChanges_147 hk84 | exact k5_I12_faultOfChanges_150 hk84 | exact k5_I12_faultOfChanges_162 | exact k5_I12_gatheringOf | exact k5_I12_spot | exact hk84 _ _ _ | exact k5_r | exact k5_f | exact k5_gI | exact k5_aI | exact k5_aZ | exact k5_sI | exact k5_sZ | exact k5_dI | exact k5_rI | exact k5_nz | exact k5_Sl | exact k5_Sc | exact k5_Si | refine k5_pI ?_ | refine k5_pZ ?_ | refine k5_g ?_ | refine k5_t ?_ ?_ | refine k5_b ?_ fun _ => ?_))
theorem k5_I12_faultOfChanges_84 : ∀ (n : Nat) {z0 : Int} {z1 : Int} {z2 : Int}, K5 (I12_faultOfChanges_84 n z0 z1 z2) := by
  intro n
  induction n with
  | zero => intros; exact k5_f
  | succ n ih => intros; exact k5_I12_faultOfChanges_84_st  (k84 := (I12_faultOfChanges_84 n)) (fun _ _ _ => ih)
theorem k5_I12_faultOfChanges_58 {x1 : Int} : K5 (I12_faultOfChanges_58 x1) := by
  unfold I12_faultOfChanges_58
  repeat' (first | decide | with_reducible (first | exact k5_I12_faultOfChanges_84 _ | exact k5_I12_isFewPut | exact k5_I12_isTwice | exact k5_r | exact k5_f | exact k5_gI | exact k5_aI | exact k5_aZ | exact k5_sI | exact k5_sZ | exact k5_dI | exact k5_rI | exact k5_nz | exact k5_Sl | exact k5_Sc | exact k5_Si | refine k5_pI ?_ | refine k5_pZ ?_ | refine k5_g ?_ | refine k5_t ?_ ?_ | refine k5_b ?_ fun _ => ?_))
theorem k5_I12_faultOfChanges_2_st {k2 : Int → Int → IM Int} (hk2 : ∀ z0 z1, K5 (k2 z0 z1)) {x1 : Int} {x2 : Int} : K5 (I12_faultOfChanges_2_st k2 x1 x2) := by
  unfold I12_faultOfChanges_2_st
  repeat' (first | decide | with_reducible (first | exact k5_I12_faultOfChanges_58 | exact k5_I12_gatheringOf | exact k5_I12_isIn | exact hk2 _ _ | exact k5_r | exact k5_f | exact k5_gI | exact k5_aI | exact k5_aZ | exact k5_sI | exact k5_sZ | exact k5_dI | exact k5_rI | exact k5_nz | exact k5_Sl | exact k5_Sc | exact k5_Si | refine k5_pI ?_ | refine k5_pZ ?_ | refine k5_g ?_ | refine k5_t ?_ ?_ | refine k5_b ?_ fun _ => ?_))
theorem k5_I12_faultOfChanges_2 : ∀ (n : Nat) {z0 : Int} {z1 : Int}, K5 (I12_faultOfChanges_2 n z0 z1) := by
  intro n
  induction n with
  | zero => intros; exact k5_f
  | succ n ih => intros; exact k5_I12_faultOfChanges_2_st  (k2 := (I12_faultOfChanges_2 n)) (fun _ _ => ih)
theorem k5_I12_faultOfChanges {a1 : Int} : K5 (I12_faultOfChanges a1) := by
  unfold I12_faultOfChanges
  repeat' (first | decide | with_reducible (first | exact k5_I12_faultOfChanges_2 _ | exact k5_r | exact k5_f | exact k5_gI | exact k5_aI | exact k5_aZ | exact k5_sI | exact k5_sZ | exact k5_dI | exact k5_rI | exact k5_nz | exact k5_Sl | exact k5_Sc | exact k5_Si | refine k5_pI ?_ | refine k5_pZ ?_ | refine k5_g ?_ | refine k5_t ?_ ?_ | refine k5_b ?_ fun _ => ?_))
theorem kx_I12_change_198 {k97 : Int → Int → Int → IM Int} (hk97 : ∀ z0 z1 z2, KX (k97 z0 z1 z2)) {x1 : Int} {x2 : Int} {x3 : Int} : KX (I12_change_198 k97 x1 x2 x3) := by
  unfold I12_change_198
  repeat' (first | decide | with_reducible (first | exact kx_f | exact kx_no | exact hk97 _ _ _ | exact k5_r | exact k5_f | exact k5_gI | exact k5_aI | exact k5_aZ | exact k5_sI | exact k5_sZ | exact k5_dI | exact k5_rI | exact k5_nz | exact k5_Sl | exact k5_Sc | exact k5_Si | refine k5_pI ?_ | refine k5_pZ ?_ | exact kx_e5 | exact kx_e15 | refine kx_as ?_ | refine kx_g ?_ | refine kx_t ?_ ?_ | refine kx_b ?_ fun _ => ?_ | refine k5_g ?_ | refine k5_t ?_ ?_ | refine k5_b ?_ fun _ => ?_))
theorem kx_I12_change_137_st {k97 : Int → Int → Int → IM Int} (hk97 : ∀ z0 z1 z2, KX (k97 z0 z1 z2)) {k137 : Int → Int → Int → Int → IM Int} (hk137 : ∀ z0 z1 z2 z3, KX (k137 z0 z1 z2 z3)) {x1 : Int} {x2 : Int} {x3 : Int} {x4 : Int} : KX (I12_change_137_st k97 k137 x1 x2 x3 x4) := by
  unfold I12_change_137_st
  repeat' (first | decide | with_reducible (first | exact kx_f | exact kx_no | exact kx_I12_change_198 hk97 | exact k5_I12_spot | exact hk97 _ _ _ | exact hk137 _ _ _ _ | exact k5_r | exact k5_f | exact k5_gI | exact k5_aI | exact k5_aZ | exact k5_sI | exact k5_sZ | exact k5_dI | exact k5_rI | exact k5_nz | exact k5_Sl | exact k5_Sc | exact k5_Si | refine k5_pI ?_ | refine k5_pZ ?_ | exact kx_e5 | exact kx_e15 | refine kx_as ?_ | refine kx_g ?_ | refine kx_t ?_ ?_ | refine kx_b ?_ fun _ => ?_ | refine k5_g ?_ | refine k5_t ?_ ?_ | refine k5_b ?_ fun _ => ?_))
theorem kx_I12_change_137 {k97 : Int → Int → Int → IM Int} (hk97 : ∀ z0 z1 z2, KX (k97 z0 z1 z2)) : ∀ (n : Nat) {z0 : Int} {z1 : Int} {z2 : Int} {z3 : Int}, KX (I12_change_137 k97 n z0 z1 z2 z3) := by
  intro n
  induction n with
  | zero => intros; exact kx_f
  | succ n ih => intros; exact kx_I12_change_137_st hk97 (k137 := (I12_change_137 k97 n)) (fun _ _ _ _ => ih)
theorem kx_I12_change_226 {x2 : Int} : KX (I12_change_226 x2) := by
  unfold I12_change_226
  repeat' (first | decide | with_reducible (first | exact kx_f | exact kx_no | exact kx_I12_isMade | exact k5_r | exact k5_f | exact k5_gI | exact k5_aI | exact k5_aZ | exact k5_sI | exact k5_sZ | exact k5_dI | exact k5_rI | exact k5_nz | exact k5_Sl | exact k5_Sc | exact k5_Si | refine k5_pI ?_ | refine k5_pZ ?_ | exact kx_e5 | exact kx_e15 | refine kx_as ?_ | refine kx_g ?_ | refine kx_t ?_ ?_ | refine kx_b ?_ fun _ => ?_ | refine k5_g ?_ | refine k5_t ?_ ?_ | refine k5_b ?_ fun _ => ?_))
theorem kx_I12_change_206_st {k206 : Int → Int → IM Int} (hk206 : ∀ z0 z1, KX (k206 z0 z1)) {x2 : Int} {x3 : Int} : KX (I12_change_206_st k206 x2 x3) := by
  unfold I12_change_206_st
  repeat' (first | decide | with_reducible (first | exact kx_f | exact kx_no | exact k5_I12_apply | exact kx_I12_change_226 | exact hk206 _ _ | exact k5_r | exact k5_f | exact k5_gI | exact k5_aI | exact k5_aZ | exact k5_sI | exact k5_sZ | exact k5_dI | exact k5_rI | exact k5_nz | exact k5_Sl | exact k5_Sc | exact k5_Si | refine k5_pI ?_ | refine k5_pZ ?_ | exact kx_e5 | exact kx_e15 | refine kx_as ?_ | refine kx_g ?_ | refine kx_t ?_ ?_ | refine kx_b ?_ fun _ => ?_ | refine k5_g ?_ | refine k5_t ?_ ?_ | refine k5_b ?_ fun _ => ?_))
theorem kx_I12_change_206 : ∀ (n : Nat) {z0 : Int} {z1 : Int}, KX (I12_change_206 n z0 z1) := by
  intro n
  induction n with
  | zero => intros; exact kx_f
  | succ n ih => intros; exact kx_I12_change_206_st  (k206 := (I12_change_206 n)) (fun _ _ => ih)
theorem kx_I12_change_204 {x2 : Int} : KX (I12_change_204 x2) := by
  unfold I12_change_204
  repeat' (first | decide | with_reducible (first | exact kx_f | exact kx_no | exact kx_I12_change_206 _ | exact k5_r | exact k5_f | exact k5_gI | exact k5_aI | exact k5_aZ | exact k5_sI | exact k5_sZ | exact k5_dI | exact k5_rI | exact k5_nz | exact k5_Sl | exact k5_Sc | exact k5_Si | refine k5_pI ?_ | refine k5_pZ ?_ | exact kx_e5 | exact kx_e15 | refine kx_as ?_ | refine kx_g ?_ | refine kx_t ?_ ?_ | refine kx_b ?_ fun _ => ?_ | refine k5_g ?_ | refine k5_t ?_ ?_ | refine k5_b ?_ fun _ => ?_))
theorem kx_I12_change_97_st {k97 : Int → Int → Int → IM Int} (hk97 : ∀ z0 z1 z2, KX (k97 z0 z1 z2)) {x1 : Int} {x2 : Int} {x3 : Int} : KX (I12_change_97_st k97 x1 x2 x3) := by
  unfold I12_change_97_st
  repeat' (first | decide | with_reducible (first | exact kx_f | exact kx_no | exact k5_I12_add | exact kx_I12_change_137 hk97 _ | exact kx_I12_change_204 | exact hk97 _ _ _ | exact k5_r | exact k5_f | exact k5_gI | exact k5_aI | exact k5_aZ | exact k5_sI | exact k5_sZ | exact k5_dI | exact k5_rI | exact k5_nz | exact k5_Sl | exact k5_Sc | exact k5_Si | refine k5_pI ?_ | refine k5_pZ ?_ | exact kx_e5 | exact kx_e15 | refine kx_as ?_ | refine kx_g ?_ | refine kx_t ?_ ?_ | refine kx_b ?_ fun _ => ?_ | refine k5_g ?_ | refine k5_t ?_ ?_ | refine k5_b ?_ fun _ => ?_))
theorem kx_I12_change_97 : ∀ (n : Nat) {z0 : Int} {z1 : Int} {z2 : Int}, KX (I12_change_97 n z0 z1 z2) := by
  intro n
  induction n with
  | zero => intros; exact kx_f
  | succ n ih => intros; exact kx_I12_change_97_st  (k97 := (I12_change_97 n)) (fun _ _ _ => ih)
theorem kx_I12_change {a1 : Int} : KX (I12_change a1) := by
  unfold I12_change
  repeat' (first | decide | with_reducible (first | exact kx_f | exact kx_no | exact k5_I12_begins | exact kx_I12_change_97 _ | exact k5_I12_ends | exact k5_I12_faultOfChanges | exact k5_I12_isBook | exact k5_I12_no | exact k5_I12_readChanges | exact k5_r | exact k5_f | exact k5_gI | exact k5_aI | exact k5_aZ | exact k5_sI | exact k5_sZ | exact k5_dI | exact k5_rI | exact k5_nz | exact k5_Sl | exact k5_Sc | exact k5_Si | refine k5_pI ?_ | refine k5_pZ ?_ | exact kx_e5 | exact kx_e15 | refine kx_as ?_ | refine kx_g ?_ | refine kx_t ?_ ?_ | refine kx_b ?_ fun _ => ?_ | refine k5_g ?_ | refine k5_t ?_ ?_ | refine k5_b ?_ fun _ => ?_))
theorem k5_I12_readName  : K5 (I12_readName) := by
  unfold I12_readName
  repeat' (first | decide | with_reducible (first | exact k5_I12_goes | exact k5_I12_take | exact k5_r | exact k5_f | exact k5_gI | exact k5_aI | exact k5_aZ | exact k5_sI | exact k5_sZ | exact k5_dI | exact k5_rI | exact k5_nz | exact k5_Sl | exact k5_Sc | exact k5_Si | refine k5_pI ?_ | refine k5_pZ ?_ | refine k5_g ?_ | refine k5_t ?_ ?_ | refine k5_b ?_ fun _ => ?_))
theorem k5_I12_named_36 {y0 : Int} {y1 : Int} {y2 : Int} {y3 : Int} : K5 (I12_named_36 y0 y1 y2 y3) := by
  unfold I12_named_36
  repeat' (first | decide | with_reducible (first | exact k5_I12_placeOf | exact k5_r | exact k5_f | exact k5_gI | exact k5_aI | exact k5_aZ | exact k5_sI | exact k5_sZ | exact k5_dI | exact k5_rI | exact k5_nz | exact k5_Sl | exact k5_Sc | exact k5_Si | refine k5_pI ?_ | refine k5_pZ ?_ | refine k5_g ?_ | refine k5_t ?_ ?_ | refine k5_b ?_ fun _ => ?_))
theorem k5_I12_named {a1 : Int} : K5 (I12_named a1) := by
  unfold I12_named
  repeat' (first | decide | with_reducible (first | exact k5_I12_named_36 | exact k5_r | exact k5_f | exact k5_gI | exact k5_aI | exact k5_aZ | exact k5_sI | exact k5_sZ | exact k5_dI | exact k5_rI | exact k5_nz | exact k5_Sl | exact k5_Sc | exact k5_Si | refine k5_pI ?_ | refine k5_pZ ?_ | refine k5_g ?_ | refine k5_t ?_ ?_ | refine k5_b ?_ fun _ => ?_))
theorem kx_I12_copy_241  : KX (I12_copy_241) := by
  unfold I12_copy_241
  repeat' (first | decide | with_reducible (first | exact kx_f | exact kx_no | exact k5_I12_no | exact k5_r | exact k5_f | exact k5_gI | exact k5_aI | exact k5_aZ | exact k5_sI | exact k5_sZ | exact k5_dI | exact k5_rI | exact k5_nz | exact k5_Sl | exact k5_Sc | exact k5_Si | refine k5_pI ?_ | refine k5_pZ ?_ | exact kx_e5 | exact kx_e15 | refine kx_as ?_ | refine kx_g ?_ | refine kx_t ?_ ?_ | refine kx_b ?_ fun _ => ?_ | refine k5_g ?_ | refine k5_t ?_ ?_ | refine k5_b ?_ fun _ => ?_))
theorem kx_I12_copy_312 {k260 : Int → Int → Int → Int → Int → IM Int} (hk260 : ∀ z0 z1 z2 z3 z4, KX (k260 z0 z1 z2 z3 z4)) {x1 : Int} {x2 : Int} {x4 : Int} {x5 : Int} {x6 : Int} : KX (I12_copy_312 k260 x1 x2 x4 x5 x6) := by
  unfold I12_copy_312
  repeat' (first | decide | with_reducible (first | exact kx_f | exact kx_no | exact hk260 _ _ _ _ _ | exact k5_r | exact k5_f | exact k5_gI | exact k5_aI | exact k5_aZ | exact k5_sI | exact k5_sZ | exact k5_dI | exact k5_rI | exact k5_nz | exact k5_Sl | exact k5_Sc | exact k5_Si | refine k5_pI ?_ | refine k5_pZ ?_ | exact kx_e5 | exact kx_e15 | refine kx_as ?_ | refine kx_g ?_ | refine kx_t ?_ ?_ | refine kx_b ?_ fun _ => ?_ | refine k5_g ?_ | refine k5_t ?_ ?_ | refine k5_b ?_ fun _ => ?_))
theorem kx_I12_copy_275_st {k260 : Int → Int → Int → Int → Int → IM Int} (hk260 : ∀ z0 z1 z2 z3 z4, KX (k260 z0 z1 z2 z3 z4)) {k275 : Int → Int → Int → Int → Int → Int → IM Int} (hk275 : ∀ z0 z1 z2 z3 z4 z5, KX (k275 z0 z1 z2 z3 z4 z5)) {x1 : Int} {x2 : Int} {x4 : Int} {x5 : Int} {x6 : Int} {x7 : Int} : KX (I12_copy_275_st k260 k275 x1 x2 x4 x5 x6 x7) := by
  unfold I12_copy_275_st
  repeat' (first | decide | with_reducible (first | exact kx_f | exact kx_no | exact kx_I12_copy_312 hk260 | exact hk260 _ _ _ _ _ | exact hk275 _ _ _ _ _ _ | exact k5_r | exact k5_f | exact k5_gI | exact k5_aI | exact k5_aZ | exact k5_sI | exact k5_sZ | exact k5_dI | exact k5_rI | exact k5_nz | exact k5_Sl | exact k5_Sc | exact k5_Si | refine k5_pI ?_ | refine k5_pZ ?_ | exact kx_e5 | exact kx_e15 | refine kx_as ?_ | refine kx_g ?_ | refine kx_t ?_ ?_ | refine kx_b ?_ fun _ => ?_ | refine k5_g ?_ | refine k5_t ?_ ?_ | refine k5_b ?_ fun _ => ?_))
theorem kx_I12_copy_275 {k260 : Int → Int → Int → Int → Int → IM Int} (hk260 : ∀ z0 z1 z2 z3 z4, KX (k260 z0 z1 z2 z3 z4)) : ∀ (n : Nat) {z0 : Int} {z1 : Int} {z2 : Int} {z3 : Int} {z4 : Int} {z5 : Int}, KX (I12_copy_275 k260 n z0 z1 z2 z3 z4 z5) := by
  intro n
  induction n with
  | zero => intros; exact kx_f
  | succ n ih => intros; exact kx_I12_copy_275_st hk260 (k275 := (I12_copy_275 k260 n)) (fun _ _ _ _ _ _ => ih)
theorem kx_I12_copy_318 {x1 : Int} {x4 : Int} {x5 : Int} : KX (I12_copy_318 x1 x4 x5) := by
  unfold I12_copy_318
  repeat' (first | decide | with_reducible (first | exact kx_f | exact kx_no | exact k5_I12_fine | exact k5_r | exact k5_f | exact k5_gI | exact k5_aI | exact k5_aZ | exact k5_sI | exact k5_sZ | exact k5_dI | exact k5_rI | exact k5_nz | exact k5_Sl | exact k5_Sc | exact k5_Si | refine k5_pI ?_ | refine k5_pZ ?_ | exact kx_e5 | exact kx_e15 | refine kx_as ?_ | refine kx_g ?_ | refine kx_t ?_ ?_ | refine kx_b ?_ fun _ => ?_ | refine k5_g ?_ | refine k5_t ?_ ?_ | refine k5_b ?_ fun _ => ?_))
theorem kx_I12_copy_260_st {k260 : Int → Int → Int → Int → Int → IM Int} (hk260 : ∀ z0 z1 z2 z3 z4, KX (k260 z0 z1 z2 z3 z4)) {x1 : Int} {x2 : Int} {x4 : Int} {x5 : Int} {x6 : Int} : KX (I12_copy_260_st k260 x1 x2 x4 x5 x6) := by
  unfold I12_copy_260_st
  repeat' (first | decide | with_reducible (first | exact kx_f | exact kx_no | exact kx_I12_copy_275 hk260 _ | exact kx_I12_copy_318 | exact hk260 _ _ _ _ _ | exact k5_r | exact k5_f | exact k5_gI | exact k5_aI | exact k5_aZ | exact k5_sI | exact k5_sZ | exact k5_dI | exact k5_rI | exact k5_nz | exact k5_Sl | exact k5_Sc | exact k5_Si | refine k5_pI ?_ | refine k5_pZ ?_ | exact kx_e5 | exact kx_e15 | refine kx_as ?_ | refine kx_g ?_ | refine kx_t ?_ ?_ | refine kx_b ?_ fun _ => ?_ | refine k5_g ?_ | refine k5_t ?_ ?_ | refine k5_b ?_ fun _ => ?_))
theorem kx_I12_copy_260 : ∀ (n : Nat) {z0 : Int} {z1 : Int} {z2 : Int} {z3 : Int} {z4 : Int}, KX (I12_copy_260 n z0 z1 z2 z3 z4) := by
  intro n
  induction n with
  | zero => intros; exact kx_f
  | succ n ih => intros; exact kx_I12_copy_260_st  (k260 := (I12_copy_260 n)) (fun _ _ _ _ _ => ih)
theorem kx_I12_copy_224 {x1 : Int} {x2 : Int} {x4 : Int} : KX (I12_copy_224 x1 x2 x4) := by
  unfold I12_copy_224
  repeat' (first | decide | with_reducible (first | exact kx_f | exact kx_no | exact kx_I12_copy_241 | exact kx_I12_copy_260 _ | exact k5_r | exact k5_f | exact k5_gI | exact k5_aI | exact k5_aZ | exact k5_sI | exact k5_sZ | exact k5_dI | exact k5_rI | exact k5_nz | exact k5_Sl | exact k5_Sc | exact k5_Si | refine k5_pI ?_ | refine k5_pZ ?_ | exact kx_e5 | exact kx_e15 | refine kx_as ?_ | refine kx_g ?_ | refine kx_t ?_ ?_ | refine kx_b ?_ fun _ => ?_ | refine k5_g ?_ | refine k5_t ?_ ?_ | refine k5_b ?_ fun _ => ?_))
theorem kx_I12_copy_190_st {k190 : Int → Int → Int → Int → IM Int} (hk190 : ∀ z0 z1 z2 z3, KX (k190 z0 z1 z2 z3)) {x1 : Int} {x2 : Int} {x4 : Int} {x5 : Int} : KX (I12_copy_190_st k190 x1 x2 x4 x5) := by
  unfold I12_copy_190_st
  repeat' (first | decide | with_reducible (first | exact kx_f | exact kx_no | exact kx_I12_copy_224 | exact hk190 _ _ _ _ | exact k5_r | exact k5_f | exact k5_gI | exact k5_aI | exact k5_aZ | exact k5_sI | exact k5_sZ | exact k5_dI | exact k5_rI | exact k5_nz | exact k5_Sl | exact k5_Sc | exact k5_Si | refine k5_pI ?_ | refine k5_pZ ?_ | exact kx_e5 | exact kx_e15 | refine kx_as ?_ | refine kx_g ?_ | refine kx_t ?_ ?_ | refine kx_b ?_ fun _ => ?_ | refine k5_g ?_ | refine k5_t ?_ ?_ | refine k5_b ?_ fun _ => ?_))
theorem kx_I12_copy_190 : ∀ (n : Nat) {z0 : Int} {z1 : Int} {z2 : Int} {z3 : Int}, KX (I12_copy_190 n z0 z1 z2 z3) := by
  intro n
  induction n with
  | zero => intros; exact kx_f
  | succ n ih => intros; exact kx_I12_copy_190_st  (k190 := (I12_copy_190 n)) (fun _ _ _ _ => ih)
theorem kx_I12_copy_171 {x1 : Int} {x2 : Int} {x3 : Int} {y0 : Int} : KX (I12_copy_171 x1 x2 x3 y0) := by
  unfold I12_copy_171
  repeat' (first | decide | with_reducible (first | exact kx_f | exact kx_no | exact kx_I12_copy_190 _ | exact k5_I12_no | exact k5_r | exact k5_f | exact k5_gI | exact k5_aI | exact k5_aZ | exact k5_sI | exact k5_sZ | exact k5_dI | exact k5_rI | exact k5_nz | exact k5_Sl | exact k5_Sc | exact k5_Si | refine k5_pI ?_ | refine k5_pZ ?_ | exact kx_e5 | exact kx_e15 | refine kx_as ?_ | refine kx_g ?_ | refine kx_t ?_ ?_ | refine kx_b ?_ fun _ => ?_ | refine k5_g ?_ | refine k5_t ?_ ?_ | refine k5_b ?_ fun _ => ?_))
theorem kx_I12_copy_147 {x1 : Int} {x2 : Int} {x3 : Int} : KX (I12_copy_147 x1 x2 x3) := by
  unfold I12_copy_147
  repeat' (first | decide | with_reducible (first | exact kx_f | exact kx_no | exact kx_I12_copy_171 | exact k5_I12_ends | exact k5_I12_no | exact k5_r | exact k5_f | exact k5_gI | exact k5_aI | exact k5_aZ | exact k5_sI | exact k5_sZ | exact k5_dI | exact k5_rI | exact k5_nz | exact k5_Sl | exact k5_Sc | exact k5_Si | refine k5_pI ?_ | refine k5_pZ ?_ | exact kx_e5 | exact kx_e15 | refine kx_as ?_ | refine kx_g ?_ | refine kx_t ?_ ?_ | refine kx_b ?_ fun _ => ?_ | refine k5_g ?_ | refine k5_t ?_ ?_ | refine k5_b ?_ fun _ => ?_))
theorem kx_I12_copy_129 {k27 : Int → Int → Int → IM Int} (hk27 : ∀ z0 z1 z2, KX (k27 z0 z1 z2)) {x1 : Int} {x2 : Int} {y0 : Int} : KX (I12_copy_129 k27 x1 x2 y0) := by
  unfold I12_copy_129
  repeat' (first | decide | with_reducible (first | exact kx_f | exact kx_no | exact kx_I12_copy_147 | exact hk27 _ _ _ | exact k5_r | exact k5_f | exact k5_gI | exact k5_aI | exact k5_aZ | exact k5_sI | exact k5_sZ | exact k5_dI | exact k5_rI | exact k5_nz | exact k5_Sl | exact k5_Sc | exact k5_Si | refine k5_pI ?_ | refine k5_pZ ?_ | exact kx_e5 | exact kx_e15 | refine kx_as ?_ | refine kx_g ?_ | refine kx_t ?_ ?_ | refine kx_b ?_ fun _ => ?_ | refine k5_g ?_ | refine k5_t ?_ ?_ | refine k5_b ?_ fun _ => ?_))
theorem kx_I12_copy_124 {k27 : Int → Int → Int → IM Int} (hk27 : ∀ z0 z1 z2, KX (k27 z0 z1 z2)) {x1 : Int} {x2 : Int} : KX (I12_copy_124 k27 x1 x2) := by
  unfold I12_copy_124
  repeat' (first | decide | with_reducible (first | exact kx_f | exact kx_no | exact kx_I12_copy_129 hk27 | exact hk27 _ _ _ | exact k5_r | exact k5_f | exact k5_gI | exact k5_aI | exact k5_aZ | exact k5_sI | exact k5_sZ | exact k5_dI | exact k5_rI | exact k5_nz | exact k5_Sl | exact k5_Sc | exact k5_Si | refine k5_pI ?_ | refine k5_pZ ?_ | exact kx_e5 | exact kx_e15 | refine kx_as ?_ | refine kx_g ?_ | refine kx_t ?_ ?_ | refine kx_b ?_ fun _ => ?_ | refine k5_g ?_ | refine k5_t ?_ ?_ | refine k5_b ?_ fun _ => ?_))
theorem kx_I12_copy_128 {k27 : Int → Int → Int → IM Int} (hk27 : ∀ z0 z1 z2, KX (k27 z0 z1 z2)) {x1 : Int} {x2 : Int} : KX (I12_copy_128 k27 x1 x2) := by
  unfold I12_copy_128
  repeat' (first | decide | with_reducible (first | exact kx_f | exact kx_no | exact kx_I12_copy_129 hk27 | exact hk27 _ _ _ | exact k5_r | exact k5_f | exact k5_gI | exact k5_aI | exact k5_aZ | exact k5_sI | exact k5_sZ | exact k5_dI | exact k5_rI | exact k5_nz | exact k5_Sl | exact k5_Sc | exact k5_Si | refine k5_pI ?_ | refine k5_pZ ?_ | exact kx_e5 | exact kx_e15 | refine kx_as ?_ | refine kx_g ?_ | refine kx_t ?_ ?_ | refine kx_b ?_ fun _ => ?_ | refine k5_g ?_ | refine k5_t ?_ ?_ | refine k5_b ?_ fun _ => ?_))
theorem kx_I12_copy_82 {k27 : Int → Int → Int → IM Int} (hk27 : ∀ z0 z1 z2, KX (k27 z0 z1 z2)) {x1 : Int} {x2 : Int} {x3 : Int} {x4 : Int} : KX (I12_copy_82 k27 x1 x2 x3 x4) := by
  unfold I12_copy_82
  repeat' (first | decide | with_reducible (first | exact kx_f | exact kx_no | exact kx_I12_copy_124 hk27 | exact kx_I12_copy_128 hk27 | exact hk27 _ _ _ | exact k5_r | exact k5_f | exact k5_gI | exact k5_aI | exact k5_aZ | exact k5_sI | exact k5_sZ | exact k5_dI | exact k5_rI | exact k5_nz | exact k5_Sl | exact k5_Sc | exact k5_Si | refine k5_pI ?_ | refine k5_pZ ?_ | exact kx_e5 | exact kx_e15 | refine kx_as ?_ | refine kx_g ?_ | refine kx_t ?_ ?_ | refine kx_b ?_ fun _ => ?_ | refine k5_g ?_ | refine k5_t ?_ ?_ | refine k5_b ?_ fun _ => ?_))
theorem kx_I12_copy_27_st {k27 : Int → Int → Int → IM Int} (hk27 : ∀ z0 z1 z2, KX (k27 z0 z1 z2)) {x1 : Int} {x2 : Int} {x3 : Int} : KX (I12_copy_27_st k27 x1 x2 x3) := by
  unfold I12_copy_27_st
  repeat' (first | decide | with_reducible (first | exact kx_f | exact kx_no | exact kx_I12_copy_82 hk27 | exact k5_I12_goes | exact k5_I12_named | exact k5_I12_readName | exact hk27 _ _ _ | exact k5_r | exact k5_f | exact k5_gI | exact k5_aI | exact k5_aZ | exact k5_sI | exact k5_sZ | exact k5_dI | exact k5_rI | exact k5_nz | exact k5_Sl | exact k5_Sc | exact k5_Si | refine k5_pI ?_ | refine k5_pZ ?_ | exact kx_e5 | exact kx_e15 | refine kx_as ?_ | refine kx_g ?_ | refine kx_t ?_ ?_ | refine kx_b ?_ fun _ => ?_ | refine k5_g ?_ | refine k5_t ?_ ?_ | refine k5_b ?_ fun _ => ?_))
theorem kx_I12_copy_27 : ∀ (n : Nat) {z0 : Int} {z1 : Int} {z2 : Int}, KX (I12_copy_27 n z0 z1 z2) := by
  intro n
  induction n with
  | zero => intros; exact kx_f
  | succ n ih => intros; exact kx_I12_copy_27_st  (k27 := (I12_copy_27 n)) (fun _ _ _ => ih)
theorem kx_I12_copy {a1 : Int} : KX (I12_copy a1) := by
  unfold I12_copy
  repeat' (first | decide | with_reducible (first | exact kx_f | exact kx_no | exact k5_I12_begins | exact kx_I12_copy_27 _ | exact k5_I12_isBook | exact k5_I12_no | exact k5_r | exact k5_f | exact k5_gI | exact k5_aI | exact k5_aZ | exact k5_sI | exact k5_sZ | exact k5_dI | exact k5_rI | exact k5_nz | exact k5_Sl | exact k5_Sc | exact k5_Si | refine k5_pI ?_ | refine k5_pZ ?_ | exact kx_e5 | exact kx_e15 | refine kx_as ?_ | refine kx_g ?_ | refine kx_t ?_ ?_ | refine kx_b ?_ fun _ => ?_ | refine k5_g ?_ | refine k5_t ?_ ?_ | refine k5_b ?_ fun _ => ?_))
theorem k5_I12_find {a1 : Int} : K5 (I12_find a1) := by
  unfold I12_find
  repeat' (first | decide | with_reducible (first | exact k5_I12_begins | exact k5_I12_ends | exact k5_I12_fine | exact k5_I12_isBook | exact k5_I12_named | exact k5_I12_no | exact k5_I12_readName | exact k5_r | exact k5_f | exact k5_gI | exact k5_aI | exact k5_aZ | exact k5_sI | exact k5_sZ | exact k5_dI | exact k5_rI | exact k5_nz | exact k5_Sl | exact k5_Sc | exact k5_Si | refine k5_pI ?_ | refine k5_pZ ?_ | refine k5_g ?_ | refine k5_t ?_ ?_ | refine k5_b ?_ fun _ => ?_))
theorem k5_I12_place  : K5 (I12_place) := by
  unfold I12_place
  repeat' (first | decide | with_reducible (first | exact k5_r | exact k5_f | exact k5_gI | exact k5_aI | exact k5_aZ | exact k5_sI | exact k5_sZ | exact k5_dI | exact k5_rI | exact k5_nz | exact k5_Sl | exact k5_Sc | exact k5_Si | refine k5_pI ?_ | refine k5_pZ ?_ | refine k5_g ?_ | refine k5_t ?_ ?_ | refine k5_b ?_ fun _ => ?_))
theorem k5_I12_fault  : K5 (I12_fault) := by
  unfold I12_fault
  repeat' (first | decide | with_reducible (first | exact k5_r | exact k5_f | exact k5_gI | exact k5_aI | exact k5_aZ | exact k5_sI | exact k5_sZ | exact k5_dI | exact k5_rI | exact k5_nz | exact k5_Sl | exact k5_Sc | exact k5_Si | refine k5_pI ?_ | refine k5_pZ ?_ | refine k5_g ?_ | refine k5_t ?_ ?_ | refine k5_b ?_ fun _ => ?_))
theorem k5_I12_count {a1 : Int} : K5 (I12_count a1) := by
  unfold I12_count
  repeat' (first | decide | with_reducible (first | exact k5_I12_fine | exact k5_I12_no | exact k5_r | exact k5_f | exact k5_gI | exact k5_aI | exact k5_aZ | exact k5_sI | exact k5_sZ | exact k5_dI | exact k5_rI | exact k5_nz | exact k5_Sl | exact k5_Sc | exact k5_Si | refine k5_pI ?_ | refine k5_pZ ?_ | refine k5_g ?_ | refine k5_t ?_ ?_ | refine k5_b ?_ fun _ => ?_))
theorem k5_I12_gatherings {a1 : Int} : K5 (I12_gatherings a1) := by
  unfold I12_gatherings
  repeat' (first | decide | with_reducible (first | exact k5_I12_fine | exact k5_I12_isBook | exact k5_I12_no | exact k5_r | exact k5_f | exact k5_gI | exact k5_aI | exact k5_aZ | exact k5_sI | exact k5_sZ | exact k5_dI | exact k5_rI | exact k5_nz | exact k5_Sl | exact k5_Sc | exact k5_Si | refine k5_pI ?_ | refine k5_pZ ?_ | refine k5_g ?_ | refine k5_t ?_ ?_ | refine k5_b ?_ fun _ => ?_))
theorem k5_I12_gathering_24  : K5 (I12_gathering_24) := by
  unfold I12_gathering_24
  repeat' (first | decide | with_reducible (first | exact k5_I12_no | exact k5_r | exact k5_f | exact k5_gI | exact k5_aI | exact k5_aZ | exact k5_sI | exact k5_sZ | exact k5_dI | exact k5_rI | exact k5_nz | exact k5_Sl | exact k5_Sc | exact k5_Si | refine k5_pI ?_ | refine k5_pZ ?_ | refine k5_g ?_ | refine k5_t ?_ ?_ | refine k5_b ?_ fun _ => ?_))
theorem k5_I12_gathering_134 {k99 : Int → Int → Int → Int → IM Int} (hk99 : ∀ z0 z1 z2 z3, K5 (k99 z0 z1 z2 z3)) {x1 : Int} {x2 : Int} {x5 : Int} {y0 : Int} {y1 : Int} : K5 (I12_gathering_134 k99 x1 x2 x5 y0 y1) := by
  unfold I12_gathering_134
  repeat' (first | decide | with_reducible (first | exact hk99 _ _ _ _ | exact k5_r | exact k5_f | exact k5_gI | exact k5_aI | exact k5_aZ | exact k5_sI | exact k5_sZ | exact k5_dI | exact k5_rI | exact k5_nz | exact k5_Sl | exact k5_Sc | exact k5_Si | refine k5_pI ?_ | refine k5_pZ ?_ | refine k5_g ?_ | refine k5_t ?_ ?_ | refine k5_b ?_ fun _ => ?_))
theorem k5_I12_gathering_143 {x4 : Int} : K5 (I12_gathering_143 x4) := by
  unfold I12_gathering_143
  repeat' (first | decide | with_reducible (first | exact k5_I12_fine | exact k5_r | exact k5_f | exact k5_gI | exact k5_aI | exact k5_aZ | exact k5_sI | exact k5_sZ | exact k5_dI | exact k5_rI | exact k5_nz | exact k5_Sl | exact k5_Sc | exact k5_Si | refine k5_pI ?_ | refine k5_pZ ?_ | refine k5_g ?_ | refine k5_t ?_ ?_ | refine k5_b ?_ fun _ => ?_))
theorem k5_I12_gathering_99_st {k99 : Int → Int → Int → Int → IM Int} (hk99 : ∀ z0 z1 z2 z3, K5 (k99 z0 z1 z2 z3)) {x1 : Int} {x2 : Int} {x4 : Int} {x5 : Int} : K5 (I12_gathering_99_st k99 x1 x2 x4 x5) := by
  unfold I12_gathering_99_st
  repeat' (first | decide | with_reducible (first | exact k5_I12_gathering_134 hk99 | exact k5_I12_gathering_143 | exact hk99 _ _ _ _ | exact k5_r | exact k5_f | exact k5_gI | exact k5_aI | exact k5_aZ | exact k5_sI | exact k5_sZ | exact k5_dI | exact k5_rI | exact k5_nz | exact k5_Sl | exact k5_Sc | exact k5_Si | refine k5_pI ?_ | refine k5_pZ ?_ | refine k5_g ?_ | refine k5_t ?_ ?_ | refine k5_b ?_ fun _ => ?_))
theorem k5_I12_gathering_99 : ∀ (n : Nat) {z0 : Int} {z1 : Int} {z2 : Int} {z3 : Int}, K5 (I12_gathering_99 n z0 z1 z2 z3) := by
  intro n
  induction n with
  | zero => intros; exact k5_f
  | succ n ih => intros; exact k5_I12_gathering_99_st  (k99 := (I12_gathering_99 n)) (fun _ _ _ _ => ih)
theorem k5_I12_gathering_192 {k153 : Int → Int → Int → Int → IM Int} (hk153 : ∀ z0 z1 z2 z3, K5 (k153 z0 z1 z2 z3)) {x1 : Int} {x2 : Int} {x5 : Int} {y0 : Int} {y1 : Int} : K5 (I12_gathering_192 k153 x1 x2 x5 y0 y1) := by
  unfold I12_gathering_192
  repeat' (first | decide | with_reducible (first | exact hk153 _ _ _ _ | exact k5_r | exact k5_f | exact k5_gI | exact k5_aI | exact k5_aZ | exact k5_sI | exact k5_sZ | exact k5_dI | exact k5_rI | exact k5_nz | exact k5_Sl | exact k5_Sc | exact k5_Si | refine k5_pI ?_ | refine k5_pZ ?_ | refine k5_g ?_ | refine k5_t ?_ ?_ | refine k5_b ?_ fun _ => ?_))
theorem k5_I12_gathering_201 {x4 : Int} : K5 (I12_gathering_201 x4) := by
  unfold I12_gathering_201
  repeat' (first | decide | with_reducible (first | exact k5_I12_fine | exact k5_r | exact k5_f | exact k5_gI | exact k5_aI | exact k5_aZ | exact k5_sI | exact k5_sZ | exact k5_dI | exact k5_rI | exact k5_nz | exact k5_Sl | exact k5_Sc | exact k5_Si | refine k5_pI ?_ | refine k5_pZ ?_ | refine k5_g ?_ | refine k5_t ?_ ?_ | refine k5_b ?_ fun _ => ?_))
theorem k5_I12_gathering_153_st {k153 : Int → Int → Int → Int → IM Int} (hk153 : ∀ z0 z1 z2 z3, K5 (k153 z0 z1 z2 z3)) {x1 : Int} {x2 : Int} {x4 : Int} {x5 : Int} : K5 (I12_gathering_153_st k153 x1 x2 x4 x5) := by
  unfold I12_gathering_153_st
  repeat' (first | decide | with_reducible (first | exact k5_I12_gathering_192 hk153 | exact k5_I12_gathering_201 | exact k5_I12_spot | exact hk153 _ _ _ _ | exact k5_r | exact k5_f | exact k5_gI | exact k5_aI | exact k5_aZ | exact k5_sI | exact k5_sZ | exact k5_dI | exact k5_rI | exact k5_nz | exact k5_Sl | exact k5_Sc | exact k5_Si | refine k5_pI ?_ | refine k5_pZ ?_ | refine k5_g ?_ | refine k5_t ?_ ?_ | refine k5_b ?_ fun _ => ?_))
theorem k5_I12_gathering_153 : ∀ (n : Nat) {z0 : Int} {z1 : Int} {z2 : Int} {z3 : Int}, K5 (I12_gathering_153 n z0 z1 z2 z3) := by
  intro n
  induction n with
  | zero => intros; exact k5_f
  | succ n ih => intros; exact k5_I12_gathering_153_st  (k153 := (I12_gathering_153 n)) (fun _ _ _ _ => ih)
theorem k5_I12_gathering {a1 : Int} {a2 : Int} {a3 : Int} : K5 (I12_gathering a1 a2 a3) := by
  unfold I12_gathering
  repeat' (first | decide | with_reducible (first | exact k5_I12_fine | exact k5_I12_gathering_153 _ | exact k5_I12_gathering_24 | exact k5_I12_gathering_99 _ | exact k5_I12_isBook | exact k5_I12_isIn | exact k5_I12_no | exact k5_r | exact k5_f | exact k5_gI | exact k5_aI | exact k5_aZ | exact k5_sI | exact k5_sZ | exact k5_dI | exact k5_rI | exact k5_nz | exact k5_Sl | exact k5_Sc | exact k5_Si | refine k5_pI ?_ | refine k5_pZ ?_ | refine k5_g ?_ | refine k5_t ?_ ?_ | refine k5_b ?_ fun _ => ?_))
theorem k5_I12_leaves {a1 : Int} : K5 (I12_leaves a1) := by
  unfold I12_leaves
  repeat' (first | decide | with_reducible (first | exact k5_I12_fine | exact k5_I12_isBook | exact k5_I12_no | exact k5_r | exact k5_f | exact k5_gI | exact k5_aI | exact k5_aZ | exact k5_sI | exact k5_sZ | exact k5_dI | exact k5_rI | exact k5_nz | exact k5_Sl | exact k5_Sc | exact k5_Si | refine k5_pI ?_ | refine k5_pZ ?_ | refine k5_g ?_ | refine k5_t ?_ ?_ | refine k5_b ?_ fun _ => ?_))
theorem k5_I12_isLeaf {a1 : Int} {a2 : Int} : K5 (I12_isLeaf a1 a2) := by
  unfold I12_isLeaf
  repeat' (first | decide | with_reducible (first | exact k5_I12_isBook | exact k5_I12_isIn | exact k5_r | exact k5_f | exact k5_gI | exact k5_aI | exact k5_aZ | exact k5_sI | exact k5_sZ | exact k5_dI | exact k5_rI | exact k5_nz | exact k5_Sl | exact k5_Sc | exact k5_Si | refine k5_pI ?_ | refine k5_pZ ?_ | refine k5_g ?_ | refine k5_t ?_ ?_ | refine k5_b ?_ fun _ => ?_))
theorem k5_I12_leaf_113 {y0 : Int} : K5 (I12_leaf_113 y0) := by
  unfold I12_leaf_113
  repeat' (first | decide | with_reducible (first | exact k5_I12_fine | exact k5_r | exact k5_f | exact k5_gI | exact k5_aI | exact k5_aZ | exact k5_sI | exact k5_sZ | exact k5_dI | exact k5_rI | exact k5_nz | exact k5_Sl | exact k5_Sc | exact k5_Si | refine k5_pI ?_ | refine k5_pZ ?_ | refine k5_g ?_ | refine k5_t ?_ ?_ | refine k5_b ?_ fun _ => ?_))
theorem k5_I12_leaf {a1 : Int} {a2 : Int} {a3 : Int} : K5 (I12_leaf a1 a2 a3) := by
  unfold I12_leaf
  repeat' (first | decide | with_reducible (first | exact k5_I12_conjugate | exact k5_I12_fine | exact k5_I12_isLeaf | exact k5_I12_isPlain | exact k5_I12_leaf_113 | exact k5_I12_no | exact k5_r | exact k5_f | exact k5_gI | exact k5_aI | exact k5_aZ | exact k5_sI | exact k5_sZ | exact k5_dI | exact k5_rI | exact k5_nz | exact k5_Sl | exact k5_Sc | exact k5_Si | refine k5_pI ?_ | refine k5_pZ ?_ | refine k5_g ?_ | refine k5_t ?_ ?_ | refine k5_b ?_ fun _ => ?_))
theorem k5_I12_letter {a1 : Int} {a2 : Int} : K5 (I12_letter a1 a2) := by
  unfold I12_letter
  repeat' (first | decide | with_reducible (first | exact k5_I12_isBook | exact k5_I12_no | exact k5_I12_tell | exact k5_I12_writeBook | exact k5_r | exact k5_f | exact k5_gI | exact k5_aI | exact k5_aZ | exact k5_sI | exact k5_sZ | exact k5_dI | exact k5_rI | exact k5_nz | exact k5_Sl | exact k5_Sc | exact k5_Si | refine k5_pI ?_ | refine k5_pZ ?_ | refine k5_g ?_ | refine k5_t ?_ ?_ | refine k5_b ?_ fun _ => ?_))
theorem k5_I12_name {a1 : Int} {a2 : Int} {a3 : Int} : K5 (I12_name a1 a2 a3) := by
  unfold I12_name
  repeat' (first | decide | with_reducible (first | exact k5_I12_isLeaf | exact k5_I12_no | exact k5_I12_tell | exact k5_I12_writeName | exact k5_r | exact k5_f | exact k5_gI | exact k5_aI | exact k5_aZ | exact k5_sI | exact k5_sZ | exact k5_dI | exact k5_rI | exact k5_nz | exact k5_Sl | exact k5_Sc | exact k5_Si | refine k5_pI ?_ | refine k5_pZ ?_ | refine k5_g ?_ | refine k5_t ?_ ?_ | refine k5_b ?_ fun _ => ?_))
theorem k5_I12_same_16  : K5 (I12_same_16) := by
  unfold I12_same_16
  repeat' (first | decide | with_reducible (first | exact k5_I12_no | exact k5_r | exact k5_f | exact k5_gI | exact k5_aI | exact k5_aZ | exact k5_sI | exact k5_sZ | exact k5_dI | exact k5_rI | exact k5_nz | exact k5_Sl | exact k5_Sc | exact k5_Si | refine k5_pI ?_ | refine k5_pZ ?_ | refine k5_g ?_ | refine k5_t ?_ ?_ | refine k5_b ?_ fun _ => ?_))
theorem k5_I12_same_117 {k84 : Int → Int → Int → IM Int} (hk84 : ∀ z0 z1 z2, K5 (k84 z0 z1 z2)) {x3 : Int} {x5 : Int} {y0 : Int} : K5 (I12_same_117 k84 x3 x5 y0) := by
  unfold I12_same_117
  repeat' (first | decide | with_reducible (first | exact hk84 _ _ _ | exact k5_r | exact k5_f | exact k5_gI | exact k5_aI | exact k5_aZ | exact k5_sI | exact k5_sZ | exact k5_dI | exact k5_rI | exact k5_nz | exact k5_Sl | exact k5_Sc | exact k5_Si | refine k5_pI ?_ | refine k5_pZ ?_ | refine k5_g ?_ | refine k5_t ?_ ?_ | refine k5_b ?_ fun _ => ?_))
theorem k5_I12_same_136 {y0 : Int} : K5 (I12_same_136 y0) := by
  unfold I12_same_136
  repeat' (first | decide | with_reducible (first | exact k5_I12_fine | exact k5_r | exact k5_f | exact k5_gI | exact k5_aI | exact k5_aZ | exact k5_sI | exact k5_sZ | exact k5_dI | exact k5_rI | exact k5_nz | exact k5_Sl | exact k5_Sc | exact k5_Si | refine k5_pI ?_ | refine k5_pZ ?_ | refine k5_g ?_ | refine k5_t ?_ ?_ | refine k5_b ?_ fun _ => ?_))
theorem k5_I12_same_125 {x4 : Int} : K5 (I12_same_125 x4) := by
  unfold I12_same_125
  repeat' (first | decide | with_reducible (first | exact k5_I12_same_136 | exact k5_r | exact k5_f | exact k5_gI | exact k5_aI | exact k5_aZ | exact k5_sI | exact k5_sZ | exact k5_dI | exact k5_rI | exact k5_nz | exact k5_Sl | exact k5_Sc | exact k5_Si | refine k5_pI ?_ | refine k5_pZ ?_ | refine k5_g ?_ | refine k5_t ?_ ?_ | refine k5_b ?_ fun _ => ?_))
theorem k5_I12_same_84_st {k84 : Int → Int → Int → IM Int} (hk84 : ∀ z0 z1 z2, K5 (k84 z0 z1 z2)) {x3 : Int} {x4 : Int} {x5 : Int} : K5 (I12_same_84_st k84 x3 x4 x5) := by
  unfold I12_same_84_st
  repeat' (first | decide | with_reducible (first | exact k5_I12_same_117 hk84 | exact k5_I12_same_125 | exact hk84 _ _ _ | exact k5_r | exact k5_f | exact k5_gI | exact k5_aI | exact k5_aZ | exact k5_sI | exact k5_sZ | exact k5_dI | exact k5_rI | exact k5_nz | exact k5_Sl | exact k5_Sc | exact k5_Si | refine k5_pI ?_ | refine k5_pZ ?_ | refine k5_g ?_ | refine k5_t ?_ ?_ | refine k5_b ?_ fun _ => ?_))
theorem k5_I12_same_84 : ∀ (n : Nat) {z0 : Int} {z1 : Int} {z2 : Int}, K5 (I12_same_84 n z0 z1 z2) := by
  intro n
  induction n with
  | zero => intros; exact k5_f
  | succ n ih => intros; exact k5_I12_same_84_st  (k84 := (I12_same_84 n)) (fun _ _ _ => ih)
theorem k5_I12_same_79 {x3 : Int} {y0 : Int} : K5 (I12_same_79 x3 y0) := by
  unfold I12_same_79
  repeat' (first | decide | with_reducible (first | exact k5_I12_same_84 _ | exact k5_r | exact k5_f | exact k5_gI | exact k5_aI | exact k5_aZ | exact k5_sI | exact k5_sZ | exact k5_dI | exact k5_rI | exact k5_nz | exact k5_Sl | exact k5_Sc | exact k5_Si | refine k5_pI ?_ | refine k5_pZ ?_ | refine k5_g ?_ | refine k5_t ?_ ?_ | refine k5_b ?_ fun _ => ?_))
theorem k5_I12_same_61 {x2 : Int} {x3 : Int} : K5 (I12_same_61 x2 x3) := by
  unfold I12_same_61
  repeat' (first | decide | with_reducible (first | exact k5_I12_same_79 | exact k5_I12_writeBook | exact k5_r | exact k5_f | exact k5_gI | exact k5_aI | exact k5_aZ | exact k5_sI | exact k5_sZ | exact k5_dI | exact k5_rI | exact k5_nz | exact k5_Sl | exact k5_Sc | exact k5_Si | refine k5_pI ?_ | refine k5_pZ ?_ | refine k5_g ?_ | refine k5_t ?_ ?_ | refine k5_b ?_ fun _ => ?_))
theorem k5_I12_same_35_st {k35 : Int → Int → Int → IM Int} (hk35 : ∀ z0 z1 z2, K5 (k35 z0 z1 z2)) {x2 : Int} {x3 : Int} {x4 : Int} : K5 (I12_same_35_st k35 x2 x3 x4) := by
  unfold I12_same_35_st
  repeat' (first | decide | with_reducible (first | exact k5_I12_same_61 | exact hk35 _ _ _ | exact k5_r | exact k5_f | exact k5_gI | exact k5_aI | exact k5_aZ | exact k5_sI | exact k5_sZ | exact k5_dI | exact k5_rI | exact k5_nz | exact k5_Sl | exact k5_Sc | exact k5_Si | refine k5_pI ?_ | refine k5_pZ ?_ | refine k5_g ?_ | refine k5_t ?_ ?_ | refine k5_b ?_ fun _ => ?_))
theorem k5_I12_same_35 : ∀ (n : Nat) {z0 : Int} {z1 : Int} {z2 : Int}, K5 (I12_same_35 n z0 z1 z2) := by
  intro n
  induction n with
  | zero => intros; exact k5_f
  | succ n ih => intros; exact k5_I12_same_35_st  (k35 := (I12_same_35 n)) (fun _ _ _ => ih)
theorem k5_I12_same {a1 : Int} {a2 : Int} : K5 (I12_same a1 a2) := by
  unfold I12_same
  repeat' (first | decide | with_reducible (first | exact k5_I12_isBook | exact k5_I12_same_16 | exact k5_I12_same_35 _ | exact k5_I12_writeBook | exact k5_r | exact k5_f | exact k5_gI | exact k5_aI | exact k5_aZ | exact k5_sI | exact k5_sZ | exact k5_dI | exact k5_rI | exact k5_nz | exact k5_Sl | exact k5_Sc | exact k5_Si | refine k5_pI ?_ | refine k5_pZ ?_ | refine k5_g ?_ | refine k5_t ?_ ?_ | refine k5_b ?_ fun _ => ?_))
theorem k5_I12_sheets_68 {x3 : Int} : K5 (I12_sheets_68 x3) := by
  unfold I12_sheets_68
  repeat' (first | decide | with_reducible (first | exact k5_I12_fine | exact k5_r | exact k5_f | exact k5_gI | exact k5_aI | exact k5_aZ | exact k5_sI | exact k5_sZ | exact k5_dI | exact k5_rI | exact k5_nz | exact k5_Sl | exact k5_Sc | exact k5_Si | refine k5_pI ?_ | refine k5_pZ ?_ | refine k5_g ?_ | refine k5_t ?_ ?_ | refine k5_b ?_ fun _ => ?_))
theorem k5_I12_sheets_32_st {k32 : Int → Int → Int → Int → IM Int} (hk32 : ∀ z0 z1 z2 z3, K5 (k32 z0 z1 z2 z3)) {x1 : Int} {x2 : Int} {x3 : Int} {x4 : Int} : K5 (I12_sheets_32_st k32 x1 x2 x3 x4) := by
  unfold I12_sheets_32_st
  repeat' (first | decide | with_reducible (first | exact k5_I12_sheetsOf | exact k5_I12_sheets_68 | exact hk32 _ _ _ _ | exact k5_r | exact k5_f | exact k5_gI | exact k5_aI | exact k5_aZ | exact k5_sI | exact k5_sZ | exact k5_dI | exact k5_rI | exact k5_nz | exact k5_Sl | exact k5_Sc | exact k5_Si | refine k5_pI ?_ | refine k5_pZ ?_ | refine k5_g ?_ | refine k5_t ?_ ?_ | refine k5_b ?_ fun _ => ?_))
theorem k5_I12_sheets_32 : ∀ (n : Nat) {z0 : Int} {z1 : Int} {z2 : Int} {z3 : Int}, K5 (I12_sheets_32 n z0 z1 z2 z3) := by
  intro n
  induction n with
  | zero => intros; exact k5_f
  | succ n ih => intros; exact k5_I12_sheets_32_st  (k32 := (I12_sheets_32 n)) (fun _ _ _ _ => ih)
theorem k5_I12_sheets {a1 : Int} {a2 : Int} : K5 (I12_sheets a1 a2) := by
  unfold I12_sheets
  repeat' (first | decide | with_reducible (first | exact k5_I12_isBook | exact k5_I12_isFormat | exact k5_I12_no | exact k5_I12_sheets_32 _ | exact k5_r | exact k5_f | exact k5_gI | exact k5_aI | exact k5_aZ | exact k5_sI | exact k5_sZ | exact k5_dI | exact k5_rI | exact k5_nz | exact k5_Sl | exact k5_Sc | exact k5_Si | refine k5_pI ?_ | refine k5_pZ ?_ | refine k5_g ?_ | refine k5_t ?_ ?_ | refine k5_b ?_ fun _ => ?_))
theorem k5_I12_sheet_32  : K5 (I12_sheet_32) := by
  unfold I12_sheet_32
  repeat' (first | decide | with_reducible (first | exact k5_I12_no | exact k5_r | exact k5_f | exact k5_gI | exact k5_aI | exact k5_aZ | exact k5_sI | exact k5_sZ | exact k5_dI | exact k5_rI | exact k5_nz | exact k5_Sl | exact k5_Sc | exact k5_Si | refine k5_pI ?_ | refine k5_pZ ?_ | refine k5_g ?_ | refine k5_t ?_ ?_ | refine k5_b ?_ fun _ => ?_))
theorem k5_I12_sheet_162 {x7 : Int} : K5 (I12_sheet_162 x7) := by
  unfold I12_sheet_162
  repeat' (first | decide | with_reducible (first | exact k5_I12_fine | exact k5_r | exact k5_f | exact k5_gI | exact k5_aI | exact k5_aZ | exact k5_sI | exact k5_sZ | exact k5_dI | exact k5_rI | exact k5_nz | exact k5_Sl | exact k5_Sc | exact k5_Si | refine k5_pI ?_ | refine k5_pZ ?_ | refine k5_g ?_ | refine k5_t ?_ ?_ | refine k5_b ?_ fun _ => ?_))
theorem k5_I12_sheet_123_st {k123 : Int → Int → Int → Int → Int → IM Int} (hk123 : ∀ z0 z1 z2 z3 z4, K5 (k123 z0 z1 z2 z3 z4)) {x1 : Int} {x3 : Int} {x5 : Int} {x7 : Int} {x8 : Int} : K5 (I12_sheet_123_st k123 x1 x3 x5 x7 x8) := by
  unfold I12_sheet_123_st
  repeat' (first | decide | with_reducible (first | exact k5_I12_sheet_162 | exact k5_I12_sheetsOf | exact hk123 _ _ _ _ _ | exact k5_r | exact k5_f | exact k5_gI | exact k5_aI | exact k5_aZ | exact k5_sI | exact k5_sZ | exact k5_dI | exact k5_rI | exact k5_nz | exact k5_Sl | exact k5_Sc | exact k5_Si | refine k5_pI ?_ | refine k5_pZ ?_ | refine k5_g ?_ | refine k5_t ?_ ?_ | refine k5_b ?_ fun _ => ?_))
theorem k5_I12_sheet_123 : ∀ (n : Nat) {z0 : Int} {z1 : Int} {z2 : Int} {z3 : Int} {z4 : Int}, K5 (I12_sheet_123 n z0 z1 z2 z3 z4) := by
  intro n
  induction n with
  | zero => intros; exact k5_f
  | succ n ih => intros; exact k5_I12_sheet_123_st  (k123 := (I12_sheet_123 n)) (fun _ _ _ _ _ => ih)
theorem k5_I12_sheet {a1 : Int} {a2 : Int} {a3 : Int} {a4 : Int} : K5 (I12_sheet a1 a2 a3 a4) := by
  unfold I12_sheet
  repeat' (first | decide | with_reducible (first | exact k5_I12_fine | exact k5_I12_isFormat | exact k5_I12_isIn | exact k5_I12_isLeaf | exact k5_I12_isPlain | exact k5_I12_no | exact k5_I12_numberOn | exact k5_I12_sheetOf | exact k5_I12_sheet_123 _ | exact k5_I12_sheet_32 | exact k5_r | exact k5_f | exact k5_gI | exact k5_aI | exact k5_aZ | exact k5_sI | exact k5_sZ | exact k5_dI | exact k5_rI | exact k5_nz | exact k5_Sl | exact k5_Sc | exact k5_Si | refine k5_pI ?_ | refine k5_pZ ?_ | refine k5_g ?_ | refine k5_t ?_ ?_ | refine k5_b ?_ fun _ => ?_))
theorem k5_I12_forme_32  : K5 (I12_forme_32) := by
  unfold I12_forme_32
  repeat' (first | decide | with_reducible (first | exact k5_I12_no | exact k5_r | exact k5_f | exact k5_gI | exact k5_aI | exact k5_aZ | exact k5_sI | exact k5_sZ | exact k5_dI | exact k5_rI | exact k5_nz | exact k5_Sl | exact k5_Sc | exact k5_Si | refine k5_pI ?_ | refine k5_pZ ?_ | refine k5_g ?_ | refine k5_t ?_ ?_ | refine k5_b ?_ fun _ => ?_))
theorem k5_I12_forme {a1 : Int} {a2 : Int} {a3 : Int} {a4 : Int} : K5 (I12_forme a1 a2 a3 a4) := by
  unfold I12_forme
  repeat' (first | decide | with_reducible (first | exact k5_I12_fine | exact k5_I12_forme_32 | exact k5_I12_isFormat | exact k5_I12_isIn | exact k5_I12_isLeaf | exact k5_I12_isPlain | exact k5_I12_no | exact k5_I12_numberOn | exact k5_r | exact k5_f | exact k5_gI | exact k5_aI | exact k5_aZ | exact k5_sI | exact k5_sZ | exact k5_dI | exact k5_rI | exact k5_nz | exact k5_Sl | exact k5_Sc | exact k5_Si | refine k5_pI ?_ | refine k5_pZ ?_ | refine k5_g ?_ | refine k5_t ?_ ?_ | refine k5_b ?_ fun _ => ?_))
theorem k5_I12_state {a1 : Int} {a2 : Int} : K5 (I12_state a1 a2) := by
  unfold I12_state
  repeat' (first | decide | with_reducible (first | exact k5_I12_countTold | exact k5_I12_fine | exact k5_I12_isCopy | exact k5_I12_isIn | exact k5_I12_look | exact k5_I12_no | exact k5_r | exact k5_f | exact k5_gI | exact k5_aI | exact k5_aZ | exact k5_sI | exact k5_sZ | exact k5_dI | exact k5_rI | exact k5_nz | exact k5_Sl | exact k5_Sc | exact k5_Si | refine k5_pI ?_ | refine k5_pZ ?_ | refine k5_g ?_ | refine k5_t ?_ ?_ | refine k5_b ?_ fun _ => ?_))
theorem k5_I12_entry_43  : K5 (I12_entry_43) := by
  unfold I12_entry_43
  repeat' (first | decide | with_reducible (first | exact k5_I12_no | exact k5_r | exact k5_f | exact k5_gI | exact k5_aI | exact k5_aZ | exact k5_sI | exact k5_sZ | exact k5_dI | exact k5_rI | exact k5_nz | exact k5_Sl | exact k5_Sc | exact k5_Si | refine k5_pI ?_ | refine k5_pZ ?_ | refine k5_g ?_ | refine k5_t ?_ ?_ | refine k5_b ?_ fun _ => ?_))
theorem k5_I12_entry {a1 : Int} {a2 : Int} : K5 (I12_entry a1 a2) := by
  unfold I12_entry
  repeat' (first | decide | with_reducible (first | exact k5_I12_entry_43 | exact k5_I12_fine | exact k5_I12_isCopy | exact k5_I12_isIn | exact k5_r | exact k5_f | exact k5_gI | exact k5_aI | exact k5_aZ | exact k5_sI | exact k5_sZ | exact k5_dI | exact k5_rI | exact k5_nz | exact k5_Sl | exact k5_Sc | exact k5_Si | refine k5_pI ?_ | refine k5_pZ ?_ | refine k5_g ?_ | refine k5_t ?_ ?_ | refine k5_b ?_ fun _ => ?_))
theorem k5_I12_told_70 {x5 : Int} : K5 (I12_told_70 x5) := by
  unfold I12_told_70
  repeat' (first | decide | with_reducible (first | exact k5_I12_fine | exact k5_r | exact k5_f | exact k5_gI | exact k5_aI | exact k5_aZ | exact k5_sI | exact k5_sZ | exact k5_dI | exact k5_rI | exact k5_nz | exact k5_Sl | exact k5_Sc | exact k5_Si | refine k5_pI ?_ | refine k5_pZ ?_ | refine k5_g ?_ | refine k5_t ?_ ?_ | refine k5_b ?_ fun _ => ?_))
theorem k5_I12_told_80 {k40 : Int → Int → Int → Int → IM Int} (hk40 : ∀ z0 z1 z2 z3, K5 (k40 z0 z1 z2 z3)) {x1 : Int} {x2 : Int} {x4 : Int} {x5 : Int} : K5 (I12_told_80 k40 x1 x2 x4 x5) := by
  unfold I12_told_80
  repeat' (first | decide | with_reducible (first | exact hk40 _ _ _ _ | exact k5_r | exact k5_f | exact k5_gI | exact k5_aI | exact k5_aZ | exact k5_sI | exact k5_sZ | exact k5_dI | exact k5_rI | exact k5_nz | exact k5_Sl | exact k5_Sc | exact k5_Si | refine k5_pI ?_ | refine k5_pZ ?_ | refine k5_g ?_ | refine k5_t ?_ ?_ | refine k5_b ?_ fun _ => ?_))
theorem k5_I12_told_86  : K5 (I12_told_86) := by
  unfold I12_told_86
  repeat' (first | decide | with_reducible (first | exact k5_I12_no | exact k5_r | exact k5_f | exact k5_gI | exact k5_aI | exact k5_aZ | exact k5_sI | exact k5_sZ | exact k5_dI | exact k5_rI | exact k5_nz | exact k5_Sl | exact k5_Sc | exact k5_Si | refine k5_pI ?_ | refine k5_pZ ?_ | refine k5_g ?_ | refine k5_t ?_ ?_ | refine k5_b ?_ fun _ => ?_))
theorem k5_I12_told_40_st {k40 : Int → Int → Int → Int → IM Int} (hk40 : ∀ z0 z1 z2 z3, K5 (k40 z0 z1 z2 z3)) {x1 : Int} {x2 : Int} {x4 : Int} {x5 : Int} : K5 (I12_told_40_st k40 x1 x2 x4 x5) := by
  unfold I12_told_40_st
  repeat' (first | decide | with_reducible (first | exact k5_I12_isTold | exact k5_I12_many | exact k5_I12_told_70 | exact k5_I12_told_80 hk40 | exact k5_I12_told_86 | exact hk40 _ _ _ _ | exact k5_r | exact k5_f | exact k5_gI | exact k5_aI | exact k5_aZ | exact k5_sI | exact k5_sZ | exact k5_dI | exact k5_rI | exact k5_nz | exact k5_Sl | exact k5_Sc | exact k5_Si | refine k5_pI ?_ | refine k5_pZ ?_ | refine k5_g ?_ | refine k5_t ?_ ?_ | refine k5_b ?_ fun _ => ?_))
theorem k5_I12_told_40 : ∀ (n : Nat) {z0 : Int} {z1 : Int} {z2 : Int} {z3 : Int}, K5 (I12_told_40 n z0 z1 z2 z3) := by
  intro n
  induction n with
  | zero => intros; exact k5_f
  | succ n ih => intros; exact k5_I12_told_40_st  (k40 := (I12_told_40 n)) (fun _ _ _ _ => ih)
theorem k5_I12_told {a1 : Int} {a2 : Int} {a3 : Int} : K5 (I12_told a1 a2 a3) := by
  unfold I12_told
  repeat' (first | decide | with_reducible (first | exact k5_I12_isCopy | exact k5_I12_isIn | exact k5_I12_look | exact k5_I12_no | exact k5_I12_told_40 _ | exact k5_r | exact k5_f | exact k5_gI | exact k5_aI | exact k5_aZ | exact k5_sI | exact k5_sZ | exact k5_dI | exact k5_rI | exact k5_nz | exact k5_Sl | exact k5_Sc | exact k5_Si | refine k5_pI ?_ | refine k5_pZ ?_ | refine k5_g ?_ | refine k5_t ?_ ?_ | refine k5_b ?_ fun _ => ?_))
theorem k5_I12_note {a1 : Int} {a2 : Int} : K5 (I12_note a1 a2) := by
  unfold I12_note
  repeat' (first | decide | with_reducible (first | exact k5_I12_isCopy | exact k5_I12_no | exact k5_I12_tell | exact k5_I12_writeNote | exact k5_r | exact k5_f | exact k5_gI | exact k5_aI | exact k5_aZ | exact k5_sI | exact k5_sZ | exact k5_dI | exact k5_rI | exact k5_nz | exact k5_Sl | exact k5_Sc | exact k5_Si | refine k5_pI ?_ | refine k5_pZ ?_ | refine k5_g ?_ | refine k5_t ?_ ?_ | refine k5_b ?_ fun _ => ?_))
theorem k5_I12_mark_21_st {k21 : Int → Nat → Int → IM Unit} (hk21 : ∀ z0 z1 z2, K5 (k21 z0 z1 z2)) {x1 : Int} {x2 : Nat} {x3 : Int} : K5 (I12_mark_21_st k21 x1 x2 x3) := by
  unfold I12_mark_21_st
  repeat' (first | decide | with_reducible (first | exact hk21 _ _ _ | exact k5_r | exact k5_f | exact k5_gI | exact k5_aI | exact k5_aZ | exact k5_sI | exact k5_sZ | exact k5_dI | exact k5_rI | exact k5_nz | exact k5_Sl | exact k5_Sc | exact k5_Si | refine k5_pI ?_ | refine k5_pZ ?_ | refine k5_g ?_ | refine k5_t ?_ ?_ | refine k5_b ?_ fun _ => ?_))
theorem k5_I12_mark_21 : ∀ (n : Nat) {z0 : Int} {z1 : Nat} {z2 : Int}, K5 (I12_mark_21 n z0 z1 z2) := by
  intro n
  induction n with
  | zero => intros; exact k5_f
  | succ n ih => intros; exact k5_I12_mark_21_st  (k21 := (I12_mark_21 n)) (fun _ _ _ => ih)
theorem k5_I12_mark_19 {x1 : Int} {x2 : Nat} : K5 (I12_mark_19 x1 x2) := by
  unfold I12_mark_19
  repeat' (first | decide | with_reducible (first | exact k5_I12_mark_21 _ | exact k5_r | exact k5_f | exact k5_gI | exact k5_aI | exact k5_aZ | exact k5_sI | exact k5_sZ | exact k5_dI | exact k5_rI | exact k5_nz | exact k5_Sl | exact k5_Sc | exact k5_Si | refine k5_pI ?_ | refine k5_pZ ?_ | refine k5_g ?_ | refine k5_t ?_ ?_ | refine k5_b ?_ fun _ => ?_))
theorem k5_I12_mark_2_st {k2 : Int → Nat → Int → IM Unit} (hk2 : ∀ z0 z1 z2, K5 (k2 z0 z1 z2)) {x1 : Int} {x2 : Nat} {x3 : Int} : K5 (I12_mark_2_st k2 x1 x2 x3) := by
  unfold I12_mark_2_st
  repeat' (first | decide | with_reducible (first | exact k5_I12_mark_19 | exact hk2 _ _ _ | exact k5_r | exact k5_f | exact k5_gI | exact k5_aI | exact k5_aZ | exact k5_sI | exact k5_sZ | exact k5_dI | exact k5_rI | exact k5_nz | exact k5_Sl | exact k5_Sc | exact k5_Si | refine k5_pI ?_ | refine k5_pZ ?_ | refine k5_g ?_ | refine k5_t ?_ ?_ | refine k5_b ?_ fun _ => ?_))
theorem k5_I12_mark_2 : ∀ (n : Nat) {z0 : Int} {z1 : Nat} {z2 : Int}, K5 (I12_mark_2 n z0 z1 z2) := by
  intro n
  induction n with
  | zero => intros; exact k5_f
  | succ n ih => intros; exact k5_I12_mark_2_st  (k2 := (I12_mark_2 n)) (fun _ _ _ => ih)
theorem k5_I12_mark {a1 : Int} {a2 : Nat} : K5 (I12_mark a1 a2) := by
  unfold I12_mark
  repeat' (first | decide | with_reducible (first | exact k5_I12_mark_2 _ | exact k5_r | exact k5_f | exact k5_gI | exact k5_aI | exact k5_aZ | exact k5_sI | exact k5_sZ | exact k5_dI | exact k5_rI | exact k5_nz | exact k5_Sl | exact k5_Sc | exact k5_Si | refine k5_pI ?_ | refine k5_pZ ?_ | refine k5_g ?_ | refine k5_t ?_ ?_ | refine k5_b ?_ fun _ => ?_))
theorem k5_I12_twoWhy {a1 : Int} {a2 : Int} : K5 (I12_twoWhy a1 a2) := by
  unfold I12_twoWhy
  repeat' (first | decide | with_reducible (first | exact k5_I12_isCopy | exact k5_r | exact k5_f | exact k5_gI | exact k5_aI | exact k5_aZ | exact k5_sI | exact k5_sZ | exact k5_dI | exact k5_rI | exact k5_nz | exact k5_Sl | exact k5_Sc | exact k5_Si | refine k5_pI ?_ | refine k5_pZ ?_ | refine k5_g ?_ | refine k5_t ?_ ?_ | refine k5_b ?_ fun _ => ?_))
theorem k5_I12_apart_73 {k41 : Int → Int → IM Int} (hk41 : ∀ z0 z1, K5 (k41 z0 z1)) {x5 : Int} {y0 : Int} {y1 : Int} : K5 (I12_apart_73 k41 x5 y0 y1) := by
  unfold I12_apart_73
  repeat' (first | decide | with_reducible (first | exact hk41 _ _ | exact k5_r | exact k5_f | exact k5_gI | exact k5_aI | exact k5_aZ | exact k5_sI | exact k5_sZ | exact k5_dI | exact k5_rI | exact k5_nz | exact k5_Sl | exact k5_Sc | exact k5_Si | refine k5_pI ?_ | refine k5_pZ ?_ | refine k5_g ?_ | refine k5_t ?_ ?_ | refine k5_b ?_ fun _ => ?_))
theorem k5_I12_apart_82 {x4 : Int} : K5 (I12_apart_82 x4) := by
  unfold I12_apart_82
  repeat' (first | decide | with_reducible (first | exact k5_I12_fine | exact k5_r | exact k5_f | exact k5_gI | exact k5_aI | exact k5_aZ | exact k5_sI | exact k5_sZ | exact k5_dI | exact k5_rI | exact k5_nz | exact k5_Sl | exact k5_Sc | exact k5_Si | refine k5_pI ?_ | refine k5_pZ ?_ | refine k5_g ?_ | refine k5_t ?_ ?_ | refine k5_b ?_ fun _ => ?_))
theorem k5_I12_apart_41_st {k41 : Int → Int → IM Int} (hk41 : ∀ z0 z1, K5 (k41 z0 z1)) {x4 : Int} {x5 : Int} : K5 (I12_apart_41_st k41 x4 x5) := by
  unfold I12_apart_41_st
  repeat' (first | decide | with_reducible (first | exact k5_I12_apart_73 hk41 | exact k5_I12_apart_82 | exact hk41 _ _ | exact k5_r | exact k5_f | exact k5_gI | exact k5_aI | exact k5_aZ | exact k5_sI | exact k5_sZ | exact k5_dI | exact k5_rI | exact k5_nz | exact k5_Sl | exact k5_Sc | exact k5_Si | refine k5_pI ?_ | refine k5_pZ ?_ | refine k5_g ?_ | refine k5_t ?_ ?_ | refine k5_b ?_ fun _ => ?_))
theorem k5_I12_apart_41 : ∀ (n : Nat) {z0 : Int} {z1 : Int}, K5 (I12_apart_41 n z0 z1) := by
  intro n
  induction n with
  | zero => intros; exact k5_f
  | succ n ih => intros; exact k5_I12_apart_41_st  (k41 := (I12_apart_41 n)) (fun _ _ => ih)
theorem k5_I12_apart {a1 : Int} {a2 : Int} : K5 (I12_apart a1 a2) := by
  unfold I12_apart
  repeat' (first | decide | with_reducible (first | exact k5_I12_apart_41 _ | exact k5_I12_mark | exact k5_I12_no | exact k5_I12_twoWhy | exact k5_r | exact k5_f | exact k5_gI | exact k5_aI | exact k5_aZ | exact k5_sI | exact k5_sZ | exact k5_dI | exact k5_rI | exact k5_nz | exact k5_Sl | exact k5_Sc | exact k5_Si | refine k5_pI ?_ | refine k5_pZ ?_ | refine k5_g ?_ | refine k5_t ?_ ?_ | refine k5_b ?_ fun _ => ?_))
theorem kx_I12_together_113 {k63 : Int → Int → Int → Int → IM Int} (hk63 : ∀ z0 z1 z2 z3, KX (k63 z0 z1 z2 z3)) {x1 : Int} {x4 : Int} {x5 : Int} {x6 : Int} : KX (I12_together_113 k63 x1 x4 x5 x6) := by
  unfold I12_together_113
  repeat' (first | decide | with_reducible (first | exact kx_f | exact kx_no | exact hk63 _ _ _ _ | exact k5_r | exact k5_f | exact k5_gI | exact k5_aI | exact k5_aZ | exact k5_sI | exact k5_sZ | exact k5_dI | exact k5_rI | exact k5_nz | exact k5_Sl | exact k5_Sc | exact k5_Si | refine k5_pI ?_ | refine k5_pZ ?_ | exact kx_e5 | exact kx_e15 | refine kx_as ?_ | refine kx_g ?_ | refine kx_t ?_ ?_ | refine kx_b ?_ fun _ => ?_ | refine k5_g ?_ | refine k5_t ?_ ?_ | refine k5_b ?_ fun _ => ?_))
theorem kx_I12_together_94 {k63 : Int → Int → Int → Int → IM Int} (hk63 : ∀ z0 z1 z2 z3, KX (k63 z0 z1 z2 z3)) {x1 : Int} {x4 : Int} {x5 : Int} {x6 : Int} : KX (I12_together_94 k63 x1 x4 x5 x6) := by
  unfold I12_together_94
  repeat' (first | decide | with_reducible (first | exact kx_f | exact kx_no | exact kx_I12_together_113 hk63 | exact hk63 _ _ _ _ | exact k5_r | exact k5_f | exact k5_gI | exact k5_aI | exact k5_aZ | exact k5_sI | exact k5_sZ | exact k5_dI | exact k5_rI | exact k5_nz | exact k5_Sl | exact k5_Sc | exact k5_Si | refine k5_pI ?_ | refine k5_pZ ?_ | exact kx_e5 | exact kx_e15 | refine kx_as ?_ | refine kx_g ?_ | refine kx_t ?_ ?_ | refine kx_b ?_ fun _ => ?_ | refine k5_g ?_ | refine k5_t ?_ ?_ | refine k5_b ?_ fun _ => ?_))
theorem kx_I12_together_119 {x1 : Int} {x4 : Int} {x5 : Int} : KX (I12_together_119 x1 x4 x5) := by
  unfold I12_together_119
  repeat' (first | decide | with_reducible (first | exact kx_f | exact kx_no | exact k5_I12_fine | exact k5_r | exact k5_f | exact k5_gI | exact k5_aI | exact k5_aZ | exact k5_sI | exact k5_sZ | exact k5_dI | exact k5_rI | exact k5_nz | exact k5_Sl | exact k5_Sc | exact k5_Si | refine k5_pI ?_ | refine k5_pZ ?_ | exact kx_e5 | exact kx_e15 | refine kx_as ?_ | refine kx_g ?_ | refine kx_t ?_ ?_ | refine kx_b ?_ fun _ => ?_ | refine k5_g ?_ | refine k5_t ?_ ?_ | refine k5_b ?_ fun _ => ?_))
theorem kx_I12_together_63_st {k63 : Int → Int → Int → Int → IM Int} (hk63 : ∀ z0 z1 z2 z3, KX (k63 z0 z1 z2 z3)) {x1 : Int} {x4 : Int} {x5 : Int} {x6 : Int} : KX (I12_together_63_st k63 x1 x4 x5 x6) := by
  unfold I12_together_63_st
  repeat' (first | decide | with_reducible (first | exact kx_f | exact kx_no | exact kx_I12_together_113 hk63 | exact kx_I12_together_119 | exact kx_I12_together_94 hk63 | exact hk63 _ _ _ _ | exact k5_r | exact k5_f | exact k5_gI | exact k5_aI | exact k5_aZ | exact k5_sI | exact k5_sZ | exact k5_dI | exact k5_rI | exact k5_nz | exact k5_Sl | exact k5_Sc | exact k5_Si | refine k5_pI ?_ | refine k5_pZ ?_ | exact kx_e5 | exact kx_e15 | refine kx_as ?_ | refine kx_g ?_ | refine kx_t ?_ ?_ | refine kx_b ?_ fun _ => ?_ | refine k5_g ?_ | refine k5_t ?_ ?_ | refine k5_b ?_ fun _ => ?_))
theorem kx_I12_together_63 : ∀ (n : Nat) {z0 : Int} {z1 : Int} {z2 : Int} {z3 : Int}, KX (I12_together_63 n z0 z1 z2 z3) := by
  intro n
  induction n with
  | zero => intros; exact kx_f
  | succ n ih => intros; exact kx_I12_together_63_st  (k63 := (I12_together_63 n)) (fun _ _ _ _ => ih)
theorem kx_I12_together {a1 : Int} {a2 : Int} : KX (I12_together a1 a2) := by
  unfold I12_together
  repeat' (first | decide | with_reducible (first | exact kx_f | exact kx_no | exact k5_I12_mark | exact k5_I12_no | exact kx_I12_together_63 _ | exact k5_I12_twoWhy | exact k5_r | exact k5_f | exact k5_gI | exact k5_aI | exact k5_aZ | exact k5_sI | exact k5_sZ | exact k5_dI | exact k5_rI | exact k5_nz | exact k5_Sl | exact k5_Sc | exact k5_Si | refine k5_pI ?_ | refine k5_pZ ?_ | exact kx_e5 | exact kx_e15 | refine kx_as ?_ | refine kx_g ?_ | refine kx_t ?_ ?_ | refine kx_b ?_ fun _ => ?_ | refine k5_g ?_ | refine k5_t ?_ ?_ | refine k5_b ?_ fun _ => ?_))
theorem k5_I12_status  : K5 (I12_status) := by
  unfold I12_status
  repeat' (first | decide | with_reducible (first | exact k5_r | exact k5_f | exact k5_gI | exact k5_aI | exact k5_aZ | exact k5_sI | exact k5_sZ | exact k5_dI | exact k5_rI | exact k5_nz | exact k5_Sl | exact k5_Sc | exact k5_Si | refine k5_pI ?_ | refine k5_pZ ?_ | refine k5_g ?_ | refine k5_t ?_ ?_ | refine k5_b ?_ fun _ => ?_))
theorem k5_T12_told_40_st {k40 : Int → Int → Int → Int → IM Int} (hk40 : ∀ z0 z1 z2 z3, K5 (k40 z0 z1 z2 z3)) {x1 x2 x4 x5 : Int} : K5 (T12_told_40_st k40 x1 x2 x4 x5) := by
  unfold T12_told_40_st
  repeat' (first | decide | with_reducible (first | exact k5_I12_many | exact k5_I12_isTold | exact k5_I12_told_86 | exact k5_I12_told_80 hk40 | exact k5_I12_told_70 | exact k5_r | refine k5_g ?_ | refine k5_t ?_ ?_ | refine k5_b ?_ fun _ => ?_))
theorem k5_T12_told_40 : ∀ (n : Nat) {x1 x2 x4 x5 : Int}, K5 (T12_told_40 n x1 x2 x4 x5) := by
  intro n
  induction n with
  | zero => intros; exact k5_f
  | succ n ih => intros; exact k5_T12_told_40_st (k40 := T12_told_40 n) (fun _ _ _ _ => ih)
theorem k5_T12_told {x1 x2 x4 : Int} : K5 (T12_told x1 x2 x4) := by
  unfold T12_told
  repeat' (first | decide | with_reducible (first | exact k5_I12_isCopy | exact k5_I12_isIn | exact k5_I12_look | exact k5_I12_no | exact k5_T12_told_40 _ | exact k5_r | refine k5_g ?_ | refine k5_t ?_ ?_ | refine k5_b ?_ fun _ => ?_))
