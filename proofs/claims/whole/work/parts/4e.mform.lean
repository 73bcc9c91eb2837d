/-! ===== texts of formulas: what they are, and the model writes them ===== -/
section WQQ
variable {W : IS} {acc : List Nat} {n : Nat}
theorem wq6 {l : List Nat} : (wrs l W).2 6 = W.2 6 := wrs_2 (by decide) l W
theorem wq7 {l : List Nat} : (wrs l W).2 7 = W.2 7 := wrs_2 (by decide) l W
theorem wq8 {l : List Nat} : (wrs l W).2 8 = W.2 8 := wrs_2 (by decide) l W
theorem wq9 {l : List Nat} : (wrs l W).2 9 = W.2 9 := wrs_2 (by decide) l W
theorem wq10 {l : List Nat} : (wrs l W).2 10 = W.2 10 := wrs_2 (by decide) l W
theorem wq11 {l : List Nat} : (wrs l W).2 11 = W.2 11 := wrs_2 (by decide) l W
theorem wq12 {l : List Nat} : (wrs l W).2 12 = W.2 12 := wrs_2 (by decide) l W
theorem wq13 {l : List Nat} : (wrs l W).2 13 = W.2 13 := wrs_2 (by decide) l W
theorem wq14 {l : List Nat} : (wrs l W).2 14 = W.2 14 := wrs_2 (by decide) l W
theorem wq16 {l : List Nat} : (wrs l W).2 16 = W.2 16 := wrs_2 (by decide) l W
theorem wq17 {l : List Nat} : (wrs l W).2 17 = W.2 17 := wrs_2 (by decide) l W
theorem wq18 {l : List Nat} : (wrs l W).2 18 = W.2 18 := wrs_2 (by decide) l W
theorem wq39 {l : List Nat} : (wrs l W).2 39 = W.2 39 := wrs_2 (by decide) l W
theorem wq40 {l : List Nat} : (wrs l W).2 40 = W.2 40 := wrs_2 (by decide) l W
theorem wq41 {l : List Nat} : (wrs l W).2 41 = W.2 41 := wrs_2 (by decide) l W
theorem w_wr {c : Int} {k : Nat} {Q : Unit → IS → Prop} (hR : RmW W n) (h : acc.length + 1 ≤ n) (e : c = k) (hq : Q () (wrs (acc ++ [k]) W)) : wp (I12_write c) Q (wrs acc W) := by
  refine w_write ((hR.rest (l := acc) (by omega)).le (by omega)) e ?_
  rw [← wrs_app]
  exact hq
theorem w_sg {s : Int} {Q : Unit → IS → Prop} (hR : RmW W n) (h : acc.length + (sgnT s).length ≤ n) (h0 : 0 ≤ s) (h1 : s ≤ 70) (hq : Q () (wrs (acc ++ sgnT s) W)) : wp (I12_writeSign s) Q (wrs acc W) := by
  rw [wp_ret (m_writeSign h0 h1 ((hR.rest (l := acc) (by omega)).le (by omega))), ← wrs_app]
  exact hq
theorem w_nu {a : Int} {Q : Unit → IS → Prop} (hR : RmW W n) (h : acc.length + (dgs a.toNat).length ≤ n) (h0 : 0 ≤ a) (h1 : a < 100) (hq : Q () (wrs (acc ++ dgs a.toNat) W)) : wp (I12_writeNumber a) Q (wrs acc W) := by
  rw [wp_ret (m_writeNumber h0 h1 ((hR.rest (l := acc) (by omega)).le (by omega))), ← wrs_app]
  exact hq
theorem w_wo {i : Nat} {Q : Unit → IS → Prop} (hR : RmW W n) (h : acc.length + (txt i).length ≤ n) (hi : i < 19) (hq : Q () (wrs (acc ++ txt i) W)) : wp (I12_writeWord i) Q (wrs acc W) := by
  rw [wp_ret (m_writeWord hi ((hR.rest (l := acc) (by omega)).le (by omega))), ← wrs_app]
  exact hq
end WQQ
def sepT (acc : List Nat) : List Nat := acc ++ [if acc = [] then 40 else 44]
def itF (B : BK) (g i : Int) (acc : List Nat) : List Nat := if bf B g i = 0 then acc else sepT acc ++ ((if bf B g i = 1 then 45 else 61) :: (sgnT (bs B g) ++ dgs i.toNat))
def itM (B : BK) (g i : Int) (acc : List Nat) : List Nat := if bm B g i = 0 then acc else sepT acc ++ (sgnT (bs B g) ++ (dgs i.toNat ++ (43 :: dgs (bm B g i).toNat)))
def chI (B : BK) (g : Int) : Nat → Int → List Nat → List Nat
  | 0, _, acc => acc
  | d + 1, i, acc => chI B g d (i + 1) (itM B g i (itF B g i acc))
def chG (B : BK) : Nat → Int → List Nat → List Nat
  | 0, _, acc => acc
  | d + 1, g, acc => chG B d (g + 1) (chI B g (bz B g).toNat 1 acc)
def clo (acc : List Nat) : List Nat := if acc = [] then [] else acc ++ [41]
def chT (B : BK) (f t : Int) : List Nat := clo (chG B (t + 1 - f).toNat f [])
def grT (B : BK) (f t : Int) : List Nat := sgnT (bs B f) ++ ((if t ≤ f then [] else 45 :: sgnT (bs B t)) ++ (dgs (bz B f).toNat ++ chT B f t))
abbrev goes (B : BK) (g : Int) : Prop := g + 1 < bn B ∧ 0 < bs B g ∧ bs B (g + 1) < 70 ∧ bs B (g + 1) = bs B g + 1 ∧ bz B g = bz B (g + 1)
def preT (f : Int) : List Nat := if f ≤ 0 then [] else [32]
def fT (B : BK) : Nat → Int → Int → List Nat
  | 0, _, _ => []
  | d + 1, f, g => if goes B g then fT B d f (g + 1) else preT f ++ (grT B f g ++ fT B d (g + 1) (g + 1))
def bkT (B : BK) : List Nat := fT B (bn B).toNat 0 0
section FTT
variable {B : BK}
theorem sepT_le (acc : List Nat) : (sepT acc).length = acc.length + 1 := by unfold sepT; simp
theorem sepT_ne (acc : List Nat) : sepT acc ≠ [] := by unfold sepT; simp
theorem itF_le {g i : Int} (hs : bs B g ≤ 70) (acc : List Nat) : acc.length ≤ (itF B g i acc).length ∧ (itF B g i acc).length ≤ acc.length + 7 := by
  have h1 := sgnT_le hs
  have h2 := dgs_le i.toNat
  unfold itF
  split
  · omega
  · simp only [List.length_append, List.length_cons, sepT_le]; omega
theorem itM_le {g i : Int} (hs : bs B g ≤ 70) (acc : List Nat) : acc.length ≤ (itM B g i acc).length ∧ (itM B g i acc).length ≤ acc.length + 9 := by
  have h1 := sgnT_le hs
  have h2 := dgs_le i.toNat
  have h3 := dgs_le (bm B g i).toNat
  unfold itM
  split
  · omega
  · simp only [List.length_append, List.length_cons, sepT_le]; omega
theorem chI_le {g : Int} (hs : bs B g ≤ 70) : ∀ (d : Nat) (i : Int) (acc : List Nat), acc.length ≤ (chI B g d i acc).length ∧ (chI B g d i acc).length ≤ acc.length + 16 * d
  | 0, _, _ => by unfold chI; omega
  | d + 1, i, acc => by
    have h1 := itF_le (i := i) hs acc
    have h2 := itM_le (i := i) hs (itF B g i acc)
    have h3 := chI_le hs d (i + 1) (itM B g i (itF B g i acc))
    unfold chI
    omega
theorem chG_le (hB : BOK B) : ∀ (d : Nat) (g : Int) (acc : List Nat), 0 ≤ g → g + d ≤ bn B → acc.length ≤ (chG B d g acc).length ∧ (chG B d g acc).length ≤ acc.length + 192 * d
  | 0, _, _, _, _ => by unfold chG; omega
  | d + 1, g, acc, h0, h1 => by
    have hb := hB.2.1 g h0 (by omega)
    have h2 := chI_le hb.1.2 (bz B g).toNat 1 acc
    have h3 := chG_le hB d (g + 1) (chI B g (bz B g).toNat 1 acc) (by omega) (by omega)
    unfold chG
    omega
theorem clo_le (acc : List Nat) : acc.length ≤ (clo acc).length ∧ (clo acc).length ≤ acc.length + 1 := by
  unfold clo
  split
  · rename_i h; subst h; simp
  · simp
theorem grT_le (hB : BOK B) {f t : Int} (h0 : 0 ≤ f) (h1 : f ≤ t) (h2 : t < bn B) : (grT B f t).length ≤ 10 + 192 * (t + 1 - f).toNat := by
  have a1 := sgnT_le (hB.2.1 f h0 (by omega)).1.2
  have a2 := sgnT_le (hB.2.1 t (by omega) h2).1.2
  have a3 := dgs_le (bz B f).toNat
  have a4 := chG_le hB (t + 1 - f).toNat f [] h0 (by omega)
  have a5 := clo_le (chG B (t + 1 - f).toNat f [])
  unfold grT chT
  simp only [List.length_append]
  simp only [List.length_nil] at a4
  split
  · simp only [List.length_nil]; omega
  · simp only [List.length_cons]; omega
theorem fT_le (hB : BOK B) : ∀ (d : Nat) (f g : Int), 0 ≤ f → f ≤ g → g + d = bn B → (fT B d f g).length ≤ 192 * (g - f).toNat + 203 * d
  | 0, f, g, _, _, _ => by unfold fT; simp
  | d + 1, f, g, h0, h1, h2 => by
    unfold fT
    split
    · have := fT_le hB d f (g + 1) h0 (by omega) (by omega)
      omega
    · have e1 := grT_le hB h0 h1 (by omega : g < bn B)
      have e2 := fT_le hB d (g + 1) (g + 1) (by omega) (by omega) (by omega)
      have e3 : (preT f).length ≤ 1 := by unfold preT; split <;> simp
      simp only [List.length_append]
      omega
theorem bkT_le (hB : BOK B) : (bkT B).length ≤ 14413 := by
  have h := hB.1
  have := fT_le hB (bn B).toNat 0 0 (by omega) (by omega) (by omega)
  unfold bkT
  omega
end FTT
section MFO
variable {W : IS} {n : Nat} {b : Int}
/-- the changes of one leaf -/
theorem m_writeChanges_45 (hb0 : 0 ≤ b) (hb : b < 8) (hB : BOK (mB W b)) {g i t : Int} (hV : isV (mB W b) g i) {acc : List Nat} (hR : RmW W n) (hl : (itM (mB W b) g i (itF (mB W b) g i acc)).length ≤ n) {k6 : Int → Int → Int → Int → IM Unit} {k15 : Int → Int → Int → Int → Int → IM Unit} {Q : Unit → IS → Prop}
    (hk : ∀ any, any = (if itM (mB W b) g i (itF (mB W b) g i acc) = [] then (0 : Int) else 1) → wp (k15 b t any g (i + 1)) Q (wrs (itM (mB W b) g i (itF (mB W b) g i acc)) W)) {any : Int} (ha : any = if acc = [] then 0 else 1) :
    wp (I12_writeChanges_45 k6 k15 LFU b t any g i ((b * 71 + g) * 13 + i) 0) Q (wrs acc W) := by
  have hs := (hB.2.1 g hV.1.1 hV.1.2).1
  have hz := (hB.2.1 g hV.1.1 hV.1.2).2
  have hm := hB.2.2.1 g i hV.1.1 hV.1.2 hV.2.1 hV.2.2
  have hg := hV.1
  have hi := hV.2
  have h71 := hB.1
  have e1 : W.2 9 ((b * 71 + g) * 13 + i) = bf (mB W b) g i := rfl
  have e2 : W.2 10 ((b * 71 + g) * 13 + i) = bm (mB W b) g i := rfl
  have e3 : W.2 7 (b * 71 + g) = bs (mB W b) g := rfl
  have haR : R32 any := by rw [ha]; split <;> decide
  have l2 := itM_le (B := mB W b) (i := i) hs.2 (itF (mB W b) g i acc)
  have s1 := sgnT_le hs.2
  have d1 := dgs_le i.toNat
  -- the second half: those put in
  have second : ∀ (acc : List Nat) (any : Int) (m : Nat), any = (if acc = [] then (0 : Int) else 1) → (itM (mB W b) g i acc).length ≤ n → (∀ any, any = (if itM (mB W b) g i acc = [] then (0 : Int) else 1) → wp (k15 b t any g (i + 1)) Q (wrs (itM (mB W b) g i acc) W)) → wp (I12_writeChanges_45 k6 k15 (m + 2) b t any g i ((b * 71 + g) * 13 + i) 1) Q (wrs acc W) := by
    intro acc any m ha hl hk
    have haR : R32 any := by rw [ha]; split <;> decide
    have last : ∀ (any : Int) (l : List Nat), wp (k15 b t any g (i + 1)) Q (wrs l W) → wp (I12_writeChanges_45 k6 k15 (m + 1) b t any g i ((b * 71 + g) * 13 + i) 2) Q (wrs l W) := by
      intro any l h
      unfold I12_writeChanges_45 I12_writeChanges_45_st I12_writeChanges_178
      simp only [wp_ib, wp_ig, wp_ite, wp_ir, wp_igI, wp_ipI, wp_ipZ, wp_inz, wp_idI, wp_irI, wp_iSl, wp_iSc, wp_iSi, iu1_1, iu1_2, iu2_1, iu2_2, wA0, wS0, wA6, wS6, wA7, wS7, wA8, wS8, wA9, wS9, wA10, wS10, wA11, wS11, wA12, wS12, wA13, wS13, wA14, wS14, wA16, wS16, wA17, wS17, wA18, wS18, wA26, wS26, wA27, wS27, wZ28, wY28, wA29, wS29, wA30, wS30, wA31, wS31, wA32, wS32, wA33, wS33, wA34, wS34, wA35, wS35, wA36, wS36, wA38, wS38, wA39, wS39, wA40, wS40, wZ41, wY41, wA45, wS45, wA46, wS46, wZ47, wY47, wZ48, wY48, Nat.reduceEqDiff, reduceIte, false_and, true_and, and_true, and_self, if_false, if_true, and_false]
      rw [if_pos (by decide)]
      exact ⟨by decide, h⟩
    unfold I12_writeChanges_45 I12_writeChanges_45_st I12_writeChanges_73 I12_writeChanges_92 I12_writeChanges_122 I12_writeChanges_125 I12_writeChanges_172
    simp only [wp_ib, wp_ig, wp_ite, wp_ir, wp_igI, wp_ipI, wp_ipZ, wp_inz, wp_idI, wp_irI, wp_iSl, wp_iSc, wp_iSi, iu1_1, iu1_2, iu2_1, iu2_2, wA0, wS0, wA6, wS6, wA7, wS7, wA8, wS8, wA9, wS9, wA10, wS10, wA11, wS11, wA12, wS12, wA13, wS13, wA14, wS14, wA16, wS16, wA17, wS17, wA18, wS18, wA26, wS26, wA27, wS27, wZ28, wY28, wA29, wS29, wA30, wS30, wA31, wS31, wA32, wS32, wA33, wS33, wA34, wS34, wA35, wS35, wA36, wS36, wA38, wS38, wA39, wS39, wA40, wS40, wZ41, wY41, wA45, wS45, wA46, wS46, wZ47, wY47, wZ48, wY48, Nat.reduceEqDiff, reduceIte, false_and, true_and, and_true, and_self, if_false, if_true, and_false, wq6, wq7, wq8, wq9, wq10, wq11, wq12, wq13, wq14, wq16, wq17, wq18, wq39, wq40, wq41]
    rw [e2]
    unfold itM at hl hk
    refine ⟨by decide, ?_⟩
    rw [if_neg (by decide), if_neg (by decide)]
    refine ⟨by omega, by omega, ?_⟩
    by_cases c : bm (mB W b) g i = 0
    · rw [if_pos c]
      rw [if_pos c] at hk
      exact last any acc (hk any ha)
    · rw [if_neg c]
      rw [if_neg c] at hl hk
      simp only [List.length_append, List.length_cons, sepT_le] at hl
      refine ⟨haR, ?_⟩
      have fin : wp (I12_write 43) (fun _ s' => (0 ≤ (b * 71 + g) * 13 + i ∧ (b * 71 + g) * 13 + i < 7384) ∧ wp (I12_writeNumber (s'.2 10 ((b * 71 + g) * 13 + i))) (fun _ s' => wp (I12_writeChanges_45 k6 k15 (m + 1) b t 1 g i ((b * 71 + g) * 13 + i) (1 + 1)) Q s') s') (wrs (sepT acc ++ (sgnT (bs (mB W b) g) ++ dgs i.toNat)) W) := by
        refine w_wr hR (by simp only [List.length_append, sepT_le]; omega) (k := 43) rfl ⟨by omega, ?_⟩
        rw [wq10, e2]
        refine w_nu hR (by simp only [List.length_append, List.length_cons, List.length_nil, sepT_le]; omega) (by omega) (by omega) ?_
        have hk1 := hk 1 (by rw [if_neg]; intro q; simp [sepT_ne] at q)
        refine last 1 _ ?_
        simp only [List.append_assoc, List.cons_append, List.nil_append] at hk1 ⊢
        exact hk1
      by_cases c2 : acc = []
      · rw [if_pos (by rw [ha, if_pos c2])]
        refine w_wr hR (by omega) (k := 40) rfl ?_
        rw [show acc ++ [40] = sepT acc by unfold sepT; rw [if_pos c2]]
        rw [wq7, e3]
        refine ⟨by decide, by omega, w_sg hR (by rw [sepT_le]; omega) hs.1 hs.2 (w_nu hR (by simp only [List.length_append, sepT_le]; omega) (by omega) (by omega) ⟨by decide, ?_⟩)⟩
        rw [List.append_assoc]
        exact fin
      · rw [if_neg (by rw [ha, if_neg c2]; decide)]
        refine w_wr hR (by omega) (k := 44) rfl ?_
        rw [show acc ++ [44] = sepT acc by unfold sepT; rw [if_neg c2]]
        rw [wq7, e3]
        refine ⟨by decide, by omega, w_sg hR (by rw [sepT_le]; omega) hs.1 hs.2 (w_nu hR (by simp only [List.length_append, sepT_le]; omega) (by omega) (by omega) ⟨by decide, ?_⟩)⟩
        rw [List.append_assoc]
        exact fin
  -- the first half: what became of it
  rw [show LFU = 19998 + 2 by decide]
  rw [show (19998 : Nat) + 2 = (19997 + 2) + 1 by decide]
  unfold I12_writeChanges_45 I12_writeChanges_45_st I12_writeChanges_73 I12_writeChanges_92 I12_writeChanges_122 I12_writeChanges_125 I12_writeChanges_172
  simp only [wp_ib, wp_ig, wp_ite, wp_ir, wp_igI, wp_ipI, wp_ipZ, wp_inz, wp_idI, wp_irI, wp_iSl, wp_iSc, wp_iSi, iu1_1, iu1_2, iu2_1, iu2_2, wA0, wS0, wA6, wS6, wA7, wS7, wA8, wS8, wA9, wS9, wA10, wS10, wA11, wS11, wA12, wS12, wA13, wS13, wA14, wS14, wA16, wS16, wA17, wS17, wA18, wS18, wA26, wS26, wA27, wS27, wZ28, wY28, wA29, wS29, wA30, wS30, wA31, wS31, wA32, wS32, wA33, wS33, wA34, wS34, wA35, wS35, wA36, wS36, wA38, wS38, wA39, wS39, wA40, wS40, wZ41, wY41, wA45, wS45, wA46, wS46, wZ47, wY47, wZ48, wY48, Nat.reduceEqDiff, reduceIte, false_and, true_and, and_true, and_self, if_false, if_true, and_false, wq6, wq7, wq8, wq9, wq10, wq11, wq12, wq13, wq14, wq16, wq17, wq18, wq39, wq40, wq41]
  rw [e1]
  refine ⟨by decide, ?_⟩
  rw [if_neg (by decide)]
  refine ⟨by omega, by omega, ?_⟩
  by_cases c : bf (mB W b) g i = 0
  · rw [if_pos c]
    have ei : itF (mB W b) g i acc = acc := if_pos c
    rw [ei] at hl hk
    exact second acc any 19997 ha hl hk
  · rw [if_neg c]
    have ei : itF (mB W b) g i acc = sepT acc ++ ((if bf (mB W b) g i = 1 then 45 else 61) :: (sgnT (bs (mB W b) g) ++ dgs i.toNat)) := if_neg c
    have hlF : (itF (mB W b) g i acc).length ≤ n := by omega
    rw [ei] at hlF
    simp only [List.length_append, List.length_cons, sepT_le] at hlF
    refine ⟨haR, ?_⟩
    have fin : ∀ (any : Int), any = 1 → ∀ c : Nat, c = (if bf (mB W b) g i = 1 then 45 else 61) → wp (I12_writeSign (bs (mB W b) g)) (fun _ s' => wp (I12_writeNumber i) (fun _ s' => R32 0 ∧ wp (I12_writeChanges_45 k6 k15 19999 b t any g i ((b * 71 + g) * 13 + i) (0 + 1)) Q s') s') (wrs (sepT acc ++ [c]) W) := by
      intro any ha c hc
      refine w_sg hR (by simp only [List.length_append, List.length_cons, List.length_nil, sepT_le]; omega) hs.1 hs.2 (w_nu hR (by simp only [List.length_append, List.length_cons, List.length_nil, sepT_le]; omega) (by omega) (by omega) ⟨by decide, ?_⟩)
      rw [ei, ← hc] at hl hk
      have e9 : sepT acc ++ [c] ++ sgnT (bs (mB W b) g) ++ dgs i.toNat = sepT acc ++ c :: (sgnT (bs (mB W b) g) ++ dgs i.toNat) := by simp
      rw [e9]
      exact second _ any 19997 (by rw [ha, if_neg (by simp [sepT_ne])]) hl hk
    by_cases c2 : acc = []
    · rw [if_pos (by rw [ha, if_pos c2])]
      refine w_wr hR (by omega) (k := 40) rfl ?_
      rw [show acc ++ [40] = sepT acc by unfold sepT; rw [if_pos c2]]
      rw [wq9, e1]
      refine ⟨by decide, by omega, by omega, ?_⟩
      by_cases c3 : bf (mB W b) g i = 1
      · rw [if_pos c3]
        refine w_wr hR (by rw [sepT_le]; omega) (k := 45) rfl ?_
        rw [wq7, e3]
        exact ⟨by omega, by have := fin 1 rfl 45 (by rw [if_pos c3]); exact this⟩
      · rw [if_neg c3]
        refine w_wr hR (by rw [sepT_le]; omega) (k := 61) rfl ?_
        rw [wq7, e3]
        exact ⟨by omega, by have := fin 1 rfl 61 (by rw [if_neg c3]); exact this⟩
    · rw [if_neg (by rw [ha, if_neg c2]; decide)]
      refine w_wr hR (by omega) (k := 44) rfl ?_
      rw [show acc ++ [44] = sepT acc by unfold sepT; rw [if_neg c2]]
      rw [wq9, e1]
      refine ⟨by decide, by omega, by omega, ?_⟩
      by_cases c3 : bf (mB W b) g i = 1
      · rw [if_pos c3]
        refine w_wr hR (by rw [sepT_le]; omega) (k := 45) rfl ?_
        rw [wq7, e3]
        exact ⟨by omega, by have := fin 1 rfl 45 (by rw [if_pos c3]); exact this⟩
      · rw [if_neg c3]
        refine w_wr hR (by rw [sepT_le]; omega) (k := 61) rfl ?_
        rw [wq7, e3]
        exact ⟨by omega, by have := fin 1 rfl 61 (by rw [if_neg c3]); exact this⟩
theorem mB_wrs {l : List Nat} {c : Int} : mB (wrs l W) c = mB W c := by
  unfold mB
  rw [wrs_2 (by decide), wrs_2 (by decide), wrs_2 (by decide), wrs_2 (by decide), wrs_2 (by decide)]
theorem m_writeChanges_15 (hb0 : 0 ≤ b) (hb : b < 8) (hB : BOK (mB W b)) {g t : Int} (hg : 0 ≤ g ∧ g < bn (mB W b)) (hR : RmW W n) {k6 : Int → Int → Int → Int → IM Unit} {Q : Unit → IS → Prop} :
    ∀ (d m : Nat) (i any : Int) (acc : List Nat), d < m → 1 ≤ i → i + d = bz (mB W b) g + 1 → (chI (mB W b) g d i acc).length ≤ n → any = (if acc = [] then (0 : Int) else 1) →
    (∀ any, any = (if chI (mB W b) g d i acc = [] then (0 : Int) else 1) → wp (k6 b t any (g + 1)) Q (wrs (chI (mB W b) g d i acc) W)) → wp (I12_writeChanges_15 k6 m b t any g i) Q (wrs acc W) := by
  have hz := (hB.2.1 g hg.1 hg.2)
  have h71 := hB.1
  have e : W.2 8 (b * 71 + g) = bz (mB W b) g := rfl
  intro d
  induction d with
  | zero =>
    intro m i any acc hm hi hd hl ha hk
    cases m with
    | zero => omega
    | succ m =>
      unfold I12_writeChanges_15 I12_writeChanges_15_st I12_writeChanges_184
      simp only [wp_ib, wp_ig, wp_ite, wp_ir, wp_igI, wp_ipI, wp_ipZ, wp_inz, wp_idI, wp_irI, wp_iSl, wp_iSc, wp_iSi, iu1_1, iu1_2, iu2_1, iu2_2, wA0, wS0, wA6, wS6, wA7, wS7, wA8, wS8, wA9, wS9, wA10, wS10, wA11, wS11, wA12, wS12, wA13, wS13, wA14, wS14, wA16, wS16, wA17, wS17, wA18, wS18, wA26, wS26, wA27, wS27, wZ28, wY28, wA29, wS29, wA30, wS30, wA31, wS31, wA32, wS32, wA33, wS33, wA34, wS34, wA35, wS35, wA36, wS36, wA38, wS38, wA39, wS39, wA40, wS40, wZ41, wY41, wA45, wS45, wA46, wS46, wZ47, wY47, wZ48, wY48, Nat.reduceEqDiff, reduceIte, false_and, true_and, and_true, and_self, if_false, if_true, and_false, wq6, wq7, wq8, wq9, wq10, wq11, wq12, wq13, wq14, wq16, wq17, wq18, wq39, wq40, wq41]
      rw [e, if_pos (by omega)]
      exact ⟨by omega, by omega, by omega, hk any ha⟩
  | succ d ih =>
    intro m i any acc hm hi hd hl ha hk
    cases m with
    | zero => omega
    | succ m =>
      unfold I12_writeChanges_15 I12_writeChanges_15_st
      simp only [wp_ib, wp_ig, wp_ite, wp_ir, wp_igI, wp_ipI, wp_ipZ, wp_inz, wp_idI, wp_irI, wp_iSl, wp_iSc, wp_iSi, iu1_1, iu1_2, iu2_1, iu2_2, wA0, wS0, wA6, wS6, wA7, wS7, wA8, wS8, wA9, wS9, wA10, wS10, wA11, wS11, wA12, wS12, wA13, wS13, wA14, wS14, wA16, wS16, wA17, wS17, wA18, wS18, wA26, wS26, wA27, wS27, wZ28, wY28, wA29, wS29, wA30, wS30, wA31, wS31, wA32, wS32, wA33, wS33, wA34, wS34, wA35, wS35, wA36, wS36, wA38, wS38, wA39, wS39, wA40, wS40, wZ41, wY41, wA45, wS45, wA46, wS46, wZ47, wY47, wZ48, wY48, Nat.reduceEqDiff, reduceIte, false_and, true_and, and_true, and_self, if_false, if_true, and_false, wq6, wq7, wq8, wq9, wq10, wq11, wq12, wq13, wq14, wq16, wq17, wq18, wq39, wq40, wq41]
      rw [e, if_neg (by omega), wp_ret m_spot]
      have hle := chI_le (B := mB W b) hz.1.2 d (i + 1) (itM (mB W b) g i (itF (mB W b) g i acc))
      unfold chI at hl hk
      refine ⟨by omega, by omega, by omega, ?_⟩
      exact m_writeChanges_45 hb0 hb hB ⟨hg, hi, by omega⟩ hR (by omega) (fun any' ha' => ih m (i + 1) any' _ (by omega) (by omega) (by omega) hl ha' hk) ha
theorem m_writeChanges_6 (hb0 : 0 ≤ b) (hb : b < 8) (hB : BOK (mB W b)) {t : Int} (ht : t < bn (mB W b)) (hR : RmW W n) {Q : Unit → IS → Prop} :
    ∀ (d m : Nat) (g any : Int) (acc : List Nat), d < m → 0 ≤ g → g + d = t + 1 → (clo (chG (mB W b) d g acc)).length ≤ n → any = (if acc = [] then (0 : Int) else 1) →
    Q () (wrs (clo (chG (mB W b) d g acc)) W) → wp (I12_writeChanges_6 m b t any g) Q (wrs acc W) := by
  have h71 := hB.1
  intro d
  induction d with
  | zero =>
    intro m g any acc hm hg hd hl ha hk
    cases m with
    | zero => omega
    | succ m =>
      have haR : R32 any := by rw [ha]; split <;> decide
      unfold I12_writeChanges_6 I12_writeChanges_6_st I12_writeChanges_190
      simp only [wp_ib, wp_ig, wp_ite, wp_ir, wp_igI, wp_ipI, wp_ipZ, wp_inz, wp_idI, wp_irI, wp_iSl, wp_iSc, wp_iSi, iu1_1, iu1_2, iu2_1, iu2_2, wA0, wS0, wA6, wS6, wA7, wS7, wA8, wS8, wA9, wS9, wA10, wS10, wA11, wS11, wA12, wS12, wA13, wS13, wA14, wS14, wA16, wS16, wA17, wS17, wA18, wS18, wA26, wS26, wA27, wS27, wZ28, wY28, wA29, wS29, wA30, wS30, wA31, wS31, wA32, wS32, wA33, wS33, wA34, wS34, wA35, wS35, wA36, wS36, wA38, wS38, wA39, wS39, wA40, wS40, wZ41, wY41, wA45, wS45, wA46, wS46, wZ47, wY47, wZ48, wY48, Nat.reduceEqDiff, reduceIte, false_and, true_and, and_true, and_self, if_false, if_true, and_false, wq6, wq7, wq8, wq9, wq10, wq11, wq12, wq13, wq14, wq16, wq17, wq18, wq39, wq40, wq41]
      rw [if_pos (by omega)]
      refine ⟨by omega, by omega, haR, ?_⟩
      unfold chG at hl hk
      by_cases c : acc = []
      · rw [if_pos (by rw [ha, if_pos c])]
        unfold clo at hk
        rw [if_pos c] at hk
        rw [c]
        exact hk
      · rw [if_neg (by rw [ha, if_neg c]; decide)]
        unfold clo at hl hk
        rw [if_neg c] at hl hk
        exact w_wr hR (by simpa using hl) (k := 41) rfl hk
  | succ d ih =>
    intro m g any acc hm hg hd hl ha hk
    cases m with
    | zero => omega
    | succ m =>
      unfold I12_writeChanges_6 I12_writeChanges_6_st
      simp only [wp_ib, wp_ig, wp_ite, wp_ir, wp_igI, wp_ipI, wp_ipZ, wp_inz, wp_idI, wp_irI, wp_iSl, wp_iSc, wp_iSi, iu1_1, iu1_2, iu2_1, iu2_2, wA0, wS0, wA6, wS6, wA7, wS7, wA8, wS8, wA9, wS9, wA10, wS10, wA11, wS11, wA12, wS12, wA13, wS13, wA14, wS14, wA16, wS16, wA17, wS17, wA18, wS18, wA26, wS26, wA27, wS27, wZ28, wY28, wA29, wS29, wA30, wS30, wA31, wS31, wA32, wS32, wA33, wS33, wA34, wS34, wA35, wS35, wA36, wS36, wA38, wS38, wA39, wS39, wA40, wS40, wZ41, wY41, wA45, wS45, wA46, wS46, wZ47, wY47, wZ48, wY48, Nat.reduceEqDiff, reduceIte, false_and, true_and, and_true, and_self, if_false, if_true, and_false, wq6, wq7, wq8, wq9, wq10, wq11, wq12, wq13, wq14, wq16, wq17, wq18, wq39, wq40, wq41]
      rw [if_neg (by omega)]
      have hz := (hB.2.1 g hg (by omega))
      have hle := chG_le hB d (g + 1) (chI (mB W b) g (bz (mB W b) g).toNat 1 acc) (by omega) (by omega)
      have hle2 := clo_le (chG (mB W b) d (g + 1) (chI (mB W b) g (bz (mB W b) g).toNat 1 acc))
      unfold chG at hl hk
      refine ⟨by omega, by omega, ?_⟩
      exact m_writeChanges_15 hb0 hb hB ⟨hg, by omega⟩ hR (bz (mB W b) g).toNat LFU 1 any acc (by unfold LFU; omega) (by omega) (by omega) (by omega) ha (fun any' ha' => ih m (g + 1) any' _ (by omega) (by omega) (by omega) hl ha' hk)
theorem m_writeChanges (hb0 : 0 ≤ b) (hb : b < 8) (hB : BOK (mB W b)) {f t : Int} (hf : 0 ≤ f) (hft : f ≤ t) (ht : t < bn (mB W b)) {acc : List Nat} (hR : RmW W n) (hl : acc.length + (chT (mB W b) f t).length ≤ n) {Q : Unit → IS → Prop} (hk : Q () (wrs (acc ++ chT (mB W b) f t) W)) : wp (I12_writeChanges b f t) Q (wrs acc W) := by
  have h71 := hB.1
  have hR2 : RmW (wrs acc W) (n - acc.length) := hR.rest (by omega)
  unfold I12_writeChanges
  refine m_writeChanges_6 (W := wrs acc W) (n := n - acc.length) hb0 hb (by rw [mB_wrs]; exact hB) (by rw [mB_wrs]; exact ht) hR2 (t + 1 - f).toNat LFU f 0 [] (by unfold LFU; omega) hf (by omega) ?_ rfl ?_
  · rw [mB_wrs]; unfold chT at hl; omega
  · rw [mB_wrs, ← wrs_app]; exact hk
/-- one group -/
theorem m_group (hb0 : 0 ≤ b) (hb : b < 8) (hB : BOK (mB W b)) {f t : Int} (hf : 0 ≤ f) (hft : f ≤ t) (ht : t < bn (mB W b)) (hR : RmW W n) (hl : (preT f ++ grT (mB W b) f t).length ≤ n) {k7 : Int → Int → IM Unit} {Q : Unit → IS → Prop} (hk : wp (k7 b (t + 1)) Q (wrs (preT f ++ grT (mB W b) f t) W)) : wp (I12_writeBook_122 k7 b f (b * 71) t) Q W := by
  have h71 := hB.1
  have hsf := (hB.2.1 f hf (by omega))
  have hst := (hB.2.1 t (by omega) ht)
  have e1 : W.2 7 (b * 71 + f) = bs (mB W b) f := rfl
  have e2 : W.2 7 (b * 71 + t) = bs (mB W b) t := rfl
  have e3 : W.2 8 (b * 71 + f) = bz (mB W b) f := rfl
  have main : ∀ acc, acc = preT f → wp (I12_writeBook_132 k7 b f (b * 71) t) Q (wrs acc W) := by
    intro acc ha
    rw [← ha] at hl hk
    unfold grT at hl hk
    simp only [List.length_append] at hl
    unfold I12_writeBook_132 I12_writeBook_169
    simp only [wp_ib, wp_ig, wp_ite, wp_ir, wp_igI, wp_ipI, wp_ipZ, wp_inz, wp_idI, wp_irI, wp_iSl, wp_iSc, wp_iSi, iu1_1, iu1_2, iu2_1, iu2_2, wA0, wS0, wA6, wS6, wA7, wS7, wA8, wS8, wA9, wS9, wA10, wS10, wA11, wS11, wA12, wS12, wA13, wS13, wA14, wS14, wA16, wS16, wA17, wS17, wA18, wS18, wA26, wS26, wA27, wS27, wZ28, wY28, wA29, wS29, wA30, wS30, wA31, wS31, wA32, wS32, wA33, wS33, wA34, wS34, wA35, wS35, wA36, wS36, wA38, wS38, wA39, wS39, wA40, wS40, wZ41, wY41, wA45, wS45, wA46, wS46, wZ47, wY47, wZ48, wY48, Nat.reduceEqDiff, reduceIte, false_and, true_and, and_true, and_self, if_false, if_true, and_false, wq6, wq7, wq8, wq9, wq10, wq11, wq12, wq13, wq14, wq16, wq17, wq18, wq39, wq40, wq41]
    rw [e1]
    refine ⟨by omega, w_sg hR (by omega) hsf.1.1 hsf.1.2 ⟨by omega, by omega, ?_⟩⟩
    by_cases c : t ≤ f
    · rw [if_pos c]
      rw [if_pos c] at hl hk
      rw [wq8, e3]
      simp only [List.length_nil] at hl
      refine ⟨by omega, w_nu hR (by simp only [List.length_append]; omega) (by omega) (by omega) (m_writeChanges hb0 hb hB hf hft ht hR (by simp only [List.length_append]; omega) ?_)⟩
      simp only [List.append_assoc, List.nil_append] at hk ⊢
      exact hk
    · rw [if_neg c]
      rw [if_neg c] at hl hk
      simp only [List.length_cons] at hl
      refine w_wr hR (by simp only [List.length_append]; omega) (k := 45) rfl ?_
      rw [wq7, e2]
      refine ⟨by omega, w_sg hR (by simp only [List.length_append, List.length_cons, List.length_nil]; omega) hst.1.1 hst.1.2 ?_⟩
      rw [wq8, e3]
      refine ⟨by omega, w_nu hR (by simp only [List.length_append, List.length_cons, List.length_nil]; omega) (by omega) (by omega) (m_writeChanges hb0 hb hB hf hft ht hR (by simp only [List.length_append, List.length_cons, List.length_nil]; omega) ?_)⟩
      simp only [List.append_assoc, List.cons_append, List.nil_append] at hk ⊢
      exact hk
  unfold I12_writeBook_122
  simp only [wp_ib, wp_ig, wp_ite, wp_ir, wp_igI, wp_ipI, wp_ipZ, wp_inz, wp_idI, wp_irI, wp_iSl, wp_iSc, wp_iSi, iu1_1, iu1_2, iu2_1, iu2_2, wA0, wS0, wA6, wS6, wA7, wS7, wA8, wS8, wA9, wS9, wA10, wS10, wA11, wS11, wA12, wS12, wA13, wS13, wA14, wS14, wA16, wS16, wA17, wS17, wA18, wS18, wA26, wS26, wA27, wS27, wZ28, wY28, wA29, wS29, wA30, wS30, wA31, wS31, wA32, wS32, wA33, wS33, wA34, wS34, wA35, wS35, wA36, wS36, wA38, wS38, wA39, wS39, wA40, wS40, wZ41, wY41, wA45, wS45, wA46, wS46, wZ47, wY47, wZ48, wY48, Nat.reduceEqDiff, reduceIte, false_and, true_and, and_true, and_self, if_false, if_true, and_false]
  refine ⟨by omega, ?_⟩
  by_cases c : f ≤ 0
  · rw [if_pos c]
    exact main [] (by unfold preT; rw [if_pos c])
  · rw [if_neg c]
    have e4 : preT f = [32] := if_neg c
    refine w_wr (acc := []) hR ?_ (k := 32) rfl (main [32] e4.symm)
    rw [e4] at hl
    simp only [List.length_append, List.length_cons, List.length_nil] at hl ⊢
    omega
theorem m_isLetters {s : Int} (h : R32 s) : I12_isLetters s W = some (if s = 0 ∨ s = 70 then 0 else 1, W) := by
  refine wp_eq ?_
  unfold I12_isLetters
  simp only [wp_ib, wp_ig, wp_ite, wp_ir, wp_igI, wp_ipI, wp_ipZ, wp_inz, wp_idI, wp_irI, wp_iSl, wp_iSc, wp_iSi, iu1_1, iu1_2, iu2_1, iu2_2, wA0, wS0, wA6, wS6, wA7, wS7, wA8, wS8, wA9, wS9, wA10, wS10, wA11, wS11, wA12, wS12, wA13, wS13, wA14, wS14, wA16, wS16, wA17, wS17, wA18, wS18, wA26, wS26, wA27, wS27, wZ28, wY28, wA29, wS29, wA30, wS30, wA31, wS31, wA32, wS32, wA33, wS33, wA34, wS34, wA35, wS35, wA36, wS36, wA38, wS38, wA39, wS39, wA40, wS40, wZ41, wY41, wA45, wS45, wA46, wS46, wZ47, wY47, wZ48, wY48, Nat.reduceEqDiff, reduceIte, false_and, true_and, and_true, and_self, if_false, if_true, and_false]
  refine ⟨h, ?_⟩
  by_cases h1 : s = 0
  · rw [if_pos h1, if_pos (Or.inl h1)]; (first | done | exact ⟨rfl, rfl⟩ | exact ⟨trivial, rfl⟩ | exact ⟨rfl, trivial⟩ | rfl | trivial)
  · rw [if_neg h1]
    by_cases h2 : s = 70
    · rw [if_pos h2, if_pos (Or.inr h2)]; (first | done | exact ⟨rfl, rfl⟩ | exact ⟨trivial, rfl⟩ | exact ⟨rfl, trivial⟩ | rfl | trivial)
    · have h3 : ¬ (s = 0 ∨ s = 70) := by omega
      rw [if_neg h2, if_neg h3]; (first | done | exact ⟨rfl, rfl⟩ | exact ⟨trivial, rfl⟩ | exact ⟨rfl, trivial⟩ | rfl | trivial)
/-- how far a group goes -/
theorem m_writeBook_25 (hb0 : 0 ≤ b) (hb : b < 8) (hB : BOK (mB W b)) {f : Int} (hf : 0 ≤ f) (hR : RmW W n) {k7 : Int → Int → IM Unit} {Q : Unit → IS → Prop} :
    ∀ (d m : Nat) (h : Int), d < m → f ≤ h → h + (d + 1 : Nat) = bn (mB W b) → bz (mB W b) h = bz (mB W b) f → (h = f ∨ (0 < bs (mB W b) f ∧ bs (mB W b) f < 70 ∧ 0 < bs (mB W b) h)) → (fT (mB W b) (d + 1) f h).length ≤ n →
    (∀ t, h ≤ t → t < bn (mB W b) → fT (mB W b) (d + 1) f h = (preT f ++ grT (mB W b) f t) ++ fT (mB W b) (bn (mB W b) - (t + 1)).toNat (t + 1) (t + 1) → wp (k7 b (t + 1)) Q (wrs (preT f ++ grT (mB W b) f t) W)) → wp (I12_writeBook_25 k7 m b f (b * 71) h) Q W := by
  have h71 := hB.1
  have e6 : W.2 6 b = bn (mB W b) := rfl
  intro d
  induction d with
  | zero =>
    intro m h hm hfh hd hz hs hl hk
    cases m with
    | zero => omega
    | succ m =>
      have ng : ¬ goes (mB W b) h := fun q => by have := q.1; omega
      have ef : fT (mB W b) (0 + 1) f h = (preT f ++ grT (mB W b) f h) ++ fT (mB W b) (bn (mB W b) - (h + 1)).toNat (h + 1) (h + 1) := by
        have e0 : (bn (mB W b) - (h + 1)).toNat = 0 := by omega
        rw [e0]
        show (if goes (mB W b) h then _ else _) = _
        rw [if_neg ng, List.append_assoc]
      unfold I12_writeBook_25 I12_writeBook_25_st
      simp only [wp_ib, wp_ig, wp_ite, wp_ir, wp_igI, wp_ipI, wp_ipZ, wp_inz, wp_idI, wp_irI, wp_iSl, wp_iSc, wp_iSi, iu1_1, iu1_2, iu2_1, iu2_2, wA0, wS0, wA6, wS6, wA7, wS7, wA8, wS8, wA9, wS9, wA10, wS10, wA11, wS11, wA12, wS12, wA13, wS13, wA14, wS14, wA16, wS16, wA17, wS17, wA18, wS18, wA26, wS26, wA27, wS27, wZ28, wY28, wA29, wS29, wA30, wS30, wA31, wS31, wA32, wS32, wA33, wS33, wA34, wS34, wA35, wS35, wA36, wS36, wA38, wS38, wA39, wS39, wA40, wS40, wZ41, wY41, wA45, wS45, wA46, wS46, wZ47, wY47, wZ48, wY48, Nat.reduceEqDiff, reduceIte, false_and, true_and, and_true, and_self, if_false, if_true, and_false]
      rw [e6, if_pos (by omega)]
      refine ⟨by omega, by omega, by omega, m_group hb0 hb hB hf hfh (by omega) hR ?_ (hk h (Int.le_refl _) (by omega) ef)⟩
      rw [ef] at hl
      simp only [List.length_append] at hl ⊢
      omega
  | succ d ih =>
    intro m h hm hfh hd hz hs hl hk
    cases m with
    | zero => omega
    | succ m =>
      have hsf := (hB.2.1 f hf (by omega))
      have hsh := (hB.2.1 h (by omega) (by omega))
      have hsh1 := (hB.2.1 (h + 1) (by omega) (by omega))
      have e1 : W.2 7 (b * 71 + f) = bs (mB W b) f := rfl
      have e2 : W.2 7 (b * 71 + h + 1) = bs (mB W b) (h + 1) := by show _ = W.2 7 (b * 71 + (h + 1)); rw [Int.add_assoc]
      have e3 : W.2 7 (b * 71 + h) = bs (mB W b) h := rfl
      have e4 : W.2 8 (b * 71 + h + 1) = bz (mB W b) (h + 1) := by show _ = W.2 8 (b * 71 + (h + 1)); rw [Int.add_assoc]
      have e5 : W.2 8 (b * 71 + f) = bz (mB W b) f := rfl
      have stop : ¬ goes (mB W b) h → wp (I12_writeBook_122 k7 b f (b * 71) h) Q W := fun ng => by
        have ef : fT (mB W b) (d + 1 + 1) f h = (preT f ++ grT (mB W b) f h) ++ fT (mB W b) (bn (mB W b) - (h + 1)).toNat (h + 1) (h + 1) := by
          have e0 : (bn (mB W b) - (h + 1)).toNat = d + 1 := by omega
          rw [e0]
          show (if goes (mB W b) h then _ else _) = _
          rw [if_neg ng, List.append_assoc]
        refine m_group hb0 hb hB hf hfh (by omega) hR ?_ (hk h (Int.le_refl _) (by omega) ef)
        rw [ef] at hl
        simp only [List.length_append] at hl ⊢
        omega
      unfold I12_writeBook_25 I12_writeBook_25_st
      simp only [wp_ib, wp_ig, wp_ite, wp_ir, wp_igI, wp_ipI, wp_ipZ, wp_inz, wp_idI, wp_irI, wp_iSl, wp_iSc, wp_iSi, iu1_1, iu1_2, iu2_1, iu2_2, wA0, wS0, wA6, wS6, wA7, wS7, wA8, wS8, wA9, wS9, wA10, wS10, wA11, wS11, wA12, wS12, wA13, wS13, wA14, wS14, wA16, wS16, wA17, wS17, wA18, wS18, wA26, wS26, wA27, wS27, wZ28, wY28, wA29, wS29, wA30, wS30, wA31, wS31, wA32, wS32, wA33, wS33, wA34, wS34, wA35, wS35, wA36, wS36, wA38, wS38, wA39, wS39, wA40, wS40, wZ41, wY41, wA45, wS45, wA46, wS46, wZ47, wY47, wZ48, wY48, Nat.reduceEqDiff, reduceIte, false_and, true_and, and_true, and_self, if_false, if_true, and_false]
      rw [e6, if_neg (by omega), e1, wp_ret (m_isLetters (by omega)), e2]
      refine ⟨by omega, by omega, by omega, by omega, by split <;> decide, ?_⟩
      by_cases c1 : bs (mB W b) f = 0 ∨ bs (mB W b) f = 70
      · rw [if_pos c1, if_pos rfl]
        exact stop fun q => by
          have := q.2
          rcases hs with e | hs
          · subst e; omega
          · omega
      · rw [if_neg c1, if_neg (by decide), wp_ret (m_isLetters (by omega))]
        refine ⟨by omega, by split <;> decide, ?_⟩
        by_cases c2 : bs (mB W b) (h + 1) = 0 ∨ bs (mB W b) (h + 1) = 70
        · rw [if_pos c2, if_pos rfl]
          exact stop fun q => by have := q.2; omega
        · rw [if_neg c2, if_neg (by decide), e2, e3]
          refine ⟨by omega, by omega, by omega, by omega, ?_⟩
          by_cases c3 : bs (mB W b) (h + 1) = bs (mB W b) h + 1
          · rw [if_pos c3, e4, e5]
            refine ⟨by omega, by omega, by omega, by omega, ?_⟩
            by_cases c4 : bz (mB W b) (h + 1) = bz (mB W b) f
            · rw [if_pos c4]
              have g0 : 0 < bs (mB W b) h := by
                rcases hs with e | hs
                · subst e; omega
                · omega
              have gf : 0 < bs (mB W b) f ∧ bs (mB W b) f < 70 := by
                rcases hs with e | hs
                · subst e; omega
                · omega
              have g1 : goes (mB W b) h := ⟨by omega, g0, by omega, c3, by omega⟩
              have ef : fT (mB W b) (d + 1 + 1) f h = fT (mB W b) (d + 1) f (h + 1) := if_pos g1
              rw [ef] at hl hk
              exact ih m (h + 1) (by omega) (by omega) (by omega) c4 (Or.inr ⟨gf.1, gf.2, by omega⟩) hl (fun t q1 q2 q3 => hk t (by omega) q2 q3)
            · rw [if_neg c4]
              exact stop fun q => by have := q.2; omega
          · rw [if_neg c3]
            exact stop fun q => c3 q.2.2.2.1
theorem m_writeBook_7 (hb0 : 0 ≤ b) (hb : b < 8) : ∀ (k d m : Nat) (W : IS) (g : Int), d ≤ k → BOK (mB W b) → d < m → 0 ≤ g → g + d = bn (mB W b) → RmW W (fT (mB W b) d g g).length → I12_writeBook_7 m b g W = some ((), wrs (fT (mB W b) d g g) W) := by
  intro k
  induction k with
  | zero =>
    intro d m W g hdk hB hm hg hd hR
    have h71 := hB.1
    have e6 : W.2 6 b = bn (mB W b) := rfl
    cases m with
    | zero => omega
    | succ m =>
      rw [show d = 0 by omega] at hd hR ⊢
      refine wp_eq ?_
      unfold I12_writeBook_7 I12_writeBook_7_st
      simp only [wp_ib, wp_ig, wp_ite, wp_ir, wp_igI, wp_ipI, wp_ipZ, wp_inz, wp_idI, wp_irI, wp_iSl, wp_iSc, wp_iSi, iu1_1, iu1_2, iu2_1, iu2_2, wA0, wS0, wA6, wS6, wA7, wS7, wA8, wS8, wA9, wS9, wA10, wS10, wA11, wS11, wA12, wS12, wA13, wS13, wA14, wS14, wA16, wS16, wA17, wS17, wA18, wS18, wA26, wS26, wA27, wS27, wZ28, wY28, wA29, wS29, wA30, wS30, wA31, wS31, wA32, wS32, wA33, wS33, wA34, wS34, wA35, wS35, wA36, wS36, wA38, wS38, wA39, wS39, wA40, wS40, wZ41, wY41, wA45, wS45, wA46, wS46, wZ47, wY47, wZ48, wY48, Nat.reduceEqDiff, reduceIte, false_and, true_and, and_true, and_self, if_false, if_true, and_false]
      rw [e6, if_pos (by omega)]
      exact ⟨by omega, by omega, by omega, rfl⟩
  | succ k ih =>
    intro d m W g hdk hB hm hg hd hR
    have h71 := hB.1
    have e6 : W.2 6 b = bn (mB W b) := rfl
    cases m with
    | zero => omega
    | succ m =>
      cases d with
      | zero =>
        refine wp_eq ?_
        unfold I12_writeBook_7 I12_writeBook_7_st
        simp only [wp_ib, wp_ig, wp_ite, wp_ir, wp_igI, wp_ipI, wp_ipZ, wp_inz, wp_idI, wp_irI, wp_iSl, wp_iSc, wp_iSi, iu1_1, iu1_2, iu2_1, iu2_2, wA0, wS0, wA6, wS6, wA7, wS7, wA8, wS8, wA9, wS9, wA10, wS10, wA11, wS11, wA12, wS12, wA13, wS13, wA14, wS14, wA16, wS16, wA17, wS17, wA18, wS18, wA26, wS26, wA27, wS27, wZ28, wY28, wA29, wS29, wA30, wS30, wA31, wS31, wA32, wS32, wA33, wS33, wA34, wS34, wA35, wS35, wA36, wS36, wA38, wS38, wA39, wS39, wA40, wS40, wZ41, wY41, wA45, wS45, wA46, wS46, wZ47, wY47, wZ48, wY48, Nat.reduceEqDiff, reduceIte, false_and, true_and, and_true, and_self, if_false, if_true, and_false]
        rw [e6, if_pos (by omega)]
        exact ⟨by omega, by omega, by omega, rfl⟩
      | succ d =>
        refine wp_eq ?_
        unfold I12_writeBook_7 I12_writeBook_7_st
        simp only [wp_ib, wp_ig, wp_ite, wp_ir, wp_igI, wp_ipI, wp_ipZ, wp_inz, wp_idI, wp_irI, wp_iSl, wp_iSc, wp_iSi, iu1_1, iu1_2, iu2_1, iu2_2, wA0, wS0, wA6, wS6, wA7, wS7, wA8, wS8, wA9, wS9, wA10, wS10, wA11, wS11, wA12, wS12, wA13, wS13, wA14, wS14, wA16, wS16, wA17, wS17, wA18, wS18, wA26, wS26, wA27, wS27, wZ28, wY28, wA29, wS29, wA30, wS30, wA31, wS31, wA32, wS32, wA33, wS33, wA34, wS34, wA35, wS35, wA36, wS36, wA38, wS38, wA39, wS39, wA40, wS40, wZ41, wY41, wA45, wS45, wA46, wS46, wZ47, wY47, wZ48, wY48, Nat.reduceEqDiff, reduceIte, false_and, true_and, and_true, and_self, if_false, if_true, and_false]
        rw [e6, if_neg (by omega)]
        refine ⟨by omega, by omega, by omega, ?_⟩
        refine m_writeBook_25 hb0 hb hB hg hR d LFU g (by unfold LFU; omega) (Int.le_refl _) (by omega) rfl (Or.inl rfl) (Nat.le_refl _) (fun t q1 q2 q3 => ?_)
        have hB' : mB (wrs (preT g ++ grT (mB W b) g t) W) b = mB W b := mB_wrs
        rw [q3] at hR ⊢
        have hR2 := hR.rest (l := preT g ++ grT (mB W b) g t) (by simp only [List.length_append]; omega)
        rw [wp_ret (ih (bn (mB W b) - (t + 1)).toNat m _ (t + 1) (by omega) (by rw [hB']; exact hB) (by omega) (by omega) (by rw [hB']; omega) (by rw [hB']; exact hR2.le (by simp only [List.length_append]; omega)))]
        rw [hB']
        exact (wrs_app _ _ _).symm
theorem m_writeBook (hb0 : 0 ≤ b) (hb : b < 8) (hB : BOK (mB W b)) : I12_writeBook b W = some ((), wrs (bkT (mB W b)) (iu1 W 37 0)) := by
  have h71 := hB.1
  have hl := bkT_le hB
  refine wp_eq ?_
  unfold I12_writeBook
  simp only [wp_ib, wp_ig, wp_ite, wp_ir, wp_igI, wp_ipI, wp_ipZ, wp_inz, wp_idI, wp_irI, wp_iSl, wp_iSc, wp_iSi, iu1_1, iu1_2, iu2_1, iu2_2, wA0, wS0, wA6, wS6, wA7, wS7, wA8, wS8, wA9, wS9, wA10, wS10, wA11, wS11, wA12, wS12, wA13, wS13, wA14, wS14, wA16, wS16, wA17, wS17, wA18, wS18, wA26, wS26, wA27, wS27, wZ28, wY28, wA29, wS29, wA30, wS30, wA31, wS31, wA32, wS32, wA33, wS33, wA34, wS34, wA35, wS35, wA36, wS36, wA38, wS38, wA39, wS39, wA40, wS40, wZ41, wY41, wA45, wS45, wA46, wS46, wZ47, wY47, wZ48, wY48, Nat.reduceEqDiff, reduceIte, false_and, true_and, and_true, and_self, if_false, if_true, and_false]
  have e : mB (iu1 W 37 0) b = mB W b := rfl
  have hR : RmW (iu1 W 37 0) (bkT (mB W b)).length := ⟨by show (0 : Int) ≤ 0; omega, by show (0 : Int) + _ ≤ _; omega⟩
  have := m_writeBook_7 hb0 hb (bn (mB W b)).toNat (bn (mB W b)).toNat LFU (iu1 W 37 0) 0 (Nat.le_refl _) (by rw [e]; exact hB) (by unfold LFU; omega) (by omega) (by rw [e]; omega) (by rw [e]; exact hR)
  rw [wp_ret this, e]
  rfl
/-- the model's names -/
theorem m_writeName {p : Int} (hb0 : 0 ≤ b) (hb : b < 8) (hI : BkI W b) (h0 : 0 ≤ p) (h1 : p < LC (mB W b)) {acc : List Nat} (hR : RmW W n) (hl : acc.length + (namT (bs (mB W b) (W.2 12 (b * 400 + p))) (W.2 13 (b * 400 + p)) (W.2 14 (b * 400 + p))).length ≤ n) {Q : Unit → IS → Prop} (hk : Q () (wrs (acc ++ namT (bs (mB W b) (W.2 12 (b * 400 + p))) (W.2 13 (b * 400 + p)) (W.2 14 (b * 400 + p))) W)) : wp (I12_writeName b p) Q (wrs acc W) := by
  have hA := hI.at h0 h1
  have h400 := hI.2.2.1
  have hB := hI.1
  have hz := hB.2.1 _ hA.1.1.1 hA.1.1.2
  have hmm := hB.2.2.1 _ _ hA.1.1.1 hA.1.1.2 hA.1.2.1 hA.1.2.2
  have hcc := cut01 (B := mB W b) (W.2 12 (b * 400 + p)) (W.2 13 (b * 400 + p))
  have hA1 := hA.1
  have hA2 := hA.2
  have hn71 := hB.1
  unfold isV at hA1
  have e3 : W.2 7 (b * 71 + W.2 12 (b * 400 + p)) = bs (mB W b) (W.2 12 (b * 400 + p)) := rfl
  unfold namT at hl hk
  simp only [List.length_append] at hl
  unfold I12_writeName
  simp only [wp_ib, wp_ig, wp_ite, wp_ir, wp_igI, wp_ipI, wp_ipZ, wp_inz, wp_idI, wp_irI, wp_iSl, wp_iSc, wp_iSi, iu1_1, iu1_2, iu2_1, iu2_2, wA0, wS0, wA6, wS6, wA7, wS7, wA8, wS8, wA9, wS9, wA10, wS10, wA11, wS11, wA12, wS12, wA13, wS13, wA14, wS14, wA16, wS16, wA17, wS17, wA18, wS18, wA26, wS26, wA27, wS27, wZ28, wY28, wA29, wS29, wA30, wS30, wA31, wS31, wA32, wS32, wA33, wS33, wA34, wS34, wA35, wS35, wA36, wS36, wA38, wS38, wA39, wS39, wA40, wS40, wZ41, wY41, wA45, wS45, wA46, wS46, wZ47, wY47, wZ48, wY48, Nat.reduceEqDiff, reduceIte, false_and, true_and, and_true, and_self, if_false, if_true, and_false, wq6, wq7, wq8, wq9, wq10, wq11, wq12, wq13, wq14, wq16, wq17, wq18, wq39, wq40, wq41]
  rw [e3]
  refine ⟨by omega, by omega, w_sg hR (by omega) hz.1.1 hz.1.2 ?_⟩
  rw [wq13]
  refine ⟨by omega, w_nu hR (by simp only [List.length_append]; omega) (by omega) (by omega) ?_⟩
  rw [wq14]
  refine ⟨by omega, by omega, ?_⟩
  by_cases c : W.2 14 (b * 400 + p) = 0
  · rw [if_pos c]
    rw [if_pos (by omega)] at hk
    simp only [List.append_assoc, List.append_nil] at hk ⊢
    exact hk
  · rw [if_neg c]
    rw [if_neg (by omega)] at hl hk
    simp only [List.length_cons] at hl
    refine w_wr hR (by simp only [List.length_append]; omega) (k := 43) rfl ?_
    rw [wq14]
    refine ⟨by omega, w_nu hR (by simp only [List.length_append, List.length_cons, List.length_nil]; omega) (by omega) (by omega) ?_⟩
    simp only [List.append_assoc, List.cons_append, List.nil_append] at hk ⊢
    exact hk
end MFO
